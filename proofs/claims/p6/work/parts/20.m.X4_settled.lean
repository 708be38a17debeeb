/-! X4_settled -/
abbrev wX4_settled (cI cJ cZ cS : ClassId) (a_t a_party a_party_kinds a_party_costs a_party_terms a_party_known a_kept a_tape a_telephone a_sheets a_findings : Nat) (v_isKept : Int32) (v_party_size : Int32) (v_party_list : Int32) (v_party_told : Int32) (v_party_kinds : Nat → Int32) (v_party_terms : Nat → Int64) (v_party_known : Nat → Int32) : va_W := [(a_t, .inr (4, [.ref a_party, .ref a_kept, .int v_isKept, .ref a_tape, .ref a_telephone, .ref a_sheets, .ref a_findings])), (a_party, .inr (0, [.int v_party_size, .int v_party_list, .int v_party_told, .ref a_party_kinds, .ref a_party_costs, .ref a_party_terms, .ref a_party_known])), (a_party_kinds, .inl (cI, 8, .inl v_party_kinds)), (a_party_terms, .inl (cJ, 32, .inr (.inl v_party_terms))), (a_party_known, .inl (cI, 256, .inl v_party_known))]
abbrev rX4_settled : Room := { frames := 5, cells := 0, slots := 0, locals := 111 }
def fX4_settled_4 (v_party_size : Int32) (v_party_kinds : Nat → Int32) (v_party_terms : Nat → Int64) (ag4 : (Nat → Int32) → Int32 → Int32 → Option (Int32 × (Nat → Int32))) (v_party_known : Nat → Int32) (y1 : Int32) (y2 : Int32) : Option (Int32 × (Nat → Int32)) :=
  bR (fX0_lists v_party_size) (fun r1 k1 =>
  (if r1 ≤ y2 then (
  some (y1, v_party_known))
  else (
  bR (fX0_isSettled v_party_size v_party_kinds v_party_terms v_party_known y2) (fun r3 k3 =>
  bR (fX4_oneIf r3) (fun r4 k4 =>
  nm (y1 + r4) (fun u5 =>
  nm (y2 + 1) (fun u6 =>
  ag4 k3 u5 u6)))))))
set_option maxRecDepth 100000 in
set_option maxHeartbeats 4000000 in
theorem LX4_settled_4 {p : Program} {l : Launch} {e : Env} {s : State} {m : MethodId} {args : Array Value} {below : List Frame} {meth : Method} {c : Code} {D : va_G} {cI cJ cZ cS : ClassId} {tb : Nat} {A : Nat → Prop} {a_t a_party a_party_kinds a_party_costs a_party_terms a_party_known a_kept a_tape a_telephone a_sheets a_findings : Nat} {v_isKept : Int32} {v_party_size : Int32} {v_party_list : Int32} {v_party_told : Int32} {v_party_kinds : Nat → Int32} {v_party_terms : Nat → Int64} {rr : Int32} {kk' : (Nat → Int32)} (fx : q_Fx p s m args meth c cX4_settled 3 RX4 (some .int) D cI cJ cZ cS tb A) {ag4 : (Nat → Int32) → Int32 → Int32 → Option (Int32 × (Nat → Int32))} (hag4 : ∀ {v_party_known : Nat → Int32} {y1 : Int32} {y2 : Int32} {H : Heap} {locs : List Loc} {ls : Array Slot}, q_H D A s (wX4_settled cI cJ cZ cS a_t a_party a_party_kinds a_party_costs a_party_terms a_party_known a_kept a_tape a_telephone a_sheets a_findings v_isKept v_party_size v_party_list v_party_told v_party_kinds v_party_terms v_party_known) H locs → lv_has ls 3 [(0, .ref a_t), (1, .int y1), (2, .int y2)] → ag4 v_party_known y1 y2 = some (rr, kk') → W p l e rX4_settled s m args below meth c H locs 0 0 (MQ below (q_Ri D rr A ((fun k : (Nat → Int32) => (wX4_settled cI cJ cZ cS a_t a_party a_party_kinds a_party_costs a_party_terms a_party_known a_kept a_tape a_telephone a_sheets a_findings v_isKept v_party_size v_party_list v_party_told v_party_kinds v_party_terms k)) kk')) args s 0 0 A) (F0 m 4 ls [])) : ∀ {v_party_known : Nat → Int32} {y1 : Int32} {y2 : Int32} {H : Heap} {locs : List Loc} {ls : Array Slot}, q_H D A s (wX4_settled cI cJ cZ cS a_t a_party a_party_kinds a_party_costs a_party_terms a_party_known a_kept a_tape a_telephone a_sheets a_findings v_isKept v_party_size v_party_list v_party_told v_party_kinds v_party_terms v_party_known) H locs → lv_has ls 3 [(0, .ref a_t), (1, .int y1), (2, .int y2)] → fX4_settled_4 v_party_size v_party_kinds v_party_terms ag4 v_party_known y1 y2 = some (rr, kk') → W p l e rX4_settled s m args below meth c H locs 0 0 (MQ below (q_Ri D rr A ((fun k : (Nat → Int32) => (wX4_settled cI cJ cZ cS a_t a_party a_party_kinds a_party_costs a_party_terms a_party_known a_kept a_tape a_telephone a_sheets a_findings v_isKept v_party_size v_party_list v_party_told v_party_kinds v_party_terms k)) kk')) args s 0 0 A) (F0 m 4 ls []) := by
  intro v_party_known y1 y2 H locs ls h hl hf
  have hx := fx.1
  have hb := fx.2.1
  unfold fX4_settled_4 at hf
  refine lv_iload_n hx hb dX4_settled_4 rfl (lv_at hl 2 rfl) ?_
  refine lv_aload_n hx hb dX4_settled_5 rfl (lv_at hl 0 rfl) ?_
  refine q_get (v := .ref a_party) fx inX4 h 0 rfl rfl 0 (by decide) k_174 rfl dX4_settled_6 ?_
  obtain ⟨r1, k1, hg, hf⟩ := bR_inv hf
  refine q_ci (rest := [.int y2]) (ws' := (wX4_settled cI cJ cZ cS a_t a_party a_party_kinds a_party_costs a_party_terms a_party_known a_kept a_tape a_telephone a_sheets a_findings v_isKept v_party_size v_party_list v_party_told v_party_kinds v_party_terms v_party_known)) (w1 := (wX0_lists cI cJ cZ cS a_party a_party_kinds a_party_costs a_party_terms a_party_known v_party_size v_party_list v_party_told)) fx h [1] rfl rfl rfl rfl (q_runV fx h hl.1 [1] rfl rfl (tX0_lists l D cI cJ cZ cS tb a_party a_party_kinds a_party_costs a_party_terms a_party_known H.size v_party_size v_party_list v_party_told r1 k1 hg) mvX0_lists k_447 ⟨rfl, rfl⟩ ⟨Nat.le_of_ble_eq_true rfl, Nat.le_of_ble_eq_true rfl⟩ rfl rfl rfl rfl (Nat.le_of_ble_eq_true rfl) dX4_settled_9 ⟨Nat.le_of_ble_eq_true rfl, Nat.le_of_ble_eq_true rfl⟩) (fun H locs h => ?_)
  refine lv_icmp_ge (tgt := 35) hx hb dX4_settled_12 (by decide) (fun c2 => ?_) (fun c2 => ?_)
  · have hf := it_t c2 hf
    refine lv_iload_n hx hb dX4_settled_35 rfl (lv_at hl 1 rfl) ?_
    exact q_reti (fun k : (Nat → Int32) => (wX4_settled cI cJ cZ cS a_t a_party a_party_kinds a_party_costs a_party_terms a_party_known a_kept a_tape a_telephone a_sheets a_findings v_isKept v_party_size v_party_list v_party_told v_party_kinds v_party_terms k)) fx hf h dX4_settled_36
  have hf := it_f c2 hf
  refine lv_iload_n hx hb dX4_settled_15 rfl (lv_at hl 1 rfl) ?_
  refine lv_aload_n hx hb dX4_settled_16 rfl (lv_at hl 0 rfl) ?_
  refine q_get (v := .ref a_party) fx inX4 h 0 rfl rfl 0 (by decide) k_174 rfl dX4_settled_17 ?_
  refine lv_iload_n hx hb dX4_settled_20 rfl (lv_at hl 2 rfl) ?_
  obtain ⟨r3, k3, hg, hf⟩ := bR_inv hf
  refine q_ci (rest := [.int y1]) (ws' := (wX4_settled cI cJ cZ cS a_t a_party a_party_kinds a_party_costs a_party_terms a_party_known a_kept a_tape a_telephone a_sheets a_findings v_isKept v_party_size v_party_list v_party_told v_party_kinds v_party_terms k3)) (w1 := (wX0_isSettled cI cJ cZ cS a_party a_party_kinds a_party_costs a_party_terms a_party_known v_party_size v_party_list v_party_told v_party_kinds v_party_terms k3)) fx h [1, 2, 3, 4] rfl rfl rfl rfl (q_runV fx h hl.1 [1, 2, 3, 4] rfl rfl (tX0_isSettled l D cI cJ cZ cS tb a_party a_party_kinds a_party_costs a_party_terms a_party_known H.size v_party_size v_party_list v_party_told v_party_kinds v_party_terms v_party_known y2 r3 k3 hg) mvX0_isSettled k_358 ⟨rfl, rfl⟩ ⟨Nat.le_of_ble_eq_true rfl, Nat.le_of_ble_eq_true rfl⟩ rfl rfl rfl rfl (Nat.le_of_ble_eq_true rfl) dX4_settled_21 ⟨Nat.le_of_ble_eq_true rfl, Nat.le_of_ble_eq_true rfl⟩) (fun H locs h => ?_)
  obtain ⟨r4, k4, hg, hf⟩ := bR_inv hf
  refine q_ci (rest := [.int y1]) (ws' := (wX4_settled cI cJ cZ cS a_t a_party a_party_kinds a_party_costs a_party_terms a_party_known a_kept a_tape a_telephone a_sheets a_findings v_isKept v_party_size v_party_list v_party_told v_party_kinds v_party_terms k3)) (w1 := (wX4_oneIf cI cJ cZ cS)) fx h [] rfl rfl rfl rfl (q_runS fx h hl.1 [] rfl rfl (tX4_oneIf l D cI cJ cZ cS tb H.size r3 r4 k4 hg) msX4_oneIf k_246 ⟨rfl, rfl⟩ ⟨Nat.le_of_ble_eq_true rfl, Nat.le_of_ble_eq_true rfl⟩ rfl rfl (Nat.le_of_ble_eq_true rfl) dX4_settled_24 ⟨Nat.le_of_ble_eq_true rfl, Nat.le_of_ble_eq_true rfl⟩) (fun H locs h => ?_)
  refine lv_iadd hx hb dX4_settled_27 ?_
  obtain ⟨u5, eu5, hf⟩ := nm_inv hf
  refine lv_eqi eu5 ?_
  refine lv_istore_n (lv' := [(1, .int u5), (0, .ref a_t), (2, .int y2)]) hx hb dX4_settled_28 rfl hl (by decide) rfl (fun ls hl => ?_)
  obtain ⟨u6, eu6, hf⟩ := nm_inv hf
  refine lv_iinc (v := u6) (lv' := [(2, .int u6), (1, .int u5), (0, .ref a_t)]) hx hb dX4_settled_29 hl (k := 2) rfl (by rw [eu6]; rfl) (by decide) rfl (fun ls hl => ?_)
  refine lv_goto (tgt := 4) hx hb dX4_settled_32 (by decide) ?_
  exact hag4 h (lv_sub hl [2, 1, 0] rfl) hf
set_option maxRecDepth 100000 in
theorem EX4_settled_4 {p : Program} {l : Launch} {e : Env} {s : State} {m : MethodId} {args : Array Value} {below : List Frame} {meth : Method} {c : Code} {D : va_G} {cI cJ cZ cS : ClassId} {tb : Nat} {A : Nat → Prop} {a_t a_party a_party_kinds a_party_costs a_party_terms a_party_known a_kept a_tape a_telephone a_sheets a_findings : Nat} {v_isKept : Int32} {v_party_size : Int32} {v_party_list : Int32} {v_party_told : Int32} {v_party_kinds : Nat → Int32} {v_party_terms : Nat → Int64} {rr : Int32} {kk' : (Nat → Int32)} (fx : q_Fx p s m args meth c cX4_settled 3 RX4 (some .int) D cI cJ cZ cS tb A) : ∀ (n : Nat), ∀ {v_party_known : Nat → Int32} {y1 : Int32} {y2 : Int32} {H : Heap} {locs : List Loc} {ls : Array Slot}, q_H D A s (wX4_settled cI cJ cZ cS a_t a_party a_party_kinds a_party_costs a_party_terms a_party_known a_kept a_tape a_telephone a_sheets a_findings v_isKept v_party_size v_party_list v_party_told v_party_kinds v_party_terms v_party_known) H locs → lv_has ls 3 [(0, .ref a_t), (1, .int y1), (2, .int y2)] → ll3 (fX4_settled_4 v_party_size v_party_kinds v_party_terms) n v_party_known y1 y2 = some (rr, kk') → W p l e rX4_settled s m args below meth c H locs 0 0 (MQ below (q_Ri D rr A ((fun k : (Nat → Int32) => (wX4_settled cI cJ cZ cS a_t a_party a_party_kinds a_party_costs a_party_terms a_party_known a_kept a_tape a_telephone a_sheets a_findings v_isKept v_party_size v_party_list v_party_told v_party_kinds v_party_terms k)) kk')) args s 0 0 A) (F0 m 4 ls []) := by
  intro n
  induction n with
  | zero => intro v_party_known y1 y2 H locs ls h hl hf; exact (ll3_z hf).elim
  | succ n ih => intro v_party_known y1 y2 H locs ls h hl hf; exact LX4_settled_4 fx ih h hl (ll3_s hf)
def fX4_settled (v_party_size : Int32) (v_party_kinds : Nat → Int32) (v_party_terms : Nat → Int64) (v_party_known : Nat → Int32) : Option (Int32 × (Nat → Int32)) :=
  ll3 (fX4_settled_4 v_party_size v_party_kinds v_party_terms) qF v_party_known 0 0
set_option maxRecDepth 100000 in
set_option maxHeartbeats 4000000 in
theorem tX4_settled (l : Launch) (D : va_G) (cI cJ cZ cS : ClassId) (tb : Nat) (a_t a_party a_party_kinds a_party_costs a_party_terms a_party_known a_kept a_tape a_telephone a_sheets a_findings : Nat) (sz : Nat) (v_isKept : Int32) (v_party_size : Int32) (v_party_list : Int32) (v_party_told : Int32) (v_party_kinds : Nat → Int32) (v_party_terms : Nat → Int64) (v_party_known : Nat → Int32) (rr : Int32) (kk' : (Nat → Int32)) (hf : fX4_settled v_party_size v_party_kinds v_party_terms v_party_known = some (rr, kk')) : Met l yX4_settled (Cond.code yX4_settled cX4_settled 3 (some .int) :: wA) rX4_settled (q_Pre D cI cJ cZ cS tb [.ref a_t] sz (wX4_settled cI cJ cZ cS a_t a_party a_party_kinds a_party_costs a_party_terms a_party_known a_kept a_tape a_telephone a_sheets a_findings v_isKept v_party_size v_party_list v_party_told v_party_kinds v_party_terms v_party_known)) (q_Ri D rr (va_A (wX4_settled cI cJ cZ cS a_t a_party a_party_kinds a_party_costs a_party_terms a_party_known a_kept a_tape a_telephone a_sheets a_findings v_isKept v_party_size v_party_list v_party_told v_party_kinds v_party_terms v_party_known) sz) ((fun k : (Nat → Int32) => (wX4_settled cI cJ cZ cS a_t a_party a_party_kinds a_party_costs a_party_terms a_party_known a_kept a_tape a_telephone a_sheets a_findings v_isKept v_party_size v_party_list v_party_told v_party_kinds v_party_terms k)) kk')) 0 0 (va_A (wX4_settled cI cJ cZ cS a_t a_party a_party_kinds a_party_costs a_party_terms a_party_known a_kept a_tape a_telephone a_sheets a_findings v_isKept v_party_size v_party_list v_party_told v_party_kinds v_party_terms v_party_known) sz) := by
  refine q_enter (Qf := fun A => (q_Ri D rr A ((fun k : (Nat → Int32) => (wX4_settled cI cJ cZ cS a_t a_party a_party_kinds a_party_costs a_party_terms a_party_known a_kept a_tape a_telephone a_sheets a_findings v_isKept v_party_size v_party_list v_party_told v_party_kinds v_party_terms k)) kk'))) (by decide) rfl (Nat.le_of_ble_eq_true rfl) ?_
  intro p e s m below meth c A ls fx hname h hl
  have hx := fx.1
  have hb := fx.2.1
  have hl : lv_has ls 3 [(0, .ref a_t)] := hl
  generalize h9 : s.heap = H at h ⊢
  clear h9
  generalize h9 : ([] : List Loc) = locs at h ⊢
  clear h9
  unfold fX4_settled at hf
  refine lv_iconst (v := 0) hx hb dX4_settled_0 (by decide) ?_
  refine lv_istore_n (lv' := [(1, .int 0), (0, .ref a_t)]) hx hb dX4_settled_1 rfl hl (by decide) rfl (fun ls hl => ?_)
  refine lv_iconst (v := 0) hx hb dX4_settled_2 (by decide) ?_
  refine lv_istore_n (lv' := [(2, .int 0), (1, .int 0), (0, .ref a_t)]) hx hb dX4_settled_3 rfl hl (by decide) rfl (fun ls hl => ?_)
  exact EX4_settled_4 fx qF h (lv_sub hl [2, 1, 0] rfl) hf
/-! X4_ith -/
abbrev wX4_ith (cI cJ cZ cS : ClassId) (a_t a_party a_party_kinds a_party_costs a_party_terms a_party_known a_kept a_tape a_telephone a_sheets a_findings : Nat) (v_isKept : Int32) (v_party_size : Int32) (v_party_list : Int32) (v_party_told : Int32) (v_party_kinds : Nat → Int32) (v_party_terms : Nat → Int64) (v_party_known : Nat → Int32) (v_findings : Nat → Int32) : va_W := [(a_t, .inr (4, [.ref a_party, .ref a_kept, .int v_isKept, .ref a_tape, .ref a_telephone, .ref a_sheets, .ref a_findings])), (a_party, .inr (0, [.int v_party_size, .int v_party_list, .int v_party_told, .ref a_party_kinds, .ref a_party_costs, .ref a_party_terms, .ref a_party_known])), (a_party_kinds, .inl (cI, 8, .inl v_party_kinds)), (a_party_terms, .inl (cJ, 32, .inr (.inl v_party_terms))), (a_party_known, .inl (cI, 256, .inl v_party_known)), (a_findings, .inl (cI, 7, .inl v_findings))]
abbrev rX4_ith : Room := { frames := 5, cells := 0, slots := 0, locals := 111 }
def fX4_ith_47 (v_party_size : Int32) (v_party_kinds : Nat → Int32) (v_party_terms : Nat → Int64) (ag15 : (Nat → Int32) → (Nat → Int32) → Int32 → Int32 → Int32 → Option (Int32 × (Nat → Int32) × (Nat → Int32))) (v_party_known : Nat → Int32) (v_findings : Nat → Int32) (y1 : Int32) (y2 : Int32) (y3 : Int32) : Option (Int32 × (Nat → Int32) × (Nat → Int32)) :=
  nm (y3 + 1) (fun u1 =>
  ag15 v_party_known v_findings y1 y2 u1)
set_option maxRecDepth 100000 in
set_option maxHeartbeats 4000000 in
theorem LX4_ith_47 {p : Program} {l : Launch} {e : Env} {s : State} {m : MethodId} {args : Array Value} {below : List Frame} {meth : Method} {c : Code} {D : va_G} {cI cJ cZ cS : ClassId} {tb : Nat} {A : Nat → Prop} {a_t a_party a_party_kinds a_party_costs a_party_terms a_party_known a_kept a_tape a_telephone a_sheets a_findings : Nat} {v_isKept : Int32} {v_party_size : Int32} {v_party_list : Int32} {v_party_told : Int32} {v_party_kinds : Nat → Int32} {v_party_terms : Nat → Int64} {rr : Int32} {kk' : (Nat → Int32) × (Nat → Int32)} (fx : q_Fx p s m args meth c cX4_ith 4 RX4 (some .int) D cI cJ cZ cS tb A) {ag15 : (Nat → Int32) → (Nat → Int32) → Int32 → Int32 → Int32 → Option (Int32 × (Nat → Int32) × (Nat → Int32))} (hag15 : ∀ {v_party_known : Nat → Int32} {v_findings : Nat → Int32} {y1 : Int32} {y2 : Int32} {y3 : Int32} {H : Heap} {locs : List Loc} {ls : Array Slot}, q_H D A s (wX4_ith cI cJ cZ cS a_t a_party a_party_kinds a_party_costs a_party_terms a_party_known a_kept a_tape a_telephone a_sheets a_findings v_isKept v_party_size v_party_list v_party_told v_party_kinds v_party_terms v_party_known v_findings) H locs → lv_has ls 4 [(0, .ref a_t), (1, .int y1), (2, .int y2), (3, .int y3)] → ag15 v_party_known v_findings y1 y2 y3 = some (rr, kk') → W p l e rX4_ith s m args below meth c H locs 0 0 (MQ below (q_Ri D rr A ((fun k : (Nat → Int32) × (Nat → Int32) => (wX4_ith cI cJ cZ cS a_t a_party a_party_kinds a_party_costs a_party_terms a_party_known a_kept a_tape a_telephone a_sheets a_findings v_isKept v_party_size v_party_list v_party_told v_party_kinds v_party_terms k.1 k.2)) kk')) args s 0 0 A) (F0 m 15 ls [])) : ∀ {v_party_known : Nat → Int32} {v_findings : Nat → Int32} {y1 : Int32} {y2 : Int32} {y3 : Int32} {H : Heap} {locs : List Loc} {ls : Array Slot}, q_H D A s (wX4_ith cI cJ cZ cS a_t a_party a_party_kinds a_party_costs a_party_terms a_party_known a_kept a_tape a_telephone a_sheets a_findings v_isKept v_party_size v_party_list v_party_told v_party_kinds v_party_terms v_party_known v_findings) H locs → lv_has ls 4 [(0, .ref a_t), (1, .int y1), (2, .int y2), (3, .int y3)] → fX4_ith_47 v_party_size v_party_kinds v_party_terms ag15 v_party_known v_findings y1 y2 y3 = some (rr, kk') → W p l e rX4_ith s m args below meth c H locs 0 0 (MQ below (q_Ri D rr A ((fun k : (Nat → Int32) × (Nat → Int32) => (wX4_ith cI cJ cZ cS a_t a_party a_party_kinds a_party_costs a_party_terms a_party_known a_kept a_tape a_telephone a_sheets a_findings v_isKept v_party_size v_party_list v_party_told v_party_kinds v_party_terms k.1 k.2)) kk')) args s 0 0 A) (F0 m 47 ls []) := by
  intro v_party_known v_findings y1 y2 y3 H locs ls h hl hf
  have hx := fx.1
  have hb := fx.2.1
  unfold fX4_ith_47 at hf
  obtain ⟨u1, eu1, hf⟩ := nm_inv hf
  refine lv_iinc (v := u1) (lv' := [(3, .int u1), (0, .ref a_t), (1, .int y1), (2, .int y2)]) hx hb dX4_ith_47 hl (k := 3) rfl (by rw [eu1]; rfl) (by decide) rfl (fun ls hl => ?_)
  refine lv_goto (tgt := 15) hx hb dX4_ith_50 (by decide) ?_
  exact hag15 h (lv_sub hl [1, 2, 3, 0] rfl) hf
def fX4_ith_15 (v_party_size : Int32) (v_party_kinds : Nat → Int32) (v_party_terms : Nat → Int64) (ag15 : (Nat → Int32) → (Nat → Int32) → Int32 → Int32 → Int32 → Option (Int32 × (Nat → Int32) × (Nat → Int32))) (v_party_known : Nat → Int32) (v_findings : Nat → Int32) (y1 : Int32) (y2 : Int32) (y3 : Int32) : Option (Int32 × (Nat → Int32) × (Nat → Int32)) :=
  bR (fX0_lists v_party_size) (fun r2 k2 =>
  (if r2 ≤ y3 then (
  bR (fX4_found v_findings (-1000000004)) (fun r4 k4 =>
  some (r4, (v_party_known, k4))))
  else (
  bR (fX0_isSettled v_party_size v_party_kinds v_party_terms v_party_known y3) (fun r5 k5 =>
  (if r5 = 0 then (
  fX4_ith_47 v_party_size v_party_kinds v_party_terms ag15 k5 v_findings y1 y2 y3)
  else (
  (if y2 = y1 then (
  some (y3, (k5, v_findings)))
  else (
  nm (y2 + 1) (fun u8 =>
  fX4_ith_47 v_party_size v_party_kinds v_party_terms ag15 k5 v_findings y1 u8 y3)))))))))
set_option maxRecDepth 100000 in
set_option maxHeartbeats 4000000 in
theorem LX4_ith_15 {p : Program} {l : Launch} {e : Env} {s : State} {m : MethodId} {args : Array Value} {below : List Frame} {meth : Method} {c : Code} {D : va_G} {cI cJ cZ cS : ClassId} {tb : Nat} {A : Nat → Prop} {a_t a_party a_party_kinds a_party_costs a_party_terms a_party_known a_kept a_tape a_telephone a_sheets a_findings : Nat} {v_isKept : Int32} {v_party_size : Int32} {v_party_list : Int32} {v_party_told : Int32} {v_party_kinds : Nat → Int32} {v_party_terms : Nat → Int64} {rr : Int32} {kk' : (Nat → Int32) × (Nat → Int32)} (fx : q_Fx p s m args meth c cX4_ith 4 RX4 (some .int) D cI cJ cZ cS tb A) {ag15 : (Nat → Int32) → (Nat → Int32) → Int32 → Int32 → Int32 → Option (Int32 × (Nat → Int32) × (Nat → Int32))} (hag15 : ∀ {v_party_known : Nat → Int32} {v_findings : Nat → Int32} {y1 : Int32} {y2 : Int32} {y3 : Int32} {H : Heap} {locs : List Loc} {ls : Array Slot}, q_H D A s (wX4_ith cI cJ cZ cS a_t a_party a_party_kinds a_party_costs a_party_terms a_party_known a_kept a_tape a_telephone a_sheets a_findings v_isKept v_party_size v_party_list v_party_told v_party_kinds v_party_terms v_party_known v_findings) H locs → lv_has ls 4 [(0, .ref a_t), (1, .int y1), (2, .int y2), (3, .int y3)] → ag15 v_party_known v_findings y1 y2 y3 = some (rr, kk') → W p l e rX4_ith s m args below meth c H locs 0 0 (MQ below (q_Ri D rr A ((fun k : (Nat → Int32) × (Nat → Int32) => (wX4_ith cI cJ cZ cS a_t a_party a_party_kinds a_party_costs a_party_terms a_party_known a_kept a_tape a_telephone a_sheets a_findings v_isKept v_party_size v_party_list v_party_told v_party_kinds v_party_terms k.1 k.2)) kk')) args s 0 0 A) (F0 m 15 ls [])) : ∀ {v_party_known : Nat → Int32} {v_findings : Nat → Int32} {y1 : Int32} {y2 : Int32} {y3 : Int32} {H : Heap} {locs : List Loc} {ls : Array Slot}, q_H D A s (wX4_ith cI cJ cZ cS a_t a_party a_party_kinds a_party_costs a_party_terms a_party_known a_kept a_tape a_telephone a_sheets a_findings v_isKept v_party_size v_party_list v_party_told v_party_kinds v_party_terms v_party_known v_findings) H locs → lv_has ls 4 [(0, .ref a_t), (1, .int y1), (2, .int y2), (3, .int y3)] → fX4_ith_15 v_party_size v_party_kinds v_party_terms ag15 v_party_known v_findings y1 y2 y3 = some (rr, kk') → W p l e rX4_ith s m args below meth c H locs 0 0 (MQ below (q_Ri D rr A ((fun k : (Nat → Int32) × (Nat → Int32) => (wX4_ith cI cJ cZ cS a_t a_party a_party_kinds a_party_costs a_party_terms a_party_known a_kept a_tape a_telephone a_sheets a_findings v_isKept v_party_size v_party_list v_party_told v_party_kinds v_party_terms k.1 k.2)) kk')) args s 0 0 A) (F0 m 15 ls []) := by
  intro v_party_known v_findings y1 y2 y3 H locs ls h hl hf
  have hx := fx.1
  have hb := fx.2.1
  unfold fX4_ith_15 at hf
  refine lv_iload_n hx hb dX4_ith_15 rfl (lv_at hl 3 rfl) ?_
  refine lv_aload_n hx hb dX4_ith_16 rfl (lv_at hl 0 rfl) ?_
  refine q_get (v := .ref a_party) fx inX4 h 0 rfl rfl 0 (by decide) k_174 rfl dX4_ith_17 ?_
  obtain ⟨r2, k2, hg, hf⟩ := bR_inv hf
  refine q_ci (rest := [.int y3]) (ws' := (wX4_ith cI cJ cZ cS a_t a_party a_party_kinds a_party_costs a_party_terms a_party_known a_kept a_tape a_telephone a_sheets a_findings v_isKept v_party_size v_party_list v_party_told v_party_kinds v_party_terms v_party_known v_findings)) (w1 := (wX0_lists cI cJ cZ cS a_party a_party_kinds a_party_costs a_party_terms a_party_known v_party_size v_party_list v_party_told)) fx h [1] rfl rfl rfl rfl (q_runV fx h hl.1 [1] rfl rfl (tX0_lists l D cI cJ cZ cS tb a_party a_party_kinds a_party_costs a_party_terms a_party_known H.size v_party_size v_party_list v_party_told r2 k2 hg) mvX0_lists k_447 ⟨rfl, rfl⟩ ⟨Nat.le_of_ble_eq_true rfl, Nat.le_of_ble_eq_true rfl⟩ rfl rfl rfl rfl (Nat.le_of_ble_eq_true rfl) dX4_ith_20 ⟨Nat.le_of_ble_eq_true rfl, Nat.le_of_ble_eq_true rfl⟩) (fun H locs h => ?_)
  refine lv_icmp_ge (tgt := 53) hx hb dX4_ith_23 (by decide) (fun c3 => ?_) (fun c3 => ?_)
  · have hf := it_t c3 hf
    refine lv_aload_n hx hb dX4_ith_53 rfl (lv_at hl 0 rfl) ?_
    refine q_ldc fx k_402 dX4_ith_54 ?_
    obtain ⟨r4, k4, hg, hf⟩ := bR_inv hf
    refine q_ci (rest := []) (ws' := (wX4_ith cI cJ cZ cS a_t a_party a_party_kinds a_party_costs a_party_terms a_party_known a_kept a_tape a_telephone a_sheets a_findings v_isKept v_party_size v_party_list v_party_told v_party_kinds v_party_terms v_party_known k4)) (w1 := (wX4_found cI cJ cZ cS a_t a_party a_kept a_tape a_telephone a_sheets a_findings v_isKept k4)) fx h [0, 5] rfl rfl rfl rfl (q_runV fx h hl.1 [0, 5] rfl rfl (tX4_found l D cI cJ cZ cS tb a_t a_party a_kept a_tape a_telephone a_sheets a_findings H.size v_isKept v_findings (-1000000004) r4 k4 hg) mvX4_found k_207 ⟨rfl, rfl⟩ ⟨Nat.le_of_ble_eq_true rfl, Nat.le_of_ble_eq_true rfl⟩ rfl rfl rfl rfl (Nat.le_of_ble_eq_true rfl) dX4_ith_56 ⟨Nat.le_of_ble_eq_true rfl, Nat.le_of_ble_eq_true rfl⟩) (fun H locs h => ?_)
    exact q_reti (fun k : (Nat → Int32) × (Nat → Int32) => (wX4_ith cI cJ cZ cS a_t a_party a_party_kinds a_party_costs a_party_terms a_party_known a_kept a_tape a_telephone a_sheets a_findings v_isKept v_party_size v_party_list v_party_told v_party_kinds v_party_terms k.1 k.2)) fx hf h dX4_ith_59
  have hf := it_f c3 hf
  refine lv_aload_n hx hb dX4_ith_26 rfl (lv_at hl 0 rfl) ?_
  refine q_get (v := .ref a_party) fx inX4 h 0 rfl rfl 0 (by decide) k_174 rfl dX4_ith_27 ?_
  refine lv_iload_n hx hb dX4_ith_30 rfl (lv_at hl 3 rfl) ?_
  obtain ⟨r5, k5, hg, hf⟩ := bR_inv hf
  refine q_ci (rest := []) (ws' := (wX4_ith cI cJ cZ cS a_t a_party a_party_kinds a_party_costs a_party_terms a_party_known a_kept a_tape a_telephone a_sheets a_findings v_isKept v_party_size v_party_list v_party_told v_party_kinds v_party_terms k5 v_findings)) (w1 := (wX0_isSettled cI cJ cZ cS a_party a_party_kinds a_party_costs a_party_terms a_party_known v_party_size v_party_list v_party_told v_party_kinds v_party_terms k5)) fx h [1, 2, 3, 4] rfl rfl rfl rfl (q_runV fx h hl.1 [1, 2, 3, 4] rfl rfl (tX0_isSettled l D cI cJ cZ cS tb a_party a_party_kinds a_party_costs a_party_terms a_party_known H.size v_party_size v_party_list v_party_told v_party_kinds v_party_terms v_party_known y3 r5 k5 hg) mvX0_isSettled k_358 ⟨rfl, rfl⟩ ⟨Nat.le_of_ble_eq_true rfl, Nat.le_of_ble_eq_true rfl⟩ rfl rfl rfl rfl (Nat.le_of_ble_eq_true rfl) dX4_ith_31 ⟨Nat.le_of_ble_eq_true rfl, Nat.le_of_ble_eq_true rfl⟩) (fun H locs h => ?_)
  refine lv_if_eq (tgt := 47) hx hb dX4_ith_34 (by decide) (fun c6 => ?_) (fun c6 => ?_)
  · have hf := it_t c6 hf
    exact LX4_ith_47 fx hag15 h (lv_sub hl [0, 1, 2, 3] rfl) hf
  have hf := it_f c6 hf
  refine lv_iload_n hx hb dX4_ith_37 rfl (lv_at hl 2 rfl) ?_
  refine lv_iload_n hx hb dX4_ith_38 rfl (lv_at hl 1 rfl) ?_
  refine lv_icmp_ne (tgt := 44) hx hb dX4_ith_39 (by decide) (fun c7 => ?_) (fun c7 => ?_)
  · have hf := it_f c7 hf
    obtain ⟨u8, eu8, hf⟩ := nm_inv hf
    refine lv_iinc (v := u8) (lv' := [(2, .int u8), (0, .ref a_t), (1, .int y1), (3, .int y3)]) hx hb dX4_ith_44 hl (k := 2) rfl (by rw [eu8]; rfl) (by decide) rfl (fun ls hl => ?_)
    exact LX4_ith_47 fx hag15 h (lv_sub hl [1, 2, 0, 3] rfl) hf
  have hf := it_t c7 hf
  refine lv_iload_n hx hb dX4_ith_42 rfl (lv_at hl 3 rfl) ?_
  exact q_reti (fun k : (Nat → Int32) × (Nat → Int32) => (wX4_ith cI cJ cZ cS a_t a_party a_party_kinds a_party_costs a_party_terms a_party_known a_kept a_tape a_telephone a_sheets a_findings v_isKept v_party_size v_party_list v_party_told v_party_kinds v_party_terms k.1 k.2)) fx hf h dX4_ith_43
set_option maxRecDepth 100000 in
theorem EX4_ith_15 {p : Program} {l : Launch} {e : Env} {s : State} {m : MethodId} {args : Array Value} {below : List Frame} {meth : Method} {c : Code} {D : va_G} {cI cJ cZ cS : ClassId} {tb : Nat} {A : Nat → Prop} {a_t a_party a_party_kinds a_party_costs a_party_terms a_party_known a_kept a_tape a_telephone a_sheets a_findings : Nat} {v_isKept : Int32} {v_party_size : Int32} {v_party_list : Int32} {v_party_told : Int32} {v_party_kinds : Nat → Int32} {v_party_terms : Nat → Int64} {rr : Int32} {kk' : (Nat → Int32) × (Nat → Int32)} (fx : q_Fx p s m args meth c cX4_ith 4 RX4 (some .int) D cI cJ cZ cS tb A) : ∀ (n : Nat), ∀ {v_party_known : Nat → Int32} {v_findings : Nat → Int32} {y1 : Int32} {y2 : Int32} {y3 : Int32} {H : Heap} {locs : List Loc} {ls : Array Slot}, q_H D A s (wX4_ith cI cJ cZ cS a_t a_party a_party_kinds a_party_costs a_party_terms a_party_known a_kept a_tape a_telephone a_sheets a_findings v_isKept v_party_size v_party_list v_party_told v_party_kinds v_party_terms v_party_known v_findings) H locs → lv_has ls 4 [(0, .ref a_t), (1, .int y1), (2, .int y2), (3, .int y3)] → ll5 (fX4_ith_15 v_party_size v_party_kinds v_party_terms) n v_party_known v_findings y1 y2 y3 = some (rr, kk') → W p l e rX4_ith s m args below meth c H locs 0 0 (MQ below (q_Ri D rr A ((fun k : (Nat → Int32) × (Nat → Int32) => (wX4_ith cI cJ cZ cS a_t a_party a_party_kinds a_party_costs a_party_terms a_party_known a_kept a_tape a_telephone a_sheets a_findings v_isKept v_party_size v_party_list v_party_told v_party_kinds v_party_terms k.1 k.2)) kk')) args s 0 0 A) (F0 m 15 ls []) := by
  intro n
  induction n with
  | zero => intro v_party_known v_findings y1 y2 y3 H locs ls h hl hf; exact (ll5_z hf).elim
  | succ n ih => intro v_party_known v_findings y1 y2 y3 H locs ls h hl hf; exact LX4_ith_15 fx ih h hl (ll5_s hf)
def fX4_ith (v_party_size : Int32) (v_party_kinds : Nat → Int32) (v_party_terms : Nat → Int64) (v_party_known : Nat → Int32) (v_findings : Nat → Int32) (x1 : Int32) : Option (Int32 × (Nat → Int32) × (Nat → Int32)) :=
  (if (0 : Int32) ≤ x1 then (
  ll5 (fX4_ith_15 v_party_size v_party_kinds v_party_terms) qF v_party_known v_findings x1 0 0)
  else (
  bR (fX4_found v_findings (-1000000001)) (fun r10 k10 =>
  some (r10, (v_party_known, k10)))))
set_option maxRecDepth 100000 in
set_option maxHeartbeats 4000000 in
theorem tX4_ith (l : Launch) (D : va_G) (cI cJ cZ cS : ClassId) (tb : Nat) (a_t a_party a_party_kinds a_party_costs a_party_terms a_party_known a_kept a_tape a_telephone a_sheets a_findings : Nat) (sz : Nat) (v_isKept : Int32) (v_party_size : Int32) (v_party_list : Int32) (v_party_told : Int32) (v_party_kinds : Nat → Int32) (v_party_terms : Nat → Int64) (v_party_known : Nat → Int32) (v_findings : Nat → Int32) (x1 : Int32) (rr : Int32) (kk' : (Nat → Int32) × (Nat → Int32)) (hf : fX4_ith v_party_size v_party_kinds v_party_terms v_party_known v_findings x1 = some (rr, kk')) : Met l yX4_ith (Cond.code yX4_ith cX4_ith 4 (some .int) :: wA) rX4_ith (q_Pre D cI cJ cZ cS tb [.ref a_t, .int x1] sz (wX4_ith cI cJ cZ cS a_t a_party a_party_kinds a_party_costs a_party_terms a_party_known a_kept a_tape a_telephone a_sheets a_findings v_isKept v_party_size v_party_list v_party_told v_party_kinds v_party_terms v_party_known v_findings)) (q_Ri D rr (va_A (wX4_ith cI cJ cZ cS a_t a_party a_party_kinds a_party_costs a_party_terms a_party_known a_kept a_tape a_telephone a_sheets a_findings v_isKept v_party_size v_party_list v_party_told v_party_kinds v_party_terms v_party_known v_findings) sz) ((fun k : (Nat → Int32) × (Nat → Int32) => (wX4_ith cI cJ cZ cS a_t a_party a_party_kinds a_party_costs a_party_terms a_party_known a_kept a_tape a_telephone a_sheets a_findings v_isKept v_party_size v_party_list v_party_told v_party_kinds v_party_terms k.1 k.2)) kk')) 0 0 (va_A (wX4_ith cI cJ cZ cS a_t a_party a_party_kinds a_party_costs a_party_terms a_party_known a_kept a_tape a_telephone a_sheets a_findings v_isKept v_party_size v_party_list v_party_told v_party_kinds v_party_terms v_party_known v_findings) sz) := by
  refine q_enter (Qf := fun A => (q_Ri D rr A ((fun k : (Nat → Int32) × (Nat → Int32) => (wX4_ith cI cJ cZ cS a_t a_party a_party_kinds a_party_costs a_party_terms a_party_known a_kept a_tape a_telephone a_sheets a_findings v_isKept v_party_size v_party_list v_party_told v_party_kinds v_party_terms k.1 k.2)) kk'))) (by decide) rfl (Nat.le_of_ble_eq_true rfl) ?_
  intro p e s m below meth c A ls fx hname h hl
  have hx := fx.1
  have hb := fx.2.1
  have hl : lv_has ls 4 [(0, .ref a_t), (1, .int x1)] := hl
  generalize h9 : s.heap = H at h ⊢
  clear h9
  generalize h9 : ([] : List Loc) = locs at h ⊢
  clear h9
  unfold fX4_ith at hf
  refine lv_iload_n hx hb dX4_ith_0 rfl (lv_at hl 1 rfl) ?_
  refine lv_if_ge (tgt := 11) hx hb dX4_ith_1 (by decide) (fun c9 => ?_) (fun c9 => ?_)
  · have hf := it_t c9 hf
    refine lv_iconst (v := 0) hx hb dX4_ith_11 (by decide) ?_
    refine lv_istore_n (lv' := [(2, .int 0), (0, .ref a_t), (1, .int x1)]) hx hb dX4_ith_12 rfl hl (by decide) rfl (fun ls hl => ?_)
    refine lv_iconst (v := 0) hx hb dX4_ith_13 (by decide) ?_
    refine lv_istore_n (lv' := [(3, .int 0), (2, .int 0), (0, .ref a_t), (1, .int x1)]) hx hb dX4_ith_14 rfl hl (by decide) rfl (fun ls hl => ?_)
    exact EX4_ith_15 fx qF h (lv_sub hl [2, 3, 1, 0] rfl) hf
  have hf := it_f c9 hf
  refine lv_aload_n hx hb dX4_ith_4 rfl (lv_at hl 0 rfl) ?_
  refine q_ldc fx k_206 dX4_ith_5 ?_
  obtain ⟨r10, k10, hg, hf⟩ := bR_inv hf
  refine q_ci (rest := []) (ws' := (wX4_ith cI cJ cZ cS a_t a_party a_party_kinds a_party_costs a_party_terms a_party_known a_kept a_tape a_telephone a_sheets a_findings v_isKept v_party_size v_party_list v_party_told v_party_kinds v_party_terms v_party_known k10)) (w1 := (wX4_found cI cJ cZ cS a_t a_party a_kept a_tape a_telephone a_sheets a_findings v_isKept k10)) fx h [0, 5] rfl rfl rfl rfl (q_runV fx h hl.1 [0, 5] rfl rfl (tX4_found l D cI cJ cZ cS tb a_t a_party a_kept a_tape a_telephone a_sheets a_findings H.size v_isKept v_findings (-1000000001) r10 k10 hg) mvX4_found k_207 ⟨rfl, rfl⟩ ⟨Nat.le_of_ble_eq_true rfl, Nat.le_of_ble_eq_true rfl⟩ rfl rfl rfl rfl (Nat.le_of_ble_eq_true rfl) dX4_ith_7 ⟨Nat.le_of_ble_eq_true rfl, Nat.le_of_ble_eq_true rfl⟩) (fun H locs h => ?_)
  exact q_reti (fun k : (Nat → Int32) × (Nat → Int32) => (wX4_ith cI cJ cZ cS a_t a_party a_party_kinds a_party_costs a_party_terms a_party_known a_kept a_tape a_telephone a_sheets a_findings v_isKept v_party_size v_party_list v_party_told v_party_kinds v_party_terms k.1 k.2)) fx hf h dX4_ith_10
/-! X0_everyone -/
abbrev wX0_everyone (cI cJ cZ cS : ClassId) (a_t a_kinds a_costs a_terms a_known : Nat) (v_size : Int32) (v_list : Int32) (v_told : Int32) : va_W := [(a_t, .inr (0, [.int v_size, .int v_list, .int v_told, .ref a_kinds, .ref a_costs, .ref a_terms, .ref a_known]))]
abbrev rX0_everyone : Room := { frames := 1, cells := 0, slots := 0, locals := 20 }
def fX0_everyone (v_size : Int32) : Option (Int32 × Unit) :=
  bR (fX0_lists v_size) (fun r1 k1 =>
  some (r1 - 1, ()))
set_option maxRecDepth 100000 in
set_option maxHeartbeats 4000000 in
theorem tX0_everyone (l : Launch) (D : va_G) (cI cJ cZ cS : ClassId) (tb : Nat) (a_t a_kinds a_costs a_terms a_known : Nat) (sz : Nat) (v_size : Int32) (v_list : Int32) (v_told : Int32) (rr : Int32) (kk' : Unit) (hf : fX0_everyone v_size = some (rr, kk')) : Met l yX0_everyone (Cond.code yX0_everyone cX0_everyone 1 (some .int) :: wA) rX0_everyone (q_Pre D cI cJ cZ cS tb [.ref a_t] sz (wX0_everyone cI cJ cZ cS a_t a_kinds a_costs a_terms a_known v_size v_list v_told)) (q_Ri D rr (va_A (wX0_everyone cI cJ cZ cS a_t a_kinds a_costs a_terms a_known v_size v_list v_told) sz) ((fun k : Unit => (wX0_everyone cI cJ cZ cS a_t a_kinds a_costs a_terms a_known v_size v_list v_told)) kk')) 0 0 (va_A (wX0_everyone cI cJ cZ cS a_t a_kinds a_costs a_terms a_known v_size v_list v_told) sz) := by
  refine q_enter (Qf := fun A => (q_Ri D rr A ((fun k : Unit => (wX0_everyone cI cJ cZ cS a_t a_kinds a_costs a_terms a_known v_size v_list v_told)) kk'))) (by decide) rfl (Nat.le_of_ble_eq_true rfl) ?_
  intro p e s m below meth c A ls fx hname h hl
  have hx := fx.1
  have hb := fx.2.1
  have hl : lv_has ls 1 [(0, .ref a_t)] := hl
  generalize h9 : s.heap = H at h ⊢
  clear h9
  generalize h9 : ([] : List Loc) = locs at h ⊢
  clear h9
  unfold fX0_everyone at hf
  refine lv_aload_n hx hb dX0_everyone_0 rfl (lv_at hl 0 rfl) ?_
  obtain ⟨r1, k1, hg, hf⟩ := bR_inv hf
  refine q_ci (rest := []) (ws' := (wX0_everyone cI cJ cZ cS a_t a_kinds a_costs a_terms a_known v_size v_list v_told)) (w1 := (wX0_lists cI cJ cZ cS a_t a_kinds a_costs a_terms a_known v_size v_list v_told)) fx h [0] rfl rfl rfl rfl (q_runV fx h hl.1 [0] rfl rfl (tX0_lists l D cI cJ cZ cS tb a_t a_kinds a_costs a_terms a_known H.size v_size v_list v_told r1 k1 hg) mvX0_lists k_350 ⟨rfl, rfl⟩ ⟨Nat.le_of_ble_eq_true rfl, Nat.le_of_ble_eq_true rfl⟩ rfl rfl rfl rfl (Nat.le_of_ble_eq_true rfl) dX0_everyone_1 ⟨Nat.le_of_ble_eq_true rfl, Nat.le_of_ble_eq_true rfl⟩) (fun H locs h => ?_)
  refine lv_iconst (v := 1) hx hb dX0_everyone_4 (by decide) ?_
  refine lv_isub hx hb dX0_everyone_5 ?_
  exact q_reti (fun k : Unit => (wX0_everyone cI cJ cZ cS a_t a_kinds a_costs a_terms a_known v_size v_list v_told)) fx hf h dX0_everyone_6
/-! X4_sure -/
abbrev wX4_sure (cI cJ cZ cS : ClassId) (a_t a_party a_party_kinds a_party_costs a_party_terms a_party_known a_kept a_tape a_telephone a_sheets a_findings : Nat) (v_isKept : Int32) (v_party_size : Int32) (v_party_list : Int32) (v_party_told : Int32) (v_party_kinds : Nat → Int32) (v_party_terms : Nat → Int64) (v_party_known : Nat → Int32) (v_findings : Nat → Int32) : va_W := [(a_t, .inr (4, [.ref a_party, .ref a_kept, .int v_isKept, .ref a_tape, .ref a_telephone, .ref a_sheets, .ref a_findings])), (a_party, .inr (0, [.int v_party_size, .int v_party_list, .int v_party_told, .ref a_party_kinds, .ref a_party_costs, .ref a_party_terms, .ref a_party_known])), (a_party_kinds, .inl (cI, 8, .inl v_party_kinds)), (a_party_terms, .inl (cJ, 32, .inr (.inl v_party_terms))), (a_party_known, .inl (cI, 256, .inl v_party_known)), (a_findings, .inl (cI, 7, .inl v_findings))]
abbrev rX4_sure : Room := { frames := 5, cells := 0, slots := 0, locals := 111 }
def fX4_sure_94 (v_party_size : Int32) (v_party_kinds : Nat → Int32) (v_party_terms : Nat → Int64) (ag36 : (Nat → Int32) → (Nat → Int32) → Int32 → Int32 → Int32 → Int32 → Int32 → Int32 → Option (Int32 × (Nat → Int32) × (Nat → Int32))) (v_party_known : Nat → Int32) (v_findings : Nat → Int32) (y1 : Int32) (y2 : Int32) (y3 : Int32) (y4 : Int32) (y5 : Int32) (y6 : Int32) : Option (Int32 × (Nat → Int32) × (Nat → Int32)) :=
  nm (y6 + 1) (fun u1 =>
  ag36 v_party_known v_findings y1 y2 y3 y4 y5 u1)
set_option maxRecDepth 100000 in
set_option maxHeartbeats 4000000 in
theorem LX4_sure_94 {p : Program} {l : Launch} {e : Env} {s : State} {m : MethodId} {args : Array Value} {below : List Frame} {meth : Method} {c : Code} {D : va_G} {cI cJ cZ cS : ClassId} {tb : Nat} {A : Nat → Prop} {a_t a_party a_party_kinds a_party_costs a_party_terms a_party_known a_kept a_tape a_telephone a_sheets a_findings : Nat} {v_isKept : Int32} {v_party_size : Int32} {v_party_list : Int32} {v_party_told : Int32} {v_party_kinds : Nat → Int32} {v_party_terms : Nat → Int64} {rr : Int32} {kk' : (Nat → Int32) × (Nat → Int32)} (fx : q_Fx p s m args meth c cX4_sure 7 RX4 (some .int) D cI cJ cZ cS tb A) {ag36 : (Nat → Int32) → (Nat → Int32) → Int32 → Int32 → Int32 → Int32 → Int32 → Int32 → Option (Int32 × (Nat → Int32) × (Nat → Int32))} (hag36 : ∀ {v_party_known : Nat → Int32} {v_findings : Nat → Int32} {y1 : Int32} {y2 : Int32} {y3 : Int32} {y4 : Int32} {y5 : Int32} {y6 : Int32} {H : Heap} {locs : List Loc} {ls : Array Slot}, q_H D A s (wX4_sure cI cJ cZ cS a_t a_party a_party_kinds a_party_costs a_party_terms a_party_known a_kept a_tape a_telephone a_sheets a_findings v_isKept v_party_size v_party_list v_party_told v_party_kinds v_party_terms v_party_known v_findings) H locs → lv_has ls 7 [(0, .ref a_t), (1, .int y1), (2, .int y2), (3, .int y3), (4, .int y4), (5, .int y5), (6, .int y6)] → ag36 v_party_known v_findings y1 y2 y3 y4 y5 y6 = some (rr, kk') → W p l e rX4_sure s m args below meth c H locs 0 0 (MQ below (q_Ri D rr A ((fun k : (Nat → Int32) × (Nat → Int32) => (wX4_sure cI cJ cZ cS a_t a_party a_party_kinds a_party_costs a_party_terms a_party_known a_kept a_tape a_telephone a_sheets a_findings v_isKept v_party_size v_party_list v_party_told v_party_kinds v_party_terms k.1 k.2)) kk')) args s 0 0 A) (F0 m 36 ls [])) : ∀ {v_party_known : Nat → Int32} {v_findings : Nat → Int32} {y1 : Int32} {y2 : Int32} {y3 : Int32} {y4 : Int32} {y5 : Int32} {y6 : Int32} {H : Heap} {locs : List Loc} {ls : Array Slot}, q_H D A s (wX4_sure cI cJ cZ cS a_t a_party a_party_kinds a_party_costs a_party_terms a_party_known a_kept a_tape a_telephone a_sheets a_findings v_isKept v_party_size v_party_list v_party_told v_party_kinds v_party_terms v_party_known v_findings) H locs → lv_has ls 7 [(0, .ref a_t), (1, .int y1), (2, .int y2), (3, .int y3), (4, .int y4), (5, .int y5), (6, .int y6)] → fX4_sure_94 v_party_size v_party_kinds v_party_terms ag36 v_party_known v_findings y1 y2 y3 y4 y5 y6 = some (rr, kk') → W p l e rX4_sure s m args below meth c H locs 0 0 (MQ below (q_Ri D rr A ((fun k : (Nat → Int32) × (Nat → Int32) => (wX4_sure cI cJ cZ cS a_t a_party a_party_kinds a_party_costs a_party_terms a_party_known a_kept a_tape a_telephone a_sheets a_findings v_isKept v_party_size v_party_list v_party_told v_party_kinds v_party_terms k.1 k.2)) kk')) args s 0 0 A) (F0 m 94 ls []) := by
  intro v_party_known v_findings y1 y2 y3 y4 y5 y6 H locs ls h hl hf
  have hx := fx.1
  have hb := fx.2.1
  unfold fX4_sure_94 at hf
  obtain ⟨u1, eu1, hf⟩ := nm_inv hf
  refine lv_iinc (v := u1) (lv' := [(6, .int u1), (0, .ref a_t), (1, .int y1), (2, .int y2), (3, .int y3), (4, .int y4), (5, .int y5)]) hx hb dX4_sure_94 hl (k := 6) rfl (by rw [eu1]; rfl) (by decide) rfl (fun ls hl => ?_)
  refine lv_goto (tgt := 36) hx hb dX4_sure_97 (by decide) ?_
  exact hag36 h (lv_sub hl [1, 2, 3, 4, 5, 6, 0] rfl) hf
def fX4_sure_36 (v_party_size : Int32) (v_party_kinds : Nat → Int32) (v_party_terms : Nat → Int64) (ag36 : (Nat → Int32) → (Nat → Int32) → Int32 → Int32 → Int32 → Int32 → Int32 → Int32 → Option (Int32 × (Nat → Int32) × (Nat → Int32))) (v_party_known : Nat → Int32) (v_findings : Nat → Int32) (y1 : Int32) (y2 : Int32) (y3 : Int32) (y4 : Int32) (y5 : Int32) (y6 : Int32) : Option (Int32 × (Nat → Int32) × (Nat → Int32)) :=
  bR (fX0_lists v_party_size) (fun r2 k2 =>
  (if r2 ≤ y6 then (
  (if (0 : Int32) ≤ y4 then (
  (if (y1).toInt < 0 ∨ 2 < (y1).toInt then (
  some (y5, (v_party_known, v_findings)))
  else (if y1 = 0 then (
  some (y2, (v_party_known, v_findings)))
  else (if y1 = 1 then (
  some (y3, (v_party_known, v_findings)))
  else (if y1 = 2 then (
  some (y4, (v_party_known, v_findings)))
  else none)))))
  else (
  bR (fX4_found v_findings (-1000000004)) (fun r9 k9 =>
  some (r9, (v_party_known, k9))))))
  else (
  bR (fX0_isSettled v_party_size v_party_kinds v_party_terms v_party_known y6) (fun r10 k10 =>
  (if r10 = 0 then (
  fX4_sure_94 v_party_size v_party_kinds v_party_terms ag36 k10 v_findings y1 y2 y3 y4 y5 y6)
  else (
  nm (y2 &&& y6) (fun u12 =>
  nm (y3 ||| y6) (fun u13 =>
  bR (fJ6_bitCount_0f7a4 y6) (fun r14 k14 =>
  nm (jmax y4 r14) (fun u15 =>
  bR (fJ6_bitCount_0f7a4 y6) (fun r16 k16 =>
  nm (jmin y5 r16) (fun u17 =>
  fX4_sure_94 v_party_size v_party_kinds v_party_terms ag36 k10 v_findings y1 u12 u13 u15 u17 y6))))))))))))
set_option maxRecDepth 100000 in
set_option maxHeartbeats 4000000 in
theorem LX4_sure_36 {p : Program} {l : Launch} {e : Env} {s : State} {m : MethodId} {args : Array Value} {below : List Frame} {meth : Method} {c : Code} {D : va_G} {cI cJ cZ cS : ClassId} {tb : Nat} {A : Nat → Prop} {a_t a_party a_party_kinds a_party_costs a_party_terms a_party_known a_kept a_tape a_telephone a_sheets a_findings : Nat} {v_isKept : Int32} {v_party_size : Int32} {v_party_list : Int32} {v_party_told : Int32} {v_party_kinds : Nat → Int32} {v_party_terms : Nat → Int64} {rr : Int32} {kk' : (Nat → Int32) × (Nat → Int32)} (fx : q_Fx p s m args meth c cX4_sure 7 RX4 (some .int) D cI cJ cZ cS tb A) {ag36 : (Nat → Int32) → (Nat → Int32) → Int32 → Int32 → Int32 → Int32 → Int32 → Int32 → Option (Int32 × (Nat → Int32) × (Nat → Int32))} (hag36 : ∀ {v_party_known : Nat → Int32} {v_findings : Nat → Int32} {y1 : Int32} {y2 : Int32} {y3 : Int32} {y4 : Int32} {y5 : Int32} {y6 : Int32} {H : Heap} {locs : List Loc} {ls : Array Slot}, q_H D A s (wX4_sure cI cJ cZ cS a_t a_party a_party_kinds a_party_costs a_party_terms a_party_known a_kept a_tape a_telephone a_sheets a_findings v_isKept v_party_size v_party_list v_party_told v_party_kinds v_party_terms v_party_known v_findings) H locs → lv_has ls 7 [(0, .ref a_t), (1, .int y1), (2, .int y2), (3, .int y3), (4, .int y4), (5, .int y5), (6, .int y6)] → ag36 v_party_known v_findings y1 y2 y3 y4 y5 y6 = some (rr, kk') → W p l e rX4_sure s m args below meth c H locs 0 0 (MQ below (q_Ri D rr A ((fun k : (Nat → Int32) × (Nat → Int32) => (wX4_sure cI cJ cZ cS a_t a_party a_party_kinds a_party_costs a_party_terms a_party_known a_kept a_tape a_telephone a_sheets a_findings v_isKept v_party_size v_party_list v_party_told v_party_kinds v_party_terms k.1 k.2)) kk')) args s 0 0 A) (F0 m 36 ls [])) : ∀ {v_party_known : Nat → Int32} {v_findings : Nat → Int32} {y1 : Int32} {y2 : Int32} {y3 : Int32} {y4 : Int32} {y5 : Int32} {y6 : Int32} {H : Heap} {locs : List Loc} {ls : Array Slot}, q_H D A s (wX4_sure cI cJ cZ cS a_t a_party a_party_kinds a_party_costs a_party_terms a_party_known a_kept a_tape a_telephone a_sheets a_findings v_isKept v_party_size v_party_list v_party_told v_party_kinds v_party_terms v_party_known v_findings) H locs → lv_has ls 7 [(0, .ref a_t), (1, .int y1), (2, .int y2), (3, .int y3), (4, .int y4), (5, .int y5), (6, .int y6)] → fX4_sure_36 v_party_size v_party_kinds v_party_terms ag36 v_party_known v_findings y1 y2 y3 y4 y5 y6 = some (rr, kk') → W p l e rX4_sure s m args below meth c H locs 0 0 (MQ below (q_Ri D rr A ((fun k : (Nat → Int32) × (Nat → Int32) => (wX4_sure cI cJ cZ cS a_t a_party a_party_kinds a_party_costs a_party_terms a_party_known a_kept a_tape a_telephone a_sheets a_findings v_isKept v_party_size v_party_list v_party_told v_party_kinds v_party_terms k.1 k.2)) kk')) args s 0 0 A) (F0 m 36 ls []) := by
  intro v_party_known v_findings y1 y2 y3 y4 y5 y6 H locs ls h hl hf
  have hx := fx.1
  have hb := fx.2.1
  unfold fX4_sure_36 at hf
  refine lv_iload hx hb dX4_sure_36 (lv_at hl 6 rfl) ?_
  refine lv_aload_n hx hb dX4_sure_38 rfl (lv_at hl 0 rfl) ?_
  refine q_get (v := .ref a_party) fx inX4 h 0 rfl rfl 0 (by decide) k_174 rfl dX4_sure_39 ?_
  obtain ⟨r2, k2, hg, hf⟩ := bR_inv hf
  refine q_ci (rest := [.int y6]) (ws' := (wX4_sure cI cJ cZ cS a_t a_party a_party_kinds a_party_costs a_party_terms a_party_known a_kept a_tape a_telephone a_sheets a_findings v_isKept v_party_size v_party_list v_party_told v_party_kinds v_party_terms v_party_known v_findings)) (w1 := (wX0_lists cI cJ cZ cS a_party a_party_kinds a_party_costs a_party_terms a_party_known v_party_size v_party_list v_party_told)) fx h [1] rfl rfl rfl rfl (q_runV fx h hl.1 [1] rfl rfl (tX0_lists l D cI cJ cZ cS tb a_party a_party_kinds a_party_costs a_party_terms a_party_known H.size v_party_size v_party_list v_party_told r2 k2 hg) mvX0_lists k_447 ⟨rfl, rfl⟩ ⟨Nat.le_of_ble_eq_true rfl, Nat.le_of_ble_eq_true rfl⟩ rfl rfl rfl rfl (Nat.le_of_ble_eq_true rfl) dX4_sure_42 ⟨Nat.le_of_ble_eq_true rfl, Nat.le_of_ble_eq_true rfl⟩) (fun H locs h => ?_)
  refine lv_icmp_ge (tgt := 100) hx hb dX4_sure_45 (by decide) (fun c3 => ?_) (fun c3 => ?_)
  · have hf := it_t c3 hf
    refine lv_iload hx hb dX4_sure_100 (lv_at hl 4 rfl) ?_
    refine lv_if_ge (tgt := 112) hx hb dX4_sure_102 (by decide) (fun c4 => ?_) (fun c4 => ?_)
    · have hf := it_t c4 hf
      refine lv_iload_n hx hb dX4_sure_112 rfl (lv_at hl 1 rfl) ?_
      rcases it_or hf with ⟨c5, hf⟩ | ⟨c5, hf⟩
      · refine lv_tableOut (tgt := 147) hx hb dX4_sure_113 c5 (by decide) ?_
        refine lv_iload hx hb dX4_sure_147 (lv_at hl 5 rfl) ?_
        exact q_reti (fun k : (Nat → Int32) × (Nat → Int32) => (wX4_sure cI cJ cZ cS a_t a_party a_party_kinds a_party_costs a_party_terms a_party_known a_kept a_tape a_telephone a_sheets a_findings v_isKept v_party_size v_party_list v_party_told v_party_kinds v_party_terms k.1 k.2)) fx hf h dX4_sure_149
      have c5 := not_or.mp c5
      rcases it_or hf with ⟨c6, hf⟩ | ⟨c6, hf⟩
      · refine lv_tableIn (off := 27) (tgt := 140) hx hb dX4_sure_113 c5.1 c5.2 (by rw [c6]; rfl) (by decide) ?_
        refine lv_iload_n hx hb dX4_sure_140 rfl (lv_at hl 2 rfl) ?_
        exact q_reti (fun k : (Nat → Int32) × (Nat → Int32) => (wX4_sure cI cJ cZ cS a_t a_party a_party_kinds a_party_costs a_party_terms a_party_known a_kept a_tape a_telephone a_sheets a_findings v_isKept v_party_size v_party_list v_party_told v_party_kinds v_party_terms k.1 k.2)) fx hf h dX4_sure_141
      rcases it_or hf with ⟨c7, hf⟩ | ⟨c7, hf⟩
      · refine lv_tableIn (off := 29) (tgt := 142) hx hb dX4_sure_113 c5.1 c5.2 (by rw [c7]; rfl) (by decide) ?_
        refine lv_iload_n hx hb dX4_sure_142 rfl (lv_at hl 3 rfl) ?_
        exact q_reti (fun k : (Nat → Int32) × (Nat → Int32) => (wX4_sure cI cJ cZ cS a_t a_party a_party_kinds a_party_costs a_party_terms a_party_known a_kept a_tape a_telephone a_sheets a_findings v_isKept v_party_size v_party_list v_party_told v_party_kinds v_party_terms k.1 k.2)) fx hf h dX4_sure_143
      rcases it_or hf with ⟨c8, hf⟩ | ⟨c8, hf⟩
      · refine lv_tableIn (off := 31) (tgt := 144) hx hb dX4_sure_113 c5.1 c5.2 (by rw [c8]; rfl) (by decide) ?_
        refine lv_iload hx hb dX4_sure_144 (lv_at hl 4 rfl) ?_
        exact q_reti (fun k : (Nat → Int32) × (Nat → Int32) => (wX4_sure cI cJ cZ cS a_t a_party a_party_kinds a_party_costs a_party_terms a_party_known a_kept a_tape a_telephone a_sheets a_findings v_isKept v_party_size v_party_list v_party_told v_party_kinds v_party_terms k.1 k.2)) fx hf h dX4_sure_146
      cases hf
    have hf := it_f c4 hf
    refine lv_aload_n hx hb dX4_sure_105 rfl (lv_at hl 0 rfl) ?_
    refine q_ldc fx k_402 dX4_sure_106 ?_
    obtain ⟨r9, k9, hg, hf⟩ := bR_inv hf
    refine q_ci (rest := []) (ws' := (wX4_sure cI cJ cZ cS a_t a_party a_party_kinds a_party_costs a_party_terms a_party_known a_kept a_tape a_telephone a_sheets a_findings v_isKept v_party_size v_party_list v_party_told v_party_kinds v_party_terms v_party_known k9)) (w1 := (wX4_found cI cJ cZ cS a_t a_party a_kept a_tape a_telephone a_sheets a_findings v_isKept k9)) fx h [0, 5] rfl rfl rfl rfl (q_runV fx h hl.1 [0, 5] rfl rfl (tX4_found l D cI cJ cZ cS tb a_t a_party a_kept a_tape a_telephone a_sheets a_findings H.size v_isKept v_findings (-1000000004) r9 k9 hg) mvX4_found k_207 ⟨rfl, rfl⟩ ⟨Nat.le_of_ble_eq_true rfl, Nat.le_of_ble_eq_true rfl⟩ rfl rfl rfl rfl (Nat.le_of_ble_eq_true rfl) dX4_sure_108 ⟨Nat.le_of_ble_eq_true rfl, Nat.le_of_ble_eq_true rfl⟩) (fun H locs h => ?_)
    exact q_reti (fun k : (Nat → Int32) × (Nat → Int32) => (wX4_sure cI cJ cZ cS a_t a_party a_party_kinds a_party_costs a_party_terms a_party_known a_kept a_tape a_telephone a_sheets a_findings v_isKept v_party_size v_party_list v_party_told v_party_kinds v_party_terms k.1 k.2)) fx hf h dX4_sure_111
  have hf := it_f c3 hf
  refine lv_aload_n hx hb dX4_sure_48 rfl (lv_at hl 0 rfl) ?_
  refine q_get (v := .ref a_party) fx inX4 h 0 rfl rfl 0 (by decide) k_174 rfl dX4_sure_49 ?_
  refine lv_iload hx hb dX4_sure_52 (lv_at hl 6 rfl) ?_
  obtain ⟨r10, k10, hg, hf⟩ := bR_inv hf
  refine q_ci (rest := []) (ws' := (wX4_sure cI cJ cZ cS a_t a_party a_party_kinds a_party_costs a_party_terms a_party_known a_kept a_tape a_telephone a_sheets a_findings v_isKept v_party_size v_party_list v_party_told v_party_kinds v_party_terms k10 v_findings)) (w1 := (wX0_isSettled cI cJ cZ cS a_party a_party_kinds a_party_costs a_party_terms a_party_known v_party_size v_party_list v_party_told v_party_kinds v_party_terms k10)) fx h [1, 2, 3, 4] rfl rfl rfl rfl (q_runV fx h hl.1 [1, 2, 3, 4] rfl rfl (tX0_isSettled l D cI cJ cZ cS tb a_party a_party_kinds a_party_costs a_party_terms a_party_known H.size v_party_size v_party_list v_party_told v_party_kinds v_party_terms v_party_known y6 r10 k10 hg) mvX0_isSettled k_358 ⟨rfl, rfl⟩ ⟨Nat.le_of_ble_eq_true rfl, Nat.le_of_ble_eq_true rfl⟩ rfl rfl rfl rfl (Nat.le_of_ble_eq_true rfl) dX4_sure_54 ⟨Nat.le_of_ble_eq_true rfl, Nat.le_of_ble_eq_true rfl⟩) (fun H locs h => ?_)
  refine lv_if_eq (tgt := 94) hx hb dX4_sure_57 (by decide) (fun c11 => ?_) (fun c11 => ?_)
  · have hf := it_t c11 hf
    exact LX4_sure_94 fx hag36 h (lv_sub hl [0, 1, 2, 3, 4, 5, 6] rfl) hf
  have hf := it_f c11 hf
  refine lv_iload_n hx hb dX4_sure_60 rfl (lv_at hl 2 rfl) ?_
  refine lv_iload hx hb dX4_sure_61 (lv_at hl 6 rfl) ?_
  refine lv_iand hx hb dX4_sure_63 ?_
  obtain ⟨u12, eu12, hf⟩ := nm_inv hf
  refine lv_eqi eu12 ?_
  refine lv_istore_n (lv' := [(2, .int u12), (0, .ref a_t), (1, .int y1), (3, .int y3), (4, .int y4), (5, .int y5), (6, .int y6)]) hx hb dX4_sure_64 rfl hl (by decide) rfl (fun ls hl => ?_)
  refine lv_iload_n hx hb dX4_sure_65 rfl (lv_at hl 3 rfl) ?_
  refine lv_iload hx hb dX4_sure_66 (lv_at hl 6 rfl) ?_
  refine lv_ior hx hb dX4_sure_68 ?_
  obtain ⟨u13, eu13, hf⟩ := nm_inv hf
  refine lv_eqi eu13 ?_
  refine lv_istore_n (lv' := [(3, .int u13), (2, .int u12), (0, .ref a_t), (1, .int y1), (4, .int y4), (5, .int y5), (6, .int y6)]) hx hb dX4_sure_69 rfl hl (by decide) rfl (fun ls hl => ?_)
  refine lv_iload hx hb dX4_sure_70 (lv_at hl 4 rfl) ?_
  refine lv_iload hx hb dX4_sure_72 (lv_at hl 6 rfl) ?_
  obtain ⟨r14, k14, hg, hf⟩ := bR_inv hf
  refine q_ci (rest := [.int y4]) (ws' := (wX4_sure cI cJ cZ cS a_t a_party a_party_kinds a_party_costs a_party_terms a_party_known a_kept a_tape a_telephone a_sheets a_findings v_isKept v_party_size v_party_list v_party_told v_party_kinds v_party_terms k10 v_findings)) (w1 := (wJ6_bitCount_0f7a4 cI cJ cZ cS)) fx h [] rfl rfl rfl rfl (q_runS fx h hl.1 [] rfl rfl (tJ6_bitCount_0f7a4 l D cI cJ cZ cS tb H.size y6 r14 k14 hg) msJ6_bitCount_0f7a4 k_239 ⟨rfl, rfl⟩ ⟨Nat.le_of_ble_eq_true rfl, Nat.le_of_ble_eq_true rfl⟩ rfl rfl (Nat.le_of_ble_eq_true rfl) dX4_sure_74 ⟨Nat.le_of_ble_eq_true rfl, Nat.le_of_ble_eq_true rfl⟩) (fun H locs h => ?_)
  refine q_mmax fx hl.1 k_460 (Nat.le_of_ble_eq_true rfl) (Nat.le_of_ble_eq_true rfl) (Nat.le_of_ble_eq_true rfl) (Nat.le_of_ble_eq_true rfl) dX4_sure_77 ?_
  obtain ⟨u15, eu15, hf⟩ := nm_inv hf
  refine lv_eqi eu15 ?_
  refine lv_istore (lv' := [(4, .int u15), (3, .int u13), (2, .int u12), (0, .ref a_t), (1, .int y1), (5, .int y5), (6, .int y6)]) hx hb dX4_sure_80 hl (by decide) rfl (fun ls hl => ?_)
  refine lv_iload hx hb dX4_sure_82 (lv_at hl 5 rfl) ?_
  refine lv_iload hx hb dX4_sure_84 (lv_at hl 6 rfl) ?_
  obtain ⟨r16, k16, hg, hf⟩ := bR_inv hf
  refine q_ci (rest := [.int y5]) (ws' := (wX4_sure cI cJ cZ cS a_t a_party a_party_kinds a_party_costs a_party_terms a_party_known a_kept a_tape a_telephone a_sheets a_findings v_isKept v_party_size v_party_list v_party_told v_party_kinds v_party_terms k10 v_findings)) (w1 := (wJ6_bitCount_0f7a4 cI cJ cZ cS)) fx h [] rfl rfl rfl rfl (q_runS fx h hl.1 [] rfl rfl (tJ6_bitCount_0f7a4 l D cI cJ cZ cS tb H.size y6 r16 k16 hg) msJ6_bitCount_0f7a4 k_239 ⟨rfl, rfl⟩ ⟨Nat.le_of_ble_eq_true rfl, Nat.le_of_ble_eq_true rfl⟩ rfl rfl (Nat.le_of_ble_eq_true rfl) dX4_sure_86 ⟨Nat.le_of_ble_eq_true rfl, Nat.le_of_ble_eq_true rfl⟩) (fun H locs h => ?_)
  refine q_mmin fx hl.1 k_463 (Nat.le_of_ble_eq_true rfl) (Nat.le_of_ble_eq_true rfl) (Nat.le_of_ble_eq_true rfl) (Nat.le_of_ble_eq_true rfl) dX4_sure_89 ?_
  obtain ⟨u17, eu17, hf⟩ := nm_inv hf
  refine lv_eqi eu17 ?_
  refine lv_istore (lv' := [(5, .int u17), (4, .int u15), (3, .int u13), (2, .int u12), (0, .ref a_t), (1, .int y1), (6, .int y6)]) hx hb dX4_sure_92 hl (by decide) rfl (fun ls hl => ?_)
  exact LX4_sure_94 fx hag36 h (lv_sub hl [4, 5, 3, 2, 1, 0, 6] rfl) hf
set_option maxRecDepth 100000 in
theorem EX4_sure_36 {p : Program} {l : Launch} {e : Env} {s : State} {m : MethodId} {args : Array Value} {below : List Frame} {meth : Method} {c : Code} {D : va_G} {cI cJ cZ cS : ClassId} {tb : Nat} {A : Nat → Prop} {a_t a_party a_party_kinds a_party_costs a_party_terms a_party_known a_kept a_tape a_telephone a_sheets a_findings : Nat} {v_isKept : Int32} {v_party_size : Int32} {v_party_list : Int32} {v_party_told : Int32} {v_party_kinds : Nat → Int32} {v_party_terms : Nat → Int64} {rr : Int32} {kk' : (Nat → Int32) × (Nat → Int32)} (fx : q_Fx p s m args meth c cX4_sure 7 RX4 (some .int) D cI cJ cZ cS tb A) : ∀ (n : Nat), ∀ {v_party_known : Nat → Int32} {v_findings : Nat → Int32} {y1 : Int32} {y2 : Int32} {y3 : Int32} {y4 : Int32} {y5 : Int32} {y6 : Int32} {H : Heap} {locs : List Loc} {ls : Array Slot}, q_H D A s (wX4_sure cI cJ cZ cS a_t a_party a_party_kinds a_party_costs a_party_terms a_party_known a_kept a_tape a_telephone a_sheets a_findings v_isKept v_party_size v_party_list v_party_told v_party_kinds v_party_terms v_party_known v_findings) H locs → lv_has ls 7 [(0, .ref a_t), (1, .int y1), (2, .int y2), (3, .int y3), (4, .int y4), (5, .int y5), (6, .int y6)] → ll8 (fX4_sure_36 v_party_size v_party_kinds v_party_terms) n v_party_known v_findings y1 y2 y3 y4 y5 y6 = some (rr, kk') → W p l e rX4_sure s m args below meth c H locs 0 0 (MQ below (q_Ri D rr A ((fun k : (Nat → Int32) × (Nat → Int32) => (wX4_sure cI cJ cZ cS a_t a_party a_party_kinds a_party_costs a_party_terms a_party_known a_kept a_tape a_telephone a_sheets a_findings v_isKept v_party_size v_party_list v_party_told v_party_kinds v_party_terms k.1 k.2)) kk')) args s 0 0 A) (F0 m 36 ls []) := by
  intro n
  induction n with
  | zero => intro v_party_known v_findings y1 y2 y3 y4 y5 y6 H locs ls h hl hf; exact (ll8_z hf).elim
  | succ n ih => intro v_party_known v_findings y1 y2 y3 y4 y5 y6 H locs ls h hl hf; exact LX4_sure_36 fx ih h hl (ll8_s hf)
def fX4_sure_9 (v_party_size : Int32) (v_party_kinds : Nat → Int32) (v_party_terms : Nat → Int64) (v_party_known : Nat → Int32) (v_findings : Nat → Int32) : Option (Int32 × (Nat → Int32) × (Nat → Int32)) :=
  bR (fX4_found v_findings (-1000000001)) (fun r18 k18 =>
  some (r18, (v_party_known, k18)))
set_option maxRecDepth 100000 in
set_option maxHeartbeats 4000000 in
theorem LX4_sure_9 {p : Program} {l : Launch} {e : Env} {s : State} {m : MethodId} {args : Array Value} {below : List Frame} {meth : Method} {c : Code} {D : va_G} {cI cJ cZ cS : ClassId} {tb : Nat} {A : Nat → Prop} {a_t a_party a_party_kinds a_party_costs a_party_terms a_party_known a_kept a_tape a_telephone a_sheets a_findings : Nat} {v_isKept : Int32} {v_party_size : Int32} {v_party_list : Int32} {v_party_told : Int32} {v_party_kinds : Nat → Int32} {v_party_terms : Nat → Int64} {rr : Int32} {kk' : (Nat → Int32) × (Nat → Int32)} (fx : q_Fx p s m args meth c cX4_sure 7 RX4 (some .int) D cI cJ cZ cS tb A) : ∀ {v_party_known : Nat → Int32} {v_findings : Nat → Int32} {H : Heap} {locs : List Loc} {ls : Array Slot}, q_H D A s (wX4_sure cI cJ cZ cS a_t a_party a_party_kinds a_party_costs a_party_terms a_party_known a_kept a_tape a_telephone a_sheets a_findings v_isKept v_party_size v_party_list v_party_told v_party_kinds v_party_terms v_party_known v_findings) H locs → lv_has ls 7 [(0, .ref a_t)] → fX4_sure_9 v_party_size v_party_kinds v_party_terms v_party_known v_findings = some (rr, kk') → W p l e rX4_sure s m args below meth c H locs 0 0 (MQ below (q_Ri D rr A ((fun k : (Nat → Int32) × (Nat → Int32) => (wX4_sure cI cJ cZ cS a_t a_party a_party_kinds a_party_costs a_party_terms a_party_known a_kept a_tape a_telephone a_sheets a_findings v_isKept v_party_size v_party_list v_party_told v_party_kinds v_party_terms k.1 k.2)) kk')) args s 0 0 A) (F0 m 9 ls []) := by
  intro v_party_known v_findings H locs ls h hl hf
  have hx := fx.1
  have hb := fx.2.1
  unfold fX4_sure_9 at hf
  refine lv_aload_n hx hb dX4_sure_9 rfl (lv_at hl 0 rfl) ?_
  refine q_ldc fx k_206 dX4_sure_10 ?_
  obtain ⟨r18, k18, hg, hf⟩ := bR_inv hf
  refine q_ci (rest := []) (ws' := (wX4_sure cI cJ cZ cS a_t a_party a_party_kinds a_party_costs a_party_terms a_party_known a_kept a_tape a_telephone a_sheets a_findings v_isKept v_party_size v_party_list v_party_told v_party_kinds v_party_terms v_party_known k18)) (w1 := (wX4_found cI cJ cZ cS a_t a_party a_kept a_tape a_telephone a_sheets a_findings v_isKept k18)) fx h [0, 5] rfl rfl rfl rfl (q_runV fx h hl.1 [0, 5] rfl rfl (tX4_found l D cI cJ cZ cS tb a_t a_party a_kept a_tape a_telephone a_sheets a_findings H.size v_isKept v_findings (-1000000001) r18 k18 hg) mvX4_found k_207 ⟨rfl, rfl⟩ ⟨Nat.le_of_ble_eq_true rfl, Nat.le_of_ble_eq_true rfl⟩ rfl rfl rfl rfl (Nat.le_of_ble_eq_true rfl) dX4_sure_12 ⟨Nat.le_of_ble_eq_true rfl, Nat.le_of_ble_eq_true rfl⟩) (fun H locs h => ?_)
  exact q_reti (fun k : (Nat → Int32) × (Nat → Int32) => (wX4_sure cI cJ cZ cS a_t a_party a_party_kinds a_party_costs a_party_terms a_party_known a_kept a_tape a_telephone a_sheets a_findings v_isKept v_party_size v_party_list v_party_told v_party_kinds v_party_terms k.1 k.2)) fx hf h dX4_sure_15
def fX4_sure (v_party_size : Int32) (v_party_kinds : Nat → Int32) (v_party_terms : Nat → Int64) (v_party_known : Nat → Int32) (v_findings : Nat → Int32) (x1 : Int32) : Option (Int32 × (Nat → Int32) × (Nat → Int32)) :=
  (if x1 < 0 then (
  fX4_sure_9 v_party_size v_party_kinds v_party_terms v_party_known v_findings)
  else (
  (if x1 ≤ 3 then (
  bR (fX0_everyone v_party_size) (fun r21 k21 =>
  ll8 (fX4_sure_36 v_party_size v_party_kinds v_party_terms) qF v_party_known v_findings x1 r21 0 (-1) 8 0))
  else (
  fX4_sure_9 v_party_size v_party_kinds v_party_terms v_party_known v_findings))))
set_option maxRecDepth 100000 in
set_option maxHeartbeats 4000000 in
theorem tX4_sure (l : Launch) (D : va_G) (cI cJ cZ cS : ClassId) (tb : Nat) (a_t a_party a_party_kinds a_party_costs a_party_terms a_party_known a_kept a_tape a_telephone a_sheets a_findings : Nat) (sz : Nat) (v_isKept : Int32) (v_party_size : Int32) (v_party_list : Int32) (v_party_told : Int32) (v_party_kinds : Nat → Int32) (v_party_terms : Nat → Int64) (v_party_known : Nat → Int32) (v_findings : Nat → Int32) (x1 : Int32) (rr : Int32) (kk' : (Nat → Int32) × (Nat → Int32)) (hf : fX4_sure v_party_size v_party_kinds v_party_terms v_party_known v_findings x1 = some (rr, kk')) : Met l yX4_sure (Cond.code yX4_sure cX4_sure 7 (some .int) :: wA) rX4_sure (q_Pre D cI cJ cZ cS tb [.ref a_t, .int x1] sz (wX4_sure cI cJ cZ cS a_t a_party a_party_kinds a_party_costs a_party_terms a_party_known a_kept a_tape a_telephone a_sheets a_findings v_isKept v_party_size v_party_list v_party_told v_party_kinds v_party_terms v_party_known v_findings)) (q_Ri D rr (va_A (wX4_sure cI cJ cZ cS a_t a_party a_party_kinds a_party_costs a_party_terms a_party_known a_kept a_tape a_telephone a_sheets a_findings v_isKept v_party_size v_party_list v_party_told v_party_kinds v_party_terms v_party_known v_findings) sz) ((fun k : (Nat → Int32) × (Nat → Int32) => (wX4_sure cI cJ cZ cS a_t a_party a_party_kinds a_party_costs a_party_terms a_party_known a_kept a_tape a_telephone a_sheets a_findings v_isKept v_party_size v_party_list v_party_told v_party_kinds v_party_terms k.1 k.2)) kk')) 0 0 (va_A (wX4_sure cI cJ cZ cS a_t a_party a_party_kinds a_party_costs a_party_terms a_party_known a_kept a_tape a_telephone a_sheets a_findings v_isKept v_party_size v_party_list v_party_told v_party_kinds v_party_terms v_party_known v_findings) sz) := by
  refine q_enter (Qf := fun A => (q_Ri D rr A ((fun k : (Nat → Int32) × (Nat → Int32) => (wX4_sure cI cJ cZ cS a_t a_party a_party_kinds a_party_costs a_party_terms a_party_known a_kept a_tape a_telephone a_sheets a_findings v_isKept v_party_size v_party_list v_party_told v_party_kinds v_party_terms k.1 k.2)) kk'))) (by decide) rfl (Nat.le_of_ble_eq_true rfl) ?_
  intro p e s m below meth c A ls fx hname h hl
  have hx := fx.1
  have hb := fx.2.1
  have hl : lv_has ls 7 [(0, .ref a_t), (1, .int x1)] := hl
  generalize h9 : s.heap = H at h ⊢
  clear h9
  generalize h9 : ([] : List Loc) = locs at h ⊢
  clear h9
  unfold fX4_sure at hf
  refine lv_iload_n hx hb dX4_sure_0 rfl (lv_at hl 1 rfl) ?_
  refine lv_if_lt (tgt := 9) hx hb dX4_sure_1 (by decide) (fun c19 => ?_) (fun c19 => ?_)
  · have hf := it_t c19 hf
    exact LX4_sure_9 fx h (lv_sub hl [0] rfl) hf
  have hf := it_f c19 hf
  refine lv_iload_n hx hb dX4_sure_4 rfl (lv_at hl 1 rfl) ?_
  refine lv_iconst (v := 3) hx hb dX4_sure_5 (by decide) ?_
  refine lv_icmp_le (tgt := 16) hx hb dX4_sure_6 (by decide) (fun c20 => ?_) (fun c20 => ?_)
  · have hf := it_t c20 hf
    refine lv_aload_n hx hb dX4_sure_16 rfl (lv_at hl 0 rfl) ?_
    refine q_get (v := .ref a_party) fx inX4 h 0 rfl rfl 0 (by decide) k_174 rfl dX4_sure_17 ?_
    obtain ⟨r21, k21, hg, hf⟩ := bR_inv hf
    refine q_ci (rest := []) (ws' := (wX4_sure cI cJ cZ cS a_t a_party a_party_kinds a_party_costs a_party_terms a_party_known a_kept a_tape a_telephone a_sheets a_findings v_isKept v_party_size v_party_list v_party_told v_party_kinds v_party_terms v_party_known v_findings)) (w1 := (wX0_everyone cI cJ cZ cS a_party a_party_kinds a_party_costs a_party_terms a_party_known v_party_size v_party_list v_party_told)) fx h [1] rfl rfl rfl rfl (q_runV fx h hl.1 [1] rfl rfl (tX0_everyone l D cI cJ cZ cS tb a_party a_party_kinds a_party_costs a_party_terms a_party_known H.size v_party_size v_party_list v_party_told r21 k21 hg) mvX0_everyone k_456 ⟨rfl, rfl⟩ ⟨Nat.le_of_ble_eq_true rfl, Nat.le_of_ble_eq_true rfl⟩ rfl rfl rfl rfl (Nat.le_of_ble_eq_true rfl) dX4_sure_20 ⟨Nat.le_of_ble_eq_true rfl, Nat.le_of_ble_eq_true rfl⟩) (fun H locs h => ?_)
    refine lv_istore_n (lv' := [(2, .int r21), (0, .ref a_t), (1, .int x1)]) hx hb dX4_sure_23 rfl hl (by decide) rfl (fun ls hl => ?_)
    refine lv_iconst (v := 0) hx hb dX4_sure_24 (by decide) ?_
    refine lv_istore_n (lv' := [(3, .int 0), (2, .int r21), (0, .ref a_t), (1, .int x1)]) hx hb dX4_sure_25 rfl hl (by decide) rfl (fun ls hl => ?_)
    refine lv_iconst (v := -1) hx hb dX4_sure_26 (by decide) ?_
    refine lv_istore (lv' := [(4, .int (-1)), (3, .int 0), (2, .int r21), (0, .ref a_t), (1, .int x1)]) hx hb dX4_sure_27 hl (by decide) rfl (fun ls hl => ?_)
    refine lv_bipush (v := 8) hx hb dX4_sure_29 (by decide) ?_
    refine lv_istore (lv' := [(5, .int 8), (4, .int (-1)), (3, .int 0), (2, .int r21), (0, .ref a_t), (1, .int x1)]) hx hb dX4_sure_31 hl (by decide) rfl (fun ls hl => ?_)
    refine lv_iconst (v := 0) hx hb dX4_sure_33 (by decide) ?_
    refine lv_istore (lv' := [(6, .int 0), (5, .int 8), (4, .int (-1)), (3, .int 0), (2, .int r21), (0, .ref a_t), (1, .int x1)]) hx hb dX4_sure_34 hl (by decide) rfl (fun ls hl => ?_)
    exact EX4_sure_36 fx qF h (lv_sub hl [5, 6, 4, 3, 2, 1, 0] rfl) hf
  have hf := it_f c20 hf
  exact LX4_sure_9 fx h (lv_sub hl [0] rfl) hf
/-! X4_basin -/
abbrev wX4_basin (cI cJ cZ cS : ClassId) (a_t a_party a_party_kinds a_party_costs a_party_terms a_party_known a_kept a_tape a_telephone a_sheets a_findings : Nat) (v_isKept : Int32) (v_party_size : Int32) (v_party_list : Int32) (v_party_told : Int32) (v_party_kinds : Nat → Int32) (v_party_terms : Nat → Int64) (v_party_known : Nat → Int32) : va_W := [(a_t, .inr (4, [.ref a_party, .ref a_kept, .int v_isKept, .ref a_tape, .ref a_telephone, .ref a_sheets, .ref a_findings])), (a_party, .inr (0, [.int v_party_size, .int v_party_list, .int v_party_told, .ref a_party_kinds, .ref a_party_costs, .ref a_party_terms, .ref a_party_known])), (a_party_kinds, .inl (cI, 8, .inl v_party_kinds)), (a_party_terms, .inl (cJ, 32, .inr (.inl v_party_terms))), (a_party_known, .inl (cI, 256, .inl v_party_known))]
abbrev rX4_basin : Room := { frames := 6, cells := 0, slots := 0, locals := 135 }
def fX4_basin_4 (v_party_size : Int32) (v_party_kinds : Nat → Int32) (v_party_terms : Nat → Int64) (ag4 : (Nat → Int32) → Int32 → Int32 → Option (Int32 × (Nat → Int32))) (v_party_known : Nat → Int32) (y1 : Int32) (y2 : Int32) : Option (Int32 × (Nat → Int32)) :=
  bR (fX0_lists v_party_size) (fun r1 k1 =>
  (if r1 ≤ y2 then (
  some (y1, v_party_known))
  else (
  bR (fX0_behind v_party_size v_party_kinds v_party_terms v_party_known y2 256) (fun r3 k3 =>
  bR (fX0_isSettled v_party_size v_party_kinds v_party_terms k3 r3) (fun r4 k4 =>
  bR (fX4_oneIf r4) (fun r5 k5 =>
  nm (y1 + r5) (fun u6 =>
  nm (y2 + 1) (fun u7 =>
  ag4 k4 u6 u7))))))))
set_option maxRecDepth 100000 in
set_option maxHeartbeats 4000000 in
theorem LX4_basin_4 {p : Program} {l : Launch} {e : Env} {s : State} {m : MethodId} {args : Array Value} {below : List Frame} {meth : Method} {c : Code} {D : va_G} {cI cJ cZ cS : ClassId} {tb : Nat} {A : Nat → Prop} {a_t a_party a_party_kinds a_party_costs a_party_terms a_party_known a_kept a_tape a_telephone a_sheets a_findings : Nat} {v_isKept : Int32} {v_party_size : Int32} {v_party_list : Int32} {v_party_told : Int32} {v_party_kinds : Nat → Int32} {v_party_terms : Nat → Int64} {rr : Int32} {kk' : (Nat → Int32)} (fx : q_Fx p s m args meth c cX4_basin 3 RX4 (some .int) D cI cJ cZ cS tb A) {ag4 : (Nat → Int32) → Int32 → Int32 → Option (Int32 × (Nat → Int32))} (hag4 : ∀ {v_party_known : Nat → Int32} {y1 : Int32} {y2 : Int32} {H : Heap} {locs : List Loc} {ls : Array Slot}, q_H D A s (wX4_basin cI cJ cZ cS a_t a_party a_party_kinds a_party_costs a_party_terms a_party_known a_kept a_tape a_telephone a_sheets a_findings v_isKept v_party_size v_party_list v_party_told v_party_kinds v_party_terms v_party_known) H locs → lv_has ls 3 [(0, .ref a_t), (1, .int y1), (2, .int y2)] → ag4 v_party_known y1 y2 = some (rr, kk') → W p l e rX4_basin s m args below meth c H locs 0 0 (MQ below (q_Ri D rr A ((fun k : (Nat → Int32) => (wX4_basin cI cJ cZ cS a_t a_party a_party_kinds a_party_costs a_party_terms a_party_known a_kept a_tape a_telephone a_sheets a_findings v_isKept v_party_size v_party_list v_party_told v_party_kinds v_party_terms k)) kk')) args s 0 0 A) (F0 m 4 ls [])) : ∀ {v_party_known : Nat → Int32} {y1 : Int32} {y2 : Int32} {H : Heap} {locs : List Loc} {ls : Array Slot}, q_H D A s (wX4_basin cI cJ cZ cS a_t a_party a_party_kinds a_party_costs a_party_terms a_party_known a_kept a_tape a_telephone a_sheets a_findings v_isKept v_party_size v_party_list v_party_told v_party_kinds v_party_terms v_party_known) H locs → lv_has ls 3 [(0, .ref a_t), (1, .int y1), (2, .int y2)] → fX4_basin_4 v_party_size v_party_kinds v_party_terms ag4 v_party_known y1 y2 = some (rr, kk') → W p l e rX4_basin s m args below meth c H locs 0 0 (MQ below (q_Ri D rr A ((fun k : (Nat → Int32) => (wX4_basin cI cJ cZ cS a_t a_party a_party_kinds a_party_costs a_party_terms a_party_known a_kept a_tape a_telephone a_sheets a_findings v_isKept v_party_size v_party_list v_party_told v_party_kinds v_party_terms k)) kk')) args s 0 0 A) (F0 m 4 ls []) := by
  intro v_party_known y1 y2 H locs ls h hl hf
  have hx := fx.1
  have hb := fx.2.1
  unfold fX4_basin_4 at hf
  refine lv_iload_n hx hb dX4_basin_4 rfl (lv_at hl 2 rfl) ?_
  refine lv_aload_n hx hb dX4_basin_5 rfl (lv_at hl 0 rfl) ?_
  refine q_get (v := .ref a_party) fx inX4 h 0 rfl rfl 0 (by decide) k_174 rfl dX4_basin_6 ?_
  obtain ⟨r1, k1, hg, hf⟩ := bR_inv hf
  refine q_ci (rest := [.int y2]) (ws' := (wX4_basin cI cJ cZ cS a_t a_party a_party_kinds a_party_costs a_party_terms a_party_known a_kept a_tape a_telephone a_sheets a_findings v_isKept v_party_size v_party_list v_party_told v_party_kinds v_party_terms v_party_known)) (w1 := (wX0_lists cI cJ cZ cS a_party a_party_kinds a_party_costs a_party_terms a_party_known v_party_size v_party_list v_party_told)) fx h [1] rfl rfl rfl rfl (q_runV fx h hl.1 [1] rfl rfl (tX0_lists l D cI cJ cZ cS tb a_party a_party_kinds a_party_costs a_party_terms a_party_known H.size v_party_size v_party_list v_party_told r1 k1 hg) mvX0_lists k_447 ⟨rfl, rfl⟩ ⟨Nat.le_of_ble_eq_true rfl, Nat.le_of_ble_eq_true rfl⟩ rfl rfl rfl rfl (Nat.le_of_ble_eq_true rfl) dX4_basin_9 ⟨Nat.le_of_ble_eq_true rfl, Nat.le_of_ble_eq_true rfl⟩) (fun H locs h => ?_)
  refine lv_icmp_ge (tgt := 45) hx hb dX4_basin_12 (by decide) (fun c2 => ?_) (fun c2 => ?_)
  · have hf := it_t c2 hf
    refine lv_iload_n hx hb dX4_basin_45 rfl (lv_at hl 1 rfl) ?_
    exact q_reti (fun k : (Nat → Int32) => (wX4_basin cI cJ cZ cS a_t a_party a_party_kinds a_party_costs a_party_terms a_party_known a_kept a_tape a_telephone a_sheets a_findings v_isKept v_party_size v_party_list v_party_told v_party_kinds v_party_terms k)) fx hf h dX4_basin_46
  have hf := it_f c2 hf
  refine lv_iload_n hx hb dX4_basin_15 rfl (lv_at hl 1 rfl) ?_
  refine lv_aload_n hx hb dX4_basin_16 rfl (lv_at hl 0 rfl) ?_
  refine q_get (v := .ref a_party) fx inX4 h 0 rfl rfl 0 (by decide) k_174 rfl dX4_basin_17 ?_
  refine lv_aload_n hx hb dX4_basin_20 rfl (lv_at hl 0 rfl) ?_
  refine q_get (v := .ref a_party) fx inX4 h 0 rfl rfl 0 (by decide) k_174 rfl dX4_basin_21 ?_
  refine lv_iload_n hx hb dX4_basin_24 rfl (lv_at hl 2 rfl) ?_
  refine lv_sipush (v := 256) hx hb dX4_basin_25 (by decide) ?_
  obtain ⟨r3, k3, hg, hf⟩ := bR_inv hf
  refine q_ci (rest := [.ref a_party, .int y1]) (ws' := (wX4_basin cI cJ cZ cS a_t a_party a_party_kinds a_party_costs a_party_terms a_party_known a_kept a_tape a_telephone a_sheets a_findings v_isKept v_party_size v_party_list v_party_told v_party_kinds v_party_terms k3)) (w1 := (wX0_behind cI cJ cZ cS a_party a_party_kinds a_party_costs a_party_terms a_party_known v_party_size v_party_list v_party_told v_party_kinds v_party_terms k3)) fx h [1, 2, 3, 4] rfl rfl rfl rfl (q_runV fx h hl.1 [1, 2, 3, 4] rfl rfl (tX0_behind l D cI cJ cZ cS tb a_party a_party_kinds a_party_costs a_party_terms a_party_known H.size v_party_size v_party_list v_party_told v_party_kinds v_party_terms v_party_known y2 256 r3 k3 hg) mvX0_behind k_389 ⟨rfl, rfl⟩ ⟨Nat.le_of_ble_eq_true rfl, Nat.le_of_ble_eq_true rfl⟩ rfl rfl rfl rfl (Nat.le_of_ble_eq_true rfl) dX4_basin_28 ⟨Nat.le_of_ble_eq_true rfl, Nat.le_of_ble_eq_true rfl⟩) (fun H locs h => ?_)
  obtain ⟨r4, k4, hg, hf⟩ := bR_inv hf
  refine q_ci (rest := [.int y1]) (ws' := (wX4_basin cI cJ cZ cS a_t a_party a_party_kinds a_party_costs a_party_terms a_party_known a_kept a_tape a_telephone a_sheets a_findings v_isKept v_party_size v_party_list v_party_told v_party_kinds v_party_terms k4)) (w1 := (wX0_isSettled cI cJ cZ cS a_party a_party_kinds a_party_costs a_party_terms a_party_known v_party_size v_party_list v_party_told v_party_kinds v_party_terms k4)) fx h [1, 2, 3, 4] rfl rfl rfl rfl (q_runV fx h hl.1 [1, 2, 3, 4] rfl rfl (tX0_isSettled l D cI cJ cZ cS tb a_party a_party_kinds a_party_costs a_party_terms a_party_known H.size v_party_size v_party_list v_party_told v_party_kinds v_party_terms k3 r3 r4 k4 hg) mvX0_isSettled k_358 ⟨rfl, rfl⟩ ⟨Nat.le_of_ble_eq_true rfl, Nat.le_of_ble_eq_true rfl⟩ rfl rfl rfl rfl (Nat.le_of_ble_eq_true rfl) dX4_basin_31 ⟨Nat.le_of_ble_eq_true rfl, Nat.le_of_ble_eq_true rfl⟩) (fun H locs h => ?_)
  obtain ⟨r5, k5, hg, hf⟩ := bR_inv hf
  refine q_ci (rest := [.int y1]) (ws' := (wX4_basin cI cJ cZ cS a_t a_party a_party_kinds a_party_costs a_party_terms a_party_known a_kept a_tape a_telephone a_sheets a_findings v_isKept v_party_size v_party_list v_party_told v_party_kinds v_party_terms k4)) (w1 := (wX4_oneIf cI cJ cZ cS)) fx h [] rfl rfl rfl rfl (q_runS fx h hl.1 [] rfl rfl (tX4_oneIf l D cI cJ cZ cS tb H.size r4 r5 k5 hg) msX4_oneIf k_246 ⟨rfl, rfl⟩ ⟨Nat.le_of_ble_eq_true rfl, Nat.le_of_ble_eq_true rfl⟩ rfl rfl (Nat.le_of_ble_eq_true rfl) dX4_basin_34 ⟨Nat.le_of_ble_eq_true rfl, Nat.le_of_ble_eq_true rfl⟩) (fun H locs h => ?_)
  refine lv_iadd hx hb dX4_basin_37 ?_
  obtain ⟨u6, eu6, hf⟩ := nm_inv hf
  refine lv_eqi eu6 ?_
  refine lv_istore_n (lv' := [(1, .int u6), (0, .ref a_t), (2, .int y2)]) hx hb dX4_basin_38 rfl hl (by decide) rfl (fun ls hl => ?_)
  obtain ⟨u7, eu7, hf⟩ := nm_inv hf
  refine lv_iinc (v := u7) (lv' := [(2, .int u7), (1, .int u6), (0, .ref a_t)]) hx hb dX4_basin_39 hl (k := 2) rfl (by rw [eu7]; rfl) (by decide) rfl (fun ls hl => ?_)
  refine lv_goto (tgt := 4) hx hb dX4_basin_42 (by decide) ?_
  exact hag4 h (lv_sub hl [2, 1, 0] rfl) hf
set_option maxRecDepth 100000 in
theorem EX4_basin_4 {p : Program} {l : Launch} {e : Env} {s : State} {m : MethodId} {args : Array Value} {below : List Frame} {meth : Method} {c : Code} {D : va_G} {cI cJ cZ cS : ClassId} {tb : Nat} {A : Nat → Prop} {a_t a_party a_party_kinds a_party_costs a_party_terms a_party_known a_kept a_tape a_telephone a_sheets a_findings : Nat} {v_isKept : Int32} {v_party_size : Int32} {v_party_list : Int32} {v_party_told : Int32} {v_party_kinds : Nat → Int32} {v_party_terms : Nat → Int64} {rr : Int32} {kk' : (Nat → Int32)} (fx : q_Fx p s m args meth c cX4_basin 3 RX4 (some .int) D cI cJ cZ cS tb A) : ∀ (n : Nat), ∀ {v_party_known : Nat → Int32} {y1 : Int32} {y2 : Int32} {H : Heap} {locs : List Loc} {ls : Array Slot}, q_H D A s (wX4_basin cI cJ cZ cS a_t a_party a_party_kinds a_party_costs a_party_terms a_party_known a_kept a_tape a_telephone a_sheets a_findings v_isKept v_party_size v_party_list v_party_told v_party_kinds v_party_terms v_party_known) H locs → lv_has ls 3 [(0, .ref a_t), (1, .int y1), (2, .int y2)] → ll3 (fX4_basin_4 v_party_size v_party_kinds v_party_terms) n v_party_known y1 y2 = some (rr, kk') → W p l e rX4_basin s m args below meth c H locs 0 0 (MQ below (q_Ri D rr A ((fun k : (Nat → Int32) => (wX4_basin cI cJ cZ cS a_t a_party a_party_kinds a_party_costs a_party_terms a_party_known a_kept a_tape a_telephone a_sheets a_findings v_isKept v_party_size v_party_list v_party_told v_party_kinds v_party_terms k)) kk')) args s 0 0 A) (F0 m 4 ls []) := by
  intro n
  induction n with
  | zero => intro v_party_known y1 y2 H locs ls h hl hf; exact (ll3_z hf).elim
  | succ n ih => intro v_party_known y1 y2 H locs ls h hl hf; exact LX4_basin_4 fx ih h hl (ll3_s hf)
def fX4_basin (v_party_size : Int32) (v_party_kinds : Nat → Int32) (v_party_terms : Nat → Int64) (v_party_known : Nat → Int32) : Option (Int32 × (Nat → Int32)) :=
  ll3 (fX4_basin_4 v_party_size v_party_kinds v_party_terms) qF v_party_known 0 0
set_option maxRecDepth 100000 in
set_option maxHeartbeats 4000000 in
theorem tX4_basin (l : Launch) (D : va_G) (cI cJ cZ cS : ClassId) (tb : Nat) (a_t a_party a_party_kinds a_party_costs a_party_terms a_party_known a_kept a_tape a_telephone a_sheets a_findings : Nat) (sz : Nat) (v_isKept : Int32) (v_party_size : Int32) (v_party_list : Int32) (v_party_told : Int32) (v_party_kinds : Nat → Int32) (v_party_terms : Nat → Int64) (v_party_known : Nat → Int32) (rr : Int32) (kk' : (Nat → Int32)) (hf : fX4_basin v_party_size v_party_kinds v_party_terms v_party_known = some (rr, kk')) : Met l yX4_basin (Cond.code yX4_basin cX4_basin 3 (some .int) :: wA) rX4_basin (q_Pre D cI cJ cZ cS tb [.ref a_t] sz (wX4_basin cI cJ cZ cS a_t a_party a_party_kinds a_party_costs a_party_terms a_party_known a_kept a_tape a_telephone a_sheets a_findings v_isKept v_party_size v_party_list v_party_told v_party_kinds v_party_terms v_party_known)) (q_Ri D rr (va_A (wX4_basin cI cJ cZ cS a_t a_party a_party_kinds a_party_costs a_party_terms a_party_known a_kept a_tape a_telephone a_sheets a_findings v_isKept v_party_size v_party_list v_party_told v_party_kinds v_party_terms v_party_known) sz) ((fun k : (Nat → Int32) => (wX4_basin cI cJ cZ cS a_t a_party a_party_kinds a_party_costs a_party_terms a_party_known a_kept a_tape a_telephone a_sheets a_findings v_isKept v_party_size v_party_list v_party_told v_party_kinds v_party_terms k)) kk')) 0 0 (va_A (wX4_basin cI cJ cZ cS a_t a_party a_party_kinds a_party_costs a_party_terms a_party_known a_kept a_tape a_telephone a_sheets a_findings v_isKept v_party_size v_party_list v_party_told v_party_kinds v_party_terms v_party_known) sz) := by
  refine q_enter (Qf := fun A => (q_Ri D rr A ((fun k : (Nat → Int32) => (wX4_basin cI cJ cZ cS a_t a_party a_party_kinds a_party_costs a_party_terms a_party_known a_kept a_tape a_telephone a_sheets a_findings v_isKept v_party_size v_party_list v_party_told v_party_kinds v_party_terms k)) kk'))) (by decide) rfl (Nat.le_of_ble_eq_true rfl) ?_
  intro p e s m below meth c A ls fx hname h hl
  have hx := fx.1
  have hb := fx.2.1
  have hl : lv_has ls 3 [(0, .ref a_t)] := hl
  generalize h9 : s.heap = H at h ⊢
  clear h9
  generalize h9 : ([] : List Loc) = locs at h ⊢
  clear h9
  unfold fX4_basin at hf
  refine lv_iconst (v := 0) hx hb dX4_basin_0 (by decide) ?_
  refine lv_istore_n (lv' := [(1, .int 0), (0, .ref a_t)]) hx hb dX4_basin_1 rfl hl (by decide) rfl (fun ls hl => ?_)
  refine lv_iconst (v := 0) hx hb dX4_basin_2 (by decide) ?_
  refine lv_istore_n (lv' := [(2, .int 0), (1, .int 0), (0, .ref a_t)]) hx hb dX4_basin_3 rfl hl (by decide) rfl (fun ls hl => ?_)
  exact EX4_basin_4 fx qF h (lv_sub hl [2, 1, 0] rfl) hf
/-! X4_odds -/
abbrev wX4_odds (cI cJ cZ cS : ClassId) (a_t a_party a_party_kinds a_party_costs a_party_terms a_party_known a_kept a_tape a_telephone a_sheets a_findings : Nat) (v_isKept : Int32) (v_party_size : Int32) (v_party_list : Int32) (v_party_told : Int32) (v_party_kinds : Nat → Int32) (v_party_terms : Nat → Int64) (v_party_known : Nat → Int32) (v_findings : Nat → Int32) : va_W := [(a_t, .inr (4, [.ref a_party, .ref a_kept, .int v_isKept, .ref a_tape, .ref a_telephone, .ref a_sheets, .ref a_findings])), (a_party, .inr (0, [.int v_party_size, .int v_party_list, .int v_party_told, .ref a_party_kinds, .ref a_party_costs, .ref a_party_terms, .ref a_party_known])), (a_party_kinds, .inl (cI, 8, .inl v_party_kinds)), (a_party_terms, .inl (cJ, 32, .inr (.inl v_party_terms))), (a_party_known, .inl (cI, 256, .inl v_party_known)), (a_findings, .inl (cI, 7, .inl v_findings))]
abbrev rX4_odds : Room := { frames := 6, cells := 0, slots := 0, locals := 135 }
def fX4_odds_148 (v_party_size : Int32) (v_party_kinds : Nat → Int32) (v_party_terms : Nat → Int64) (v_party_known : Nat → Int32) (v_findings : Nat → Int32) (y2 : Int32) (y3 : Int64) (y5 : Int64) : Option (Int64 × (Nat → Int32) × (Nat → Int32)) :=
  (if y2 = 0 then (
  some (y3, (v_party_known, v_findings)))
  else (
  some (y5, (v_party_known, v_findings))))
set_option maxRecDepth 100000 in
set_option maxHeartbeats 4000000 in
theorem LX4_odds_148 {p : Program} {l : Launch} {e : Env} {s : State} {m : MethodId} {args : Array Value} {below : List Frame} {meth : Method} {c : Code} {D : va_G} {cI cJ cZ cS : ClassId} {tb : Nat} {A : Nat → Prop} {a_t a_party a_party_kinds a_party_costs a_party_terms a_party_known a_kept a_tape a_telephone a_sheets a_findings : Nat} {v_isKept : Int32} {v_party_size : Int32} {v_party_list : Int32} {v_party_told : Int32} {v_party_kinds : Nat → Int32} {v_party_terms : Nat → Int64} {rr : Int64} {kk' : (Nat → Int32) × (Nat → Int32)} (fx : q_Fx p s m args meth c cX4_odds 9 RX4 (some .long) D cI cJ cZ cS tb A) : ∀ {v_party_known : Nat → Int32} {v_findings : Nat → Int32} {y2 : Int32} {y3 : Int64} {y5 : Int64} {H : Heap} {locs : List Loc} {ls : Array Slot}, q_H D A s (wX4_odds cI cJ cZ cS a_t a_party a_party_kinds a_party_costs a_party_terms a_party_known a_kept a_tape a_telephone a_sheets a_findings v_isKept v_party_size v_party_list v_party_told v_party_kinds v_party_terms v_party_known v_findings) H locs → lv_has ls 9 [(2, .int y2), (3, .long y3), (5, .long y5)] → fX4_odds_148 v_party_size v_party_kinds v_party_terms v_party_known v_findings y2 y3 y5 = some (rr, kk') → W p l e rX4_odds s m args below meth c H locs 0 0 (MQ below (q_Rl D rr A ((fun k : (Nat → Int32) × (Nat → Int32) => (wX4_odds cI cJ cZ cS a_t a_party a_party_kinds a_party_costs a_party_terms a_party_known a_kept a_tape a_telephone a_sheets a_findings v_isKept v_party_size v_party_list v_party_told v_party_kinds v_party_terms k.1 k.2)) kk')) args s 0 0 A) (F0 m 148 ls []) := by
  intro v_party_known v_findings y2 y3 y5 H locs ls h hl hf
  have hx := fx.1
  have hb := fx.2.1
  unfold fX4_odds_148 at hf
  refine lv_iload_n hx hb dX4_odds_148 rfl (lv_at hl 0 rfl) ?_
  refine lv_if_ne (tgt := 156) hx hb dX4_odds_149 (by decide) (fun c1 => ?_) (fun c1 => ?_)
  · have hf := it_f c1 hf
    refine lv_lload hx hb dX4_odds_156 (lv_at hl 2 rfl) ?_
    exact q_retl (fun k : (Nat → Int32) × (Nat → Int32) => (wX4_odds cI cJ cZ cS a_t a_party a_party_kinds a_party_costs a_party_terms a_party_known a_kept a_tape a_telephone a_sheets a_findings v_isKept v_party_size v_party_list v_party_told v_party_kinds v_party_terms k.1 k.2)) fx hf h dX4_odds_158
  have hf := it_t c1 hf
  refine lv_lload_n hx hb dX4_odds_152 rfl (lv_at hl 1 rfl) ?_
  refine lv_goto (tgt := 158) hx hb dX4_odds_153 (by decide) ?_
  exact q_retl (fun k : (Nat → Int32) × (Nat → Int32) => (wX4_odds cI cJ cZ cS a_t a_party a_party_kinds a_party_costs a_party_terms a_party_known a_kept a_tape a_telephone a_sheets a_findings v_isKept v_party_size v_party_list v_party_told v_party_kinds v_party_terms k.1 k.2)) fx hf h dX4_odds_158
def fX4_odds_100 (v_party_size : Int32) (v_party_kinds : Nat → Int32) (v_party_terms : Nat → Int64) (ag100 : (Nat → Int32) → (Nat → Int32) → Int32 → Int64 → Int64 → Int32 → Option (Int64 × (Nat → Int32) × (Nat → Int32))) (v_party_known : Nat → Int32) (v_findings : Nat → Int32) (y2 : Int32) (y3 : Int64) (y5 : Int64) (y7 : Int32) : Option (Int64 × (Nat → Int32) × (Nat → Int32)) :=
  (if (8 : Int32) ≤ y7 then (
  fX4_odds_148 v_party_size v_party_kinds v_party_terms v_party_known v_findings y2 y3 y5)
  else (
  (if (lg_cmp (jlrem y3 2) 0) = 0 then (
  (if (lg_cmp (jlrem y5 2) 0) = 0 then (
  nm (y3 / 2) (fun u5 =>
  nm (y5 / 2) (fun u6 =>
  nm (y7 + 1) (fun u7 =>
  ag100 v_party_known v_findings y2 u5 u6 u7))))
  else (
  fX4_odds_148 v_party_size v_party_kinds v_party_terms v_party_known v_findings y2 y3 y5)))
  else (
  fX4_odds_148 v_party_size v_party_kinds v_party_terms v_party_known v_findings y2 y3 y5))))
set_option maxRecDepth 100000 in
set_option maxHeartbeats 4000000 in
theorem LX4_odds_100 {p : Program} {l : Launch} {e : Env} {s : State} {m : MethodId} {args : Array Value} {below : List Frame} {meth : Method} {c : Code} {D : va_G} {cI cJ cZ cS : ClassId} {tb : Nat} {A : Nat → Prop} {a_t a_party a_party_kinds a_party_costs a_party_terms a_party_known a_kept a_tape a_telephone a_sheets a_findings : Nat} {v_isKept : Int32} {v_party_size : Int32} {v_party_list : Int32} {v_party_told : Int32} {v_party_kinds : Nat → Int32} {v_party_terms : Nat → Int64} {rr : Int64} {kk' : (Nat → Int32) × (Nat → Int32)} (fx : q_Fx p s m args meth c cX4_odds 9 RX4 (some .long) D cI cJ cZ cS tb A) {ag100 : (Nat → Int32) → (Nat → Int32) → Int32 → Int64 → Int64 → Int32 → Option (Int64 × (Nat → Int32) × (Nat → Int32))} (hag100 : ∀ {v_party_known : Nat → Int32} {v_findings : Nat → Int32} {y2 : Int32} {y3 : Int64} {y5 : Int64} {y7 : Int32} {H : Heap} {locs : List Loc} {ls : Array Slot}, q_H D A s (wX4_odds cI cJ cZ cS a_t a_party a_party_kinds a_party_costs a_party_terms a_party_known a_kept a_tape a_telephone a_sheets a_findings v_isKept v_party_size v_party_list v_party_told v_party_kinds v_party_terms v_party_known v_findings) H locs → lv_has ls 9 [(2, .int y2), (3, .long y3), (5, .long y5), (7, .int y7)] → ag100 v_party_known v_findings y2 y3 y5 y7 = some (rr, kk') → W p l e rX4_odds s m args below meth c H locs 0 0 (MQ below (q_Rl D rr A ((fun k : (Nat → Int32) × (Nat → Int32) => (wX4_odds cI cJ cZ cS a_t a_party a_party_kinds a_party_costs a_party_terms a_party_known a_kept a_tape a_telephone a_sheets a_findings v_isKept v_party_size v_party_list v_party_told v_party_kinds v_party_terms k.1 k.2)) kk')) args s 0 0 A) (F0 m 100 ls [])) : ∀ {v_party_known : Nat → Int32} {v_findings : Nat → Int32} {y2 : Int32} {y3 : Int64} {y5 : Int64} {y7 : Int32} {H : Heap} {locs : List Loc} {ls : Array Slot}, q_H D A s (wX4_odds cI cJ cZ cS a_t a_party a_party_kinds a_party_costs a_party_terms a_party_known a_kept a_tape a_telephone a_sheets a_findings v_isKept v_party_size v_party_list v_party_told v_party_kinds v_party_terms v_party_known v_findings) H locs → lv_has ls 9 [(2, .int y2), (3, .long y3), (5, .long y5), (7, .int y7)] → fX4_odds_100 v_party_size v_party_kinds v_party_terms ag100 v_party_known v_findings y2 y3 y5 y7 = some (rr, kk') → W p l e rX4_odds s m args below meth c H locs 0 0 (MQ below (q_Rl D rr A ((fun k : (Nat → Int32) × (Nat → Int32) => (wX4_odds cI cJ cZ cS a_t a_party a_party_kinds a_party_costs a_party_terms a_party_known a_kept a_tape a_telephone a_sheets a_findings v_isKept v_party_size v_party_list v_party_told v_party_kinds v_party_terms k.1 k.2)) kk')) args s 0 0 A) (F0 m 100 ls []) := by
  intro v_party_known v_findings y2 y3 y5 y7 H locs ls h hl hf
  have hx := fx.1
  have hb := fx.2.1
  unfold fX4_odds_100 at hf
  refine lv_iload hx hb dX4_odds_100 (lv_at hl 3 rfl) ?_
  refine lv_bipush (v := 8) hx hb dX4_odds_102 (by decide) ?_
  refine lv_icmp_ge (tgt := 148) hx hb dX4_odds_104 (by decide) (fun c2 => ?_) (fun c2 => ?_)
  · have hf := it_t c2 hf
    exact LX4_odds_148 fx h (lv_sub hl [0, 1, 2] rfl) hf
  have hf := it_f c2 hf
  refine lv_lload_n hx hb dX4_odds_107 rfl (lv_at hl 1 rfl) ?_
  refine q_ldc2 fx k_474 dX4_odds_108 ?_
  refine lv_lrem hx hb dX4_odds_111 (by decide) ?_
  refine lv_lconst (v := 0) hx hb dX4_odds_112 (by decide) ?_
  refine W.lcmp hx hb dX4_odds_113 ?_
  refine lv_if_ne (tgt := 148) hx hb dX4_odds_114 (by decide) (fun c3 => ?_) (fun c3 => ?_)
  · have hf := it_f c3 hf
    exact LX4_odds_148 fx h (lv_sub hl [0, 1, 2] rfl) hf
  have hf := it_t c3 hf
  refine lv_lload hx hb dX4_odds_117 (lv_at hl 2 rfl) ?_
  refine q_ldc2 fx k_474 dX4_odds_119 ?_
  refine lv_lrem hx hb dX4_odds_122 (by decide) ?_
  refine lv_lconst (v := 0) hx hb dX4_odds_123 (by decide) ?_
  refine W.lcmp hx hb dX4_odds_124 ?_
  refine lv_if_ne (tgt := 148) hx hb dX4_odds_125 (by decide) (fun c4 => ?_) (fun c4 => ?_)
  · have hf := it_f c4 hf
    exact LX4_odds_148 fx h (lv_sub hl [0, 1, 2] rfl) hf
  have hf := it_t c4 hf
  refine lv_lload_n hx hb dX4_odds_128 rfl (lv_at hl 1 rfl) ?_
  refine q_ldc2 fx k_474 dX4_odds_129 ?_
  refine lv_ldiv hx hb dX4_odds_132 (by decide) ?_
  obtain ⟨u5, eu5, hf⟩ := nm_inv hf
  refine lv_eql eu5 ?_
  refine lv_lstore_n (lv' := [(3, .long u5), (2, .int y2), (5, .long y5), (7, .int y7)]) hx hb dX4_odds_133 rfl hl (by decide) rfl (fun ls hl => ?_)
  refine lv_lload hx hb dX4_odds_134 (lv_at hl 2 rfl) ?_
  refine q_ldc2 fx k_474 dX4_odds_136 ?_
  refine lv_ldiv hx hb dX4_odds_139 (by decide) ?_
  obtain ⟨u6, eu6, hf⟩ := nm_inv hf
  refine lv_eql eu6 ?_
  refine lv_lstore (lv' := [(5, .long u6), (3, .long u5), (2, .int y2), (7, .int y7)]) hx hb dX4_odds_140 hl (by decide) rfl (fun ls hl => ?_)
  obtain ⟨u7, eu7, hf⟩ := nm_inv hf
  refine lv_iinc (v := u7) (lv' := [(7, .int u7), (5, .long u6), (3, .long u5), (2, .int y2)]) hx hb dX4_odds_142 hl (k := 3) rfl (by rw [eu7]; rfl) (by decide) rfl (fun ls hl => ?_)
  refine lv_goto (tgt := 100) hx hb dX4_odds_145 (by decide) ?_
  exact hag100 h (lv_sub hl [3, 2, 1, 0] rfl) hf
set_option maxRecDepth 100000 in
theorem EX4_odds_100 {p : Program} {l : Launch} {e : Env} {s : State} {m : MethodId} {args : Array Value} {below : List Frame} {meth : Method} {c : Code} {D : va_G} {cI cJ cZ cS : ClassId} {tb : Nat} {A : Nat → Prop} {a_t a_party a_party_kinds a_party_costs a_party_terms a_party_known a_kept a_tape a_telephone a_sheets a_findings : Nat} {v_isKept : Int32} {v_party_size : Int32} {v_party_list : Int32} {v_party_told : Int32} {v_party_kinds : Nat → Int32} {v_party_terms : Nat → Int64} {rr : Int64} {kk' : (Nat → Int32) × (Nat → Int32)} (fx : q_Fx p s m args meth c cX4_odds 9 RX4 (some .long) D cI cJ cZ cS tb A) : ∀ (n : Nat), ∀ {v_party_known : Nat → Int32} {v_findings : Nat → Int32} {y2 : Int32} {y3 : Int64} {y5 : Int64} {y7 : Int32} {H : Heap} {locs : List Loc} {ls : Array Slot}, q_H D A s (wX4_odds cI cJ cZ cS a_t a_party a_party_kinds a_party_costs a_party_terms a_party_known a_kept a_tape a_telephone a_sheets a_findings v_isKept v_party_size v_party_list v_party_told v_party_kinds v_party_terms v_party_known v_findings) H locs → lv_has ls 9 [(2, .int y2), (3, .long y3), (5, .long y5), (7, .int y7)] → ll6 (fX4_odds_100 v_party_size v_party_kinds v_party_terms) n v_party_known v_findings y2 y3 y5 y7 = some (rr, kk') → W p l e rX4_odds s m args below meth c H locs 0 0 (MQ below (q_Rl D rr A ((fun k : (Nat → Int32) × (Nat → Int32) => (wX4_odds cI cJ cZ cS a_t a_party a_party_kinds a_party_costs a_party_terms a_party_known a_kept a_tape a_telephone a_sheets a_findings v_isKept v_party_size v_party_list v_party_told v_party_kinds v_party_terms k.1 k.2)) kk')) args s 0 0 A) (F0 m 100 ls []) := by
  intro n
  induction n with
  | zero => intro v_party_known v_findings y2 y3 y5 y7 H locs ls h hl hf; exact (ll6_z hf).elim
  | succ n ih => intro v_party_known v_findings y2 y3 y5 y7 H locs ls h hl hf; exact LX4_odds_100 fx ih h hl (ll6_s hf)
def fX4_odds_91 (v_party_size : Int32) (v_party_kinds : Nat → Int32) (v_party_terms : Nat → Int64) (ag43 : (Nat → Int32) → (Nat → Int32) → Int32 → Int32 → Int64 → Int64 → Int32 → Option (Int64 × (Nat → Int32) × (Nat → Int32))) (v_party_known : Nat → Int32) (v_findings : Nat → Int32) (y1 : Int32) (y2 : Int32) (y3 : Int64) (y5 : Int64) (y7 : Int32) : Option (Int64 × (Nat → Int32) × (Nat → Int32)) :=
  nm (y7 + 1) (fun u8 =>
  ag43 v_party_known v_findings y1 y2 y3 y5 u8)
set_option maxRecDepth 100000 in
set_option maxHeartbeats 4000000 in
theorem LX4_odds_91 {p : Program} {l : Launch} {e : Env} {s : State} {m : MethodId} {args : Array Value} {below : List Frame} {meth : Method} {c : Code} {D : va_G} {cI cJ cZ cS : ClassId} {tb : Nat} {A : Nat → Prop} {a_t a_party a_party_kinds a_party_costs a_party_terms a_party_known a_kept a_tape a_telephone a_sheets a_findings : Nat} {v_isKept : Int32} {v_party_size : Int32} {v_party_list : Int32} {v_party_told : Int32} {v_party_kinds : Nat → Int32} {v_party_terms : Nat → Int64} {rr : Int64} {kk' : (Nat → Int32) × (Nat → Int32)} (fx : q_Fx p s m args meth c cX4_odds 9 RX4 (some .long) D cI cJ cZ cS tb A) {ag43 : (Nat → Int32) → (Nat → Int32) → Int32 → Int32 → Int64 → Int64 → Int32 → Option (Int64 × (Nat → Int32) × (Nat → Int32))} (hag43 : ∀ {v_party_known : Nat → Int32} {v_findings : Nat → Int32} {y1 : Int32} {y2 : Int32} {y3 : Int64} {y5 : Int64} {y7 : Int32} {H : Heap} {locs : List Loc} {ls : Array Slot}, q_H D A s (wX4_odds cI cJ cZ cS a_t a_party a_party_kinds a_party_costs a_party_terms a_party_known a_kept a_tape a_telephone a_sheets a_findings v_isKept v_party_size v_party_list v_party_told v_party_kinds v_party_terms v_party_known v_findings) H locs → lv_has ls 9 [(0, .ref a_t), (1, .int y1), (2, .int y2), (3, .long y3), (5, .long y5), (7, .int y7)] → ag43 v_party_known v_findings y1 y2 y3 y5 y7 = some (rr, kk') → W p l e rX4_odds s m args below meth c H locs 0 0 (MQ below (q_Rl D rr A ((fun k : (Nat → Int32) × (Nat → Int32) => (wX4_odds cI cJ cZ cS a_t a_party a_party_kinds a_party_costs a_party_terms a_party_known a_kept a_tape a_telephone a_sheets a_findings v_isKept v_party_size v_party_list v_party_told v_party_kinds v_party_terms k.1 k.2)) kk')) args s 0 0 A) (F0 m 43 ls [])) : ∀ {v_party_known : Nat → Int32} {v_findings : Nat → Int32} {y1 : Int32} {y2 : Int32} {y3 : Int64} {y5 : Int64} {y7 : Int32} {H : Heap} {locs : List Loc} {ls : Array Slot}, q_H D A s (wX4_odds cI cJ cZ cS a_t a_party a_party_kinds a_party_costs a_party_terms a_party_known a_kept a_tape a_telephone a_sheets a_findings v_isKept v_party_size v_party_list v_party_told v_party_kinds v_party_terms v_party_known v_findings) H locs → lv_has ls 9 [(0, .ref a_t), (1, .int y1), (2, .int y2), (3, .long y3), (5, .long y5), (7, .int y7)] → fX4_odds_91 v_party_size v_party_kinds v_party_terms ag43 v_party_known v_findings y1 y2 y3 y5 y7 = some (rr, kk') → W p l e rX4_odds s m args below meth c H locs 0 0 (MQ below (q_Rl D rr A ((fun k : (Nat → Int32) × (Nat → Int32) => (wX4_odds cI cJ cZ cS a_t a_party a_party_kinds a_party_costs a_party_terms a_party_known a_kept a_tape a_telephone a_sheets a_findings v_isKept v_party_size v_party_list v_party_told v_party_kinds v_party_terms k.1 k.2)) kk')) args s 0 0 A) (F0 m 91 ls []) := by
  intro v_party_known v_findings y1 y2 y3 y5 y7 H locs ls h hl hf
  have hx := fx.1
  have hb := fx.2.1
  unfold fX4_odds_91 at hf
  obtain ⟨u8, eu8, hf⟩ := nm_inv hf
  refine lv_iinc (v := u8) (lv' := [(7, .int u8), (0, .ref a_t), (1, .int y1), (2, .int y2), (3, .long y3), (5, .long y5)]) hx hb dX4_odds_91 hl (k := 5) rfl (by rw [eu8]; rfl) (by decide) rfl (fun ls hl => ?_)
  refine lv_goto (tgt := 43) hx hb dX4_odds_94 (by decide) ?_
  exact hag43 h (lv_sub hl [1, 2, 3, 4, 5, 0] rfl) hf
def fX4_odds_43 (v_party_size : Int32) (v_party_kinds : Nat → Int32) (v_party_terms : Nat → Int64) (ag43 : (Nat → Int32) → (Nat → Int32) → Int32 → Int32 → Int64 → Int64 → Int32 → Option (Int64 × (Nat → Int32) × (Nat → Int32))) (v_party_known : Nat → Int32) (v_findings : Nat → Int32) (y1 : Int32) (y2 : Int32) (y3 : Int64) (y5 : Int64) (y7 : Int32) : Option (Int64 × (Nat → Int32) × (Nat → Int32)) :=
  bR (fX0_lists v_party_size) (fun r9 k9 =>
  (if r9 ≤ y7 then (
  ll6 (fX4_odds_100 v_party_size v_party_kinds v_party_terms) qF v_party_known v_findings y2 y3 y5 0)
  else (
  bR (fX0_behind v_party_size v_party_kinds v_party_terms v_party_known y7 256) (fun r11 k11 =>
  bR (fX0_isSettled v_party_size v_party_kinds v_party_terms k11 r11) (fun r12 k12 =>
  (if r12 = 0 then (
  fX4_odds_91 v_party_size v_party_kinds v_party_terms ag43 k12 v_findings y1 y2 y3 y5 y7)
  else (
  nm (y3 + (((jshr r11 y1) &&& 1).toInt64)) (fun u14 =>
  fX4_odds_91 v_party_size v_party_kinds v_party_terms ag43 k12 v_findings y1 y2 u14 y5 y7))))))))
set_option maxRecDepth 100000 in
set_option maxHeartbeats 4000000 in
theorem LX4_odds_43 {p : Program} {l : Launch} {e : Env} {s : State} {m : MethodId} {args : Array Value} {below : List Frame} {meth : Method} {c : Code} {D : va_G} {cI cJ cZ cS : ClassId} {tb : Nat} {A : Nat → Prop} {a_t a_party a_party_kinds a_party_costs a_party_terms a_party_known a_kept a_tape a_telephone a_sheets a_findings : Nat} {v_isKept : Int32} {v_party_size : Int32} {v_party_list : Int32} {v_party_told : Int32} {v_party_kinds : Nat → Int32} {v_party_terms : Nat → Int64} {rr : Int64} {kk' : (Nat → Int32) × (Nat → Int32)} (fx : q_Fx p s m args meth c cX4_odds 9 RX4 (some .long) D cI cJ cZ cS tb A) {ag43 : (Nat → Int32) → (Nat → Int32) → Int32 → Int32 → Int64 → Int64 → Int32 → Option (Int64 × (Nat → Int32) × (Nat → Int32))} (hag43 : ∀ {v_party_known : Nat → Int32} {v_findings : Nat → Int32} {y1 : Int32} {y2 : Int32} {y3 : Int64} {y5 : Int64} {y7 : Int32} {H : Heap} {locs : List Loc} {ls : Array Slot}, q_H D A s (wX4_odds cI cJ cZ cS a_t a_party a_party_kinds a_party_costs a_party_terms a_party_known a_kept a_tape a_telephone a_sheets a_findings v_isKept v_party_size v_party_list v_party_told v_party_kinds v_party_terms v_party_known v_findings) H locs → lv_has ls 9 [(0, .ref a_t), (1, .int y1), (2, .int y2), (3, .long y3), (5, .long y5), (7, .int y7)] → ag43 v_party_known v_findings y1 y2 y3 y5 y7 = some (rr, kk') → W p l e rX4_odds s m args below meth c H locs 0 0 (MQ below (q_Rl D rr A ((fun k : (Nat → Int32) × (Nat → Int32) => (wX4_odds cI cJ cZ cS a_t a_party a_party_kinds a_party_costs a_party_terms a_party_known a_kept a_tape a_telephone a_sheets a_findings v_isKept v_party_size v_party_list v_party_told v_party_kinds v_party_terms k.1 k.2)) kk')) args s 0 0 A) (F0 m 43 ls [])) : ∀ {v_party_known : Nat → Int32} {v_findings : Nat → Int32} {y1 : Int32} {y2 : Int32} {y3 : Int64} {y5 : Int64} {y7 : Int32} {H : Heap} {locs : List Loc} {ls : Array Slot}, q_H D A s (wX4_odds cI cJ cZ cS a_t a_party a_party_kinds a_party_costs a_party_terms a_party_known a_kept a_tape a_telephone a_sheets a_findings v_isKept v_party_size v_party_list v_party_told v_party_kinds v_party_terms v_party_known v_findings) H locs → lv_has ls 9 [(0, .ref a_t), (1, .int y1), (2, .int y2), (3, .long y3), (5, .long y5), (7, .int y7)] → fX4_odds_43 v_party_size v_party_kinds v_party_terms ag43 v_party_known v_findings y1 y2 y3 y5 y7 = some (rr, kk') → W p l e rX4_odds s m args below meth c H locs 0 0 (MQ below (q_Rl D rr A ((fun k : (Nat → Int32) × (Nat → Int32) => (wX4_odds cI cJ cZ cS a_t a_party a_party_kinds a_party_costs a_party_terms a_party_known a_kept a_tape a_telephone a_sheets a_findings v_isKept v_party_size v_party_list v_party_told v_party_kinds v_party_terms k.1 k.2)) kk')) args s 0 0 A) (F0 m 43 ls []) := by
  intro v_party_known v_findings y1 y2 y3 y5 y7 H locs ls h hl hf
  have hx := fx.1
  have hb := fx.2.1
  unfold fX4_odds_43 at hf
  refine lv_iload hx hb dX4_odds_43 (lv_at hl 5 rfl) ?_
  refine lv_aload_n hx hb dX4_odds_45 rfl (lv_at hl 0 rfl) ?_
  refine q_get (v := .ref a_party) fx inX4 h 0 rfl rfl 0 (by decide) k_174 rfl dX4_odds_46 ?_
  obtain ⟨r9, k9, hg, hf⟩ := bR_inv hf
  refine q_ci (rest := [.int y7]) (ws' := (wX4_odds cI cJ cZ cS a_t a_party a_party_kinds a_party_costs a_party_terms a_party_known a_kept a_tape a_telephone a_sheets a_findings v_isKept v_party_size v_party_list v_party_told v_party_kinds v_party_terms v_party_known v_findings)) (w1 := (wX0_lists cI cJ cZ cS a_party a_party_kinds a_party_costs a_party_terms a_party_known v_party_size v_party_list v_party_told)) fx h [1] rfl rfl rfl rfl (q_runV fx h hl.1 [1] rfl rfl (tX0_lists l D cI cJ cZ cS tb a_party a_party_kinds a_party_costs a_party_terms a_party_known H.size v_party_size v_party_list v_party_told r9 k9 hg) mvX0_lists k_447 ⟨rfl, rfl⟩ ⟨Nat.le_of_ble_eq_true rfl, Nat.le_of_ble_eq_true rfl⟩ rfl rfl rfl rfl (Nat.le_of_ble_eq_true rfl) dX4_odds_49 ⟨Nat.le_of_ble_eq_true rfl, Nat.le_of_ble_eq_true rfl⟩) (fun H locs h => ?_)
  refine lv_icmp_ge (tgt := 97) hx hb dX4_odds_52 (by decide) (fun c10 => ?_) (fun c10 => ?_)
  · have hf := it_t c10 hf
    refine lv_iconst (v := 0) hx hb dX4_odds_97 (by decide) ?_
    refine lv_istore (lv' := [(7, .int 0), (0, .ref a_t), (1, .int y1), (2, .int y2), (3, .long y3), (5, .long y5)]) hx hb dX4_odds_98 hl (by decide) rfl (fun ls hl => ?_)
    exact EX4_odds_100 fx qF h (lv_sub hl [3, 4, 5, 0] rfl) hf
  have hf := it_f c10 hf
  refine lv_aload_n hx hb dX4_odds_55 rfl (lv_at hl 0 rfl) ?_
  refine q_get (v := .ref a_party) fx inX4 h 0 rfl rfl 0 (by decide) k_174 rfl dX4_odds_56 ?_
  refine lv_iload hx hb dX4_odds_59 (lv_at hl 5 rfl) ?_
  refine lv_sipush (v := 256) hx hb dX4_odds_61 (by decide) ?_
  obtain ⟨r11, k11, hg, hf⟩ := bR_inv hf
  refine q_ci (rest := []) (ws' := (wX4_odds cI cJ cZ cS a_t a_party a_party_kinds a_party_costs a_party_terms a_party_known a_kept a_tape a_telephone a_sheets a_findings v_isKept v_party_size v_party_list v_party_told v_party_kinds v_party_terms k11 v_findings)) (w1 := (wX0_behind cI cJ cZ cS a_party a_party_kinds a_party_costs a_party_terms a_party_known v_party_size v_party_list v_party_told v_party_kinds v_party_terms k11)) fx h [1, 2, 3, 4] rfl rfl rfl rfl (q_runV fx h hl.1 [1, 2, 3, 4] rfl rfl (tX0_behind l D cI cJ cZ cS tb a_party a_party_kinds a_party_costs a_party_terms a_party_known H.size v_party_size v_party_list v_party_told v_party_kinds v_party_terms v_party_known y7 256 r11 k11 hg) mvX0_behind k_389 ⟨rfl, rfl⟩ ⟨Nat.le_of_ble_eq_true rfl, Nat.le_of_ble_eq_true rfl⟩ rfl rfl rfl rfl (Nat.le_of_ble_eq_true rfl) dX4_odds_64 ⟨Nat.le_of_ble_eq_true rfl, Nat.le_of_ble_eq_true rfl⟩) (fun H locs h => ?_)
  refine lv_istore (lv' := [(8, .int r11), (0, .ref a_t), (1, .int y1), (2, .int y2), (3, .long y3), (5, .long y5), (7, .int y7)]) hx hb dX4_odds_67 hl (by decide) rfl (fun ls hl => ?_)
  refine lv_aload_n hx hb dX4_odds_69 rfl (lv_at hl 1 rfl) ?_
  refine q_get (v := .ref a_party) fx inX4 h 0 rfl rfl 0 (by decide) k_174 rfl dX4_odds_70 ?_
  refine lv_iload hx hb dX4_odds_73 (lv_at hl 0 rfl) ?_
  obtain ⟨r12, k12, hg, hf⟩ := bR_inv hf
  refine q_ci (rest := []) (ws' := (wX4_odds cI cJ cZ cS a_t a_party a_party_kinds a_party_costs a_party_terms a_party_known a_kept a_tape a_telephone a_sheets a_findings v_isKept v_party_size v_party_list v_party_told v_party_kinds v_party_terms k12 v_findings)) (w1 := (wX0_isSettled cI cJ cZ cS a_party a_party_kinds a_party_costs a_party_terms a_party_known v_party_size v_party_list v_party_told v_party_kinds v_party_terms k12)) fx h [1, 2, 3, 4] rfl rfl rfl rfl (q_runV fx h hl.1 [1, 2, 3, 4] rfl rfl (tX0_isSettled l D cI cJ cZ cS tb a_party a_party_kinds a_party_costs a_party_terms a_party_known H.size v_party_size v_party_list v_party_told v_party_kinds v_party_terms k11 r11 r12 k12 hg) mvX0_isSettled k_358 ⟨rfl, rfl⟩ ⟨Nat.le_of_ble_eq_true rfl, Nat.le_of_ble_eq_true rfl⟩ rfl rfl rfl rfl (Nat.le_of_ble_eq_true rfl) dX4_odds_75 ⟨Nat.le_of_ble_eq_true rfl, Nat.le_of_ble_eq_true rfl⟩) (fun H locs h => ?_)
  refine lv_if_eq (tgt := 91) hx hb dX4_odds_78 (by decide) (fun c13 => ?_) (fun c13 => ?_)
  · have hf := it_t c13 hf
    exact LX4_odds_91 fx hag43 h (lv_sub hl [1, 2, 3, 4, 5, 6] rfl) hf
  have hf := it_f c13 hf
  refine lv_lload_n hx hb dX4_odds_81 rfl (lv_at hl 4 rfl) ?_
  refine lv_iload hx hb dX4_odds_82 (lv_at hl 0 rfl) ?_
  refine lv_iload_n hx hb dX4_odds_84 rfl (lv_at hl 2 rfl) ?_
  refine lv_ishr hx hb dX4_odds_85 ?_
  refine lv_iconst (v := 1) hx hb dX4_odds_86 (by decide) ?_
  refine lv_iand hx hb dX4_odds_87 ?_
  refine lv_i2l hx hb dX4_odds_88 rfl ?_
  refine lv_ladd hx hb dX4_odds_89 ?_
  obtain ⟨u14, eu14, hf⟩ := nm_inv hf
  refine lv_eql eu14 ?_
  refine lv_lstore_n (lv' := [(3, .long u14), (8, .int r11), (0, .ref a_t), (1, .int y1), (2, .int y2), (5, .long y5), (7, .int y7)]) hx hb dX4_odds_90 rfl hl (by decide) rfl (fun ls hl => ?_)
  exact LX4_odds_91 fx hag43 h (lv_sub hl [2, 3, 4, 0, 5, 6] rfl) hf
set_option maxRecDepth 100000 in
theorem EX4_odds_43 {p : Program} {l : Launch} {e : Env} {s : State} {m : MethodId} {args : Array Value} {below : List Frame} {meth : Method} {c : Code} {D : va_G} {cI cJ cZ cS : ClassId} {tb : Nat} {A : Nat → Prop} {a_t a_party a_party_kinds a_party_costs a_party_terms a_party_known a_kept a_tape a_telephone a_sheets a_findings : Nat} {v_isKept : Int32} {v_party_size : Int32} {v_party_list : Int32} {v_party_told : Int32} {v_party_kinds : Nat → Int32} {v_party_terms : Nat → Int64} {rr : Int64} {kk' : (Nat → Int32) × (Nat → Int32)} (fx : q_Fx p s m args meth c cX4_odds 9 RX4 (some .long) D cI cJ cZ cS tb A) : ∀ (n : Nat), ∀ {v_party_known : Nat → Int32} {v_findings : Nat → Int32} {y1 : Int32} {y2 : Int32} {y3 : Int64} {y5 : Int64} {y7 : Int32} {H : Heap} {locs : List Loc} {ls : Array Slot}, q_H D A s (wX4_odds cI cJ cZ cS a_t a_party a_party_kinds a_party_costs a_party_terms a_party_known a_kept a_tape a_telephone a_sheets a_findings v_isKept v_party_size v_party_list v_party_told v_party_kinds v_party_terms v_party_known v_findings) H locs → lv_has ls 9 [(0, .ref a_t), (1, .int y1), (2, .int y2), (3, .long y3), (5, .long y5), (7, .int y7)] → ll7 (fX4_odds_43 v_party_size v_party_kinds v_party_terms) n v_party_known v_findings y1 y2 y3 y5 y7 = some (rr, kk') → W p l e rX4_odds s m args below meth c H locs 0 0 (MQ below (q_Rl D rr A ((fun k : (Nat → Int32) × (Nat → Int32) => (wX4_odds cI cJ cZ cS a_t a_party a_party_kinds a_party_costs a_party_terms a_party_known a_kept a_tape a_telephone a_sheets a_findings v_isKept v_party_size v_party_list v_party_told v_party_kinds v_party_terms k.1 k.2)) kk')) args s 0 0 A) (F0 m 43 ls []) := by
  intro n
  induction n with
  | zero => intro v_party_known v_findings y1 y2 y3 y5 y7 H locs ls h hl hf; exact (ll7_z hf).elim
  | succ n ih => intro v_party_known v_findings y1 y2 y3 y5 y7 H locs ls h hl hf; exact LX4_odds_43 fx ih h hl (ll7_s hf)
def fX4_odds_28 (v_party_size : Int32) (v_party_kinds : Nat → Int32) (v_party_terms : Nat → Int64) (v_party_known : Nat → Int32) (v_findings : Nat → Int32) (y1 : Int32) (y2 : Int32) : Option (Int64 × (Nat → Int32) × (Nat → Int32)) :=
  bR (fX0_lists v_party_size) (fun r15 k15 =>
  nm (r15.toInt64) (fun u16 =>
  ll7 (fX4_odds_43 v_party_size v_party_kinds v_party_terms) qF v_party_known v_findings y1 y2 0 u16 0))
set_option maxRecDepth 100000 in
set_option maxHeartbeats 4000000 in
theorem LX4_odds_28 {p : Program} {l : Launch} {e : Env} {s : State} {m : MethodId} {args : Array Value} {below : List Frame} {meth : Method} {c : Code} {D : va_G} {cI cJ cZ cS : ClassId} {tb : Nat} {A : Nat → Prop} {a_t a_party a_party_kinds a_party_costs a_party_terms a_party_known a_kept a_tape a_telephone a_sheets a_findings : Nat} {v_isKept : Int32} {v_party_size : Int32} {v_party_list : Int32} {v_party_told : Int32} {v_party_kinds : Nat → Int32} {v_party_terms : Nat → Int64} {rr : Int64} {kk' : (Nat → Int32) × (Nat → Int32)} (fx : q_Fx p s m args meth c cX4_odds 9 RX4 (some .long) D cI cJ cZ cS tb A) : ∀ {v_party_known : Nat → Int32} {v_findings : Nat → Int32} {y1 : Int32} {y2 : Int32} {H : Heap} {locs : List Loc} {ls : Array Slot}, q_H D A s (wX4_odds cI cJ cZ cS a_t a_party a_party_kinds a_party_costs a_party_terms a_party_known a_kept a_tape a_telephone a_sheets a_findings v_isKept v_party_size v_party_list v_party_told v_party_kinds v_party_terms v_party_known v_findings) H locs → lv_has ls 9 [(0, .ref a_t), (1, .int y1), (2, .int y2)] → fX4_odds_28 v_party_size v_party_kinds v_party_terms v_party_known v_findings y1 y2 = some (rr, kk') → W p l e rX4_odds s m args below meth c H locs 0 0 (MQ below (q_Rl D rr A ((fun k : (Nat → Int32) × (Nat → Int32) => (wX4_odds cI cJ cZ cS a_t a_party a_party_kinds a_party_costs a_party_terms a_party_known a_kept a_tape a_telephone a_sheets a_findings v_isKept v_party_size v_party_list v_party_told v_party_kinds v_party_terms k.1 k.2)) kk')) args s 0 0 A) (F0 m 28 ls []) := by
  intro v_party_known v_findings y1 y2 H locs ls h hl hf
  have hx := fx.1
  have hb := fx.2.1
  unfold fX4_odds_28 at hf
  refine lv_lconst (v := 0) hx hb dX4_odds_28 (by decide) ?_
  refine lv_lstore_n (lv' := [(3, .long 0), (0, .ref a_t), (1, .int y1), (2, .int y2)]) hx hb dX4_odds_29 rfl hl (by decide) rfl (fun ls hl => ?_)
  refine lv_aload_n hx hb dX4_odds_30 rfl (lv_at hl 1 rfl) ?_
  refine q_get (v := .ref a_party) fx inX4 h 0 rfl rfl 0 (by decide) k_174 rfl dX4_odds_31 ?_
  obtain ⟨r15, k15, hg, hf⟩ := bR_inv hf
  refine q_ci (rest := []) (ws' := (wX4_odds cI cJ cZ cS a_t a_party a_party_kinds a_party_costs a_party_terms a_party_known a_kept a_tape a_telephone a_sheets a_findings v_isKept v_party_size v_party_list v_party_told v_party_kinds v_party_terms v_party_known v_findings)) (w1 := (wX0_lists cI cJ cZ cS a_party a_party_kinds a_party_costs a_party_terms a_party_known v_party_size v_party_list v_party_told)) fx h [1] rfl rfl rfl rfl (q_runV fx h hl.1 [1] rfl rfl (tX0_lists l D cI cJ cZ cS tb a_party a_party_kinds a_party_costs a_party_terms a_party_known H.size v_party_size v_party_list v_party_told r15 k15 hg) mvX0_lists k_447 ⟨rfl, rfl⟩ ⟨Nat.le_of_ble_eq_true rfl, Nat.le_of_ble_eq_true rfl⟩ rfl rfl rfl rfl (Nat.le_of_ble_eq_true rfl) dX4_odds_34 ⟨Nat.le_of_ble_eq_true rfl, Nat.le_of_ble_eq_true rfl⟩) (fun H locs h => ?_)
  refine lv_i2l hx hb dX4_odds_37 rfl ?_
  obtain ⟨u16, eu16, hf⟩ := nm_inv hf
  refine lv_eql eu16 ?_
  refine lv_lstore (lv' := [(5, .long u16), (3, .long 0), (0, .ref a_t), (1, .int y1), (2, .int y2)]) hx hb dX4_odds_38 hl (by decide) rfl (fun ls hl => ?_)
  refine lv_iconst (v := 0) hx hb dX4_odds_40 (by decide) ?_
  refine lv_istore (lv' := [(7, .int 0), (5, .long u16), (3, .long 0), (0, .ref a_t), (1, .int y1), (2, .int y2)]) hx hb dX4_odds_41 hl (by decide) rfl (fun ls hl => ?_)
  exact EX4_odds_43 fx qF h (lv_sub hl [3, 4, 5, 2, 1, 0] rfl) hf
def fX4_odds_20 (v_party_size : Int32) (v_party_kinds : Nat → Int32) (v_party_terms : Nat → Int64) (v_party_known : Nat → Int32) (v_findings : Nat → Int32) : Option (Int64 × (Nat → Int32) × (Nat → Int32)) :=
  bR (fX4_found v_findings (-1000000001)) (fun r17 k17 =>
  some (r17.toInt64, (v_party_known, k17)))
set_option maxRecDepth 100000 in
set_option maxHeartbeats 4000000 in
theorem LX4_odds_20 {p : Program} {l : Launch} {e : Env} {s : State} {m : MethodId} {args : Array Value} {below : List Frame} {meth : Method} {c : Code} {D : va_G} {cI cJ cZ cS : ClassId} {tb : Nat} {A : Nat → Prop} {a_t a_party a_party_kinds a_party_costs a_party_terms a_party_known a_kept a_tape a_telephone a_sheets a_findings : Nat} {v_isKept : Int32} {v_party_size : Int32} {v_party_list : Int32} {v_party_told : Int32} {v_party_kinds : Nat → Int32} {v_party_terms : Nat → Int64} {rr : Int64} {kk' : (Nat → Int32) × (Nat → Int32)} (fx : q_Fx p s m args meth c cX4_odds 9 RX4 (some .long) D cI cJ cZ cS tb A) : ∀ {v_party_known : Nat → Int32} {v_findings : Nat → Int32} {H : Heap} {locs : List Loc} {ls : Array Slot}, q_H D A s (wX4_odds cI cJ cZ cS a_t a_party a_party_kinds a_party_costs a_party_terms a_party_known a_kept a_tape a_telephone a_sheets a_findings v_isKept v_party_size v_party_list v_party_told v_party_kinds v_party_terms v_party_known v_findings) H locs → lv_has ls 9 [(0, .ref a_t)] → fX4_odds_20 v_party_size v_party_kinds v_party_terms v_party_known v_findings = some (rr, kk') → W p l e rX4_odds s m args below meth c H locs 0 0 (MQ below (q_Rl D rr A ((fun k : (Nat → Int32) × (Nat → Int32) => (wX4_odds cI cJ cZ cS a_t a_party a_party_kinds a_party_costs a_party_terms a_party_known a_kept a_tape a_telephone a_sheets a_findings v_isKept v_party_size v_party_list v_party_told v_party_kinds v_party_terms k.1 k.2)) kk')) args s 0 0 A) (F0 m 20 ls []) := by
  intro v_party_known v_findings H locs ls h hl hf
  have hx := fx.1
  have hb := fx.2.1
  unfold fX4_odds_20 at hf
  refine lv_aload_n hx hb dX4_odds_20 rfl (lv_at hl 0 rfl) ?_
  refine q_ldc fx k_206 dX4_odds_21 ?_
  obtain ⟨r17, k17, hg, hf⟩ := bR_inv hf
  refine q_ci (rest := []) (ws' := (wX4_odds cI cJ cZ cS a_t a_party a_party_kinds a_party_costs a_party_terms a_party_known a_kept a_tape a_telephone a_sheets a_findings v_isKept v_party_size v_party_list v_party_told v_party_kinds v_party_terms v_party_known k17)) (w1 := (wX4_found cI cJ cZ cS a_t a_party a_kept a_tape a_telephone a_sheets a_findings v_isKept k17)) fx h [0, 5] rfl rfl rfl rfl (q_runV fx h hl.1 [0, 5] rfl rfl (tX4_found l D cI cJ cZ cS tb a_t a_party a_kept a_tape a_telephone a_sheets a_findings H.size v_isKept v_findings (-1000000001) r17 k17 hg) mvX4_found k_207 ⟨rfl, rfl⟩ ⟨Nat.le_of_ble_eq_true rfl, Nat.le_of_ble_eq_true rfl⟩ rfl rfl rfl rfl (Nat.le_of_ble_eq_true rfl) dX4_odds_23 ⟨Nat.le_of_ble_eq_true rfl, Nat.le_of_ble_eq_true rfl⟩) (fun H locs h => ?_)
  refine lv_i2l hx hb dX4_odds_26 rfl ?_
  exact q_retl (fun k : (Nat → Int32) × (Nat → Int32) => (wX4_odds cI cJ cZ cS a_t a_party a_party_kinds a_party_costs a_party_terms a_party_known a_kept a_tape a_telephone a_sheets a_findings v_isKept v_party_size v_party_list v_party_told v_party_kinds v_party_terms k.1 k.2)) fx hf h dX4_odds_27
def fX4_odds (v_party_size : Int32) (v_party_kinds : Nat → Int32) (v_party_terms : Nat → Int64) (v_party_known : Nat → Int32) (v_findings : Nat → Int32) (x1 : Int32) (x2 : Int32) : Option (Int64 × (Nat → Int32) × (Nat → Int32)) :=
  bR (fX0_has v_party_size x1) (fun r18 k18 =>
  (if r18 = 0 then (
  fX4_odds_20 v_party_size v_party_kinds v_party_terms v_party_known v_findings)
  else (
  (if x2 = 0 then (
  fX4_odds_28 v_party_size v_party_kinds v_party_terms v_party_known v_findings x1 x2)
  else (
  (if x2 = 1 then (
  fX4_odds_28 v_party_size v_party_kinds v_party_terms v_party_known v_findings x1 x2)
  else (
  fX4_odds_20 v_party_size v_party_kinds v_party_terms v_party_known v_findings)))))))
set_option maxRecDepth 100000 in
set_option maxHeartbeats 4000000 in
theorem tX4_odds (l : Launch) (D : va_G) (cI cJ cZ cS : ClassId) (tb : Nat) (a_t a_party a_party_kinds a_party_costs a_party_terms a_party_known a_kept a_tape a_telephone a_sheets a_findings : Nat) (sz : Nat) (v_isKept : Int32) (v_party_size : Int32) (v_party_list : Int32) (v_party_told : Int32) (v_party_kinds : Nat → Int32) (v_party_terms : Nat → Int64) (v_party_known : Nat → Int32) (v_findings : Nat → Int32) (x1 : Int32) (x2 : Int32) (rr : Int64) (kk' : (Nat → Int32) × (Nat → Int32)) (hf : fX4_odds v_party_size v_party_kinds v_party_terms v_party_known v_findings x1 x2 = some (rr, kk')) : Met l yX4_odds (Cond.code yX4_odds cX4_odds 9 (some .long) :: wA) rX4_odds (q_Pre D cI cJ cZ cS tb [.ref a_t, .int x1, .int x2] sz (wX4_odds cI cJ cZ cS a_t a_party a_party_kinds a_party_costs a_party_terms a_party_known a_kept a_tape a_telephone a_sheets a_findings v_isKept v_party_size v_party_list v_party_told v_party_kinds v_party_terms v_party_known v_findings)) (q_Rl D rr (va_A (wX4_odds cI cJ cZ cS a_t a_party a_party_kinds a_party_costs a_party_terms a_party_known a_kept a_tape a_telephone a_sheets a_findings v_isKept v_party_size v_party_list v_party_told v_party_kinds v_party_terms v_party_known v_findings) sz) ((fun k : (Nat → Int32) × (Nat → Int32) => (wX4_odds cI cJ cZ cS a_t a_party a_party_kinds a_party_costs a_party_terms a_party_known a_kept a_tape a_telephone a_sheets a_findings v_isKept v_party_size v_party_list v_party_told v_party_kinds v_party_terms k.1 k.2)) kk')) 0 0 (va_A (wX4_odds cI cJ cZ cS a_t a_party a_party_kinds a_party_costs a_party_terms a_party_known a_kept a_tape a_telephone a_sheets a_findings v_isKept v_party_size v_party_list v_party_told v_party_kinds v_party_terms v_party_known v_findings) sz) := by
  refine q_enter (Qf := fun A => (q_Rl D rr A ((fun k : (Nat → Int32) × (Nat → Int32) => (wX4_odds cI cJ cZ cS a_t a_party a_party_kinds a_party_costs a_party_terms a_party_known a_kept a_tape a_telephone a_sheets a_findings v_isKept v_party_size v_party_list v_party_told v_party_kinds v_party_terms k.1 k.2)) kk'))) (by decide) rfl (Nat.le_of_ble_eq_true rfl) ?_
  intro p e s m below meth c A ls fx hname h hl
  have hx := fx.1
  have hb := fx.2.1
  have hl : lv_has ls 9 [(0, .ref a_t), (1, .int x1), (2, .int x2)] := hl
  generalize h9 : s.heap = H at h ⊢
  clear h9
  generalize h9 : ([] : List Loc) = locs at h ⊢
  clear h9
  unfold fX4_odds at hf
  refine lv_aload_n hx hb dX4_odds_0 rfl (lv_at hl 0 rfl) ?_
  refine q_get (v := .ref a_party) fx inX4 h 0 rfl rfl 0 (by decide) k_174 rfl dX4_odds_1 ?_
  refine lv_iload_n hx hb dX4_odds_4 rfl (lv_at hl 1 rfl) ?_
  obtain ⟨r18, k18, hg, hf⟩ := bR_inv hf
  refine q_ci (rest := []) (ws' := (wX4_odds cI cJ cZ cS a_t a_party a_party_kinds a_party_costs a_party_terms a_party_known a_kept a_tape a_telephone a_sheets a_findings v_isKept v_party_size v_party_list v_party_told v_party_kinds v_party_terms v_party_known v_findings)) (w1 := (wX0_has cI cJ cZ cS a_party a_party_kinds a_party_costs a_party_terms a_party_known v_party_size v_party_list v_party_told)) fx h [1] rfl rfl rfl rfl (q_runV fx h hl.1 [1] rfl rfl (tX0_has l D cI cJ cZ cS tb a_party a_party_kinds a_party_costs a_party_terms a_party_known H.size v_party_size v_party_list v_party_told x1 r18 k18 hg) mvX0_has k_220 ⟨rfl, rfl⟩ ⟨Nat.le_of_ble_eq_true rfl, Nat.le_of_ble_eq_true rfl⟩ rfl rfl rfl rfl (Nat.le_of_ble_eq_true rfl) dX4_odds_5 ⟨Nat.le_of_ble_eq_true rfl, Nat.le_of_ble_eq_true rfl⟩) (fun H locs h => ?_)
  refine lv_if_eq (tgt := 20) hx hb dX4_odds_8 (by decide) (fun c19 => ?_) (fun c19 => ?_)
  · have hf := it_t c19 hf
    exact LX4_odds_20 fx h (lv_sub hl [0] rfl) hf
  have hf := it_f c19 hf
  refine lv_iload_n hx hb dX4_odds_11 rfl (lv_at hl 2 rfl) ?_
  refine lv_if_eq (tgt := 28) hx hb dX4_odds_12 (by decide) (fun c20 => ?_) (fun c20 => ?_)
  · have hf := it_t c20 hf
    exact LX4_odds_28 fx h (lv_sub hl [0, 1, 2] rfl) hf
  have hf := it_f c20 hf
  refine lv_iload_n hx hb dX4_odds_15 rfl (lv_at hl 2 rfl) ?_
  refine lv_iconst (v := 1) hx hb dX4_odds_16 (by decide) ?_
  refine lv_icmp_eq (tgt := 28) hx hb dX4_odds_17 (by decide) (fun c21 => ?_) (fun c21 => ?_)
  · have hf := it_t c21 hf
    exact LX4_odds_28 fx h (lv_sub hl [0, 1, 2] rfl) hf
  have hf := it_f c21 hf
  exact LX4_odds_20 fx h (lv_sub hl [0] rfl) hf
/-! X0_lastOf -/
abbrev wX0_lastOf (cI cJ cZ cS : ClassId) (a_t a_kinds a_costs a_terms a_known : Nat) (v_size : Int32) (v_list : Int32) (v_told : Int32) (v_kinds : Nat → Int32) (v_terms : Nat → Int64) (v_known : Nat → Int32) : va_W := [(a_t, .inr (0, [.int v_size, .int v_list, .int v_told, .ref a_kinds, .ref a_costs, .ref a_terms, .ref a_known])), (a_kinds, .inl (cI, 8, .inl v_kinds)), (a_terms, .inl (cJ, 32, .inr (.inl v_terms))), (a_known, .inl (cI, 256, .inl v_known))]
abbrev rX0_lastOf : Room := { frames := 4, cells := 0, slots := 0, locals := 90 }
def fX0_lastOf_8 (v_size : Int32) (v_kinds : Nat → Int32) (v_terms : Nat → Int64) (ag8 : (Nat → Int32) → Int32 → Int32 → Int32 → Int32 → Int32 → Option (Int32 × (Nat → Int32))) (v_known : Nat → Int32) (y1 : Int32) (y2 : Int32) (y3 : Int32) (y4 : Int32) (y5 : Int32) : Option (Int32 × (Nat → Int32)) :=
  (if (64 : Int32) ≤ y5 then (
  some (y3, v_known))
  else (
  (if y3 = y4 then (
  some (y3, v_known))
  else (
  bR (fX0_comers v_size v_kinds v_terms v_known y3) (fun r3 k3 =>
  nm ((r3 &&& y2) ||| y1) (fun u4 =>
  nm (y5 + 1) (fun u5 =>
  ag8 k3 y1 y2 u4 y3 u5)))))))
set_option maxRecDepth 100000 in
set_option maxHeartbeats 4000000 in
theorem LX0_lastOf_8 {p : Program} {l : Launch} {e : Env} {s : State} {m : MethodId} {args : Array Value} {below : List Frame} {meth : Method} {c : Code} {D : va_G} {cI cJ cZ cS : ClassId} {tb : Nat} {A : Nat → Prop} {a_t a_kinds a_costs a_terms a_known : Nat} {v_size : Int32} {v_list : Int32} {v_told : Int32} {v_kinds : Nat → Int32} {v_terms : Nat → Int64} {rr : Int32} {kk' : (Nat → Int32)} (fx : q_Fx p s m args meth c cX0_lastOf 6 RX0 (some .int) D cI cJ cZ cS tb A) {ag8 : (Nat → Int32) → Int32 → Int32 → Int32 → Int32 → Int32 → Option (Int32 × (Nat → Int32))} (hag8 : ∀ {v_known : Nat → Int32} {y1 : Int32} {y2 : Int32} {y3 : Int32} {y4 : Int32} {y5 : Int32} {H : Heap} {locs : List Loc} {ls : Array Slot}, q_H D A s (wX0_lastOf cI cJ cZ cS a_t a_kinds a_costs a_terms a_known v_size v_list v_told v_kinds v_terms v_known) H locs → lv_has ls 6 [(0, .ref a_t), (1, .int y1), (2, .int y2), (3, .int y3), (4, .int y4), (5, .int y5)] → ag8 v_known y1 y2 y3 y4 y5 = some (rr, kk') → W p l e rX0_lastOf s m args below meth c H locs 0 0 (MQ below (q_Ri D rr A ((fun k : (Nat → Int32) => (wX0_lastOf cI cJ cZ cS a_t a_kinds a_costs a_terms a_known v_size v_list v_told v_kinds v_terms k)) kk')) args s 0 0 A) (F0 m 8 ls [])) : ∀ {v_known : Nat → Int32} {y1 : Int32} {y2 : Int32} {y3 : Int32} {y4 : Int32} {y5 : Int32} {H : Heap} {locs : List Loc} {ls : Array Slot}, q_H D A s (wX0_lastOf cI cJ cZ cS a_t a_kinds a_costs a_terms a_known v_size v_list v_told v_kinds v_terms v_known) H locs → lv_has ls 6 [(0, .ref a_t), (1, .int y1), (2, .int y2), (3, .int y3), (4, .int y4), (5, .int y5)] → fX0_lastOf_8 v_size v_kinds v_terms ag8 v_known y1 y2 y3 y4 y5 = some (rr, kk') → W p l e rX0_lastOf s m args below meth c H locs 0 0 (MQ below (q_Ri D rr A ((fun k : (Nat → Int32) => (wX0_lastOf cI cJ cZ cS a_t a_kinds a_costs a_terms a_known v_size v_list v_told v_kinds v_terms k)) kk')) args s 0 0 A) (F0 m 8 ls []) := by
  intro v_known y1 y2 y3 y4 y5 H locs ls h hl hf
  have hx := fx.1
  have hb := fx.2.1
  unfold fX0_lastOf_8 at hf
  refine lv_iload hx hb dX0_lastOf_8 (lv_at hl 5 rfl) ?_
  refine lv_bipush (v := 64) hx hb dX0_lastOf_10 (by decide) ?_
  refine lv_icmp_ge (tgt := 40) hx hb dX0_lastOf_12 (by decide) (fun c1 => ?_) (fun c1 => ?_)
  · have hf := it_t c1 hf
    refine lv_iload_n hx hb dX0_lastOf_40 rfl (lv_at hl 3 rfl) ?_
    exact q_reti (fun k : (Nat → Int32) => (wX0_lastOf cI cJ cZ cS a_t a_kinds a_costs a_terms a_known v_size v_list v_told v_kinds v_terms k)) fx hf h dX0_lastOf_41
  have hf := it_f c1 hf
  refine lv_iload_n hx hb dX0_lastOf_15 rfl (lv_at hl 3 rfl) ?_
  refine lv_iload hx hb dX0_lastOf_16 (lv_at hl 4 rfl) ?_
  refine lv_icmp_eq (tgt := 40) hx hb dX0_lastOf_18 (by decide) (fun c2 => ?_) (fun c2 => ?_)
  · have hf := it_t c2 hf
    refine lv_iload_n hx hb dX0_lastOf_40 rfl (lv_at hl 3 rfl) ?_
    exact q_reti (fun k : (Nat → Int32) => (wX0_lastOf cI cJ cZ cS a_t a_kinds a_costs a_terms a_known v_size v_list v_told v_kinds v_terms k)) fx hf h dX0_lastOf_41
  have hf := it_f c2 hf
  refine lv_iload_n hx hb dX0_lastOf_21 rfl (lv_at hl 3 rfl) ?_
  refine lv_istore (lv' := [(4, .int y3), (0, .ref a_t), (1, .int y1), (2, .int y2), (3, .int y3), (5, .int y5)]) hx hb dX0_lastOf_22 hl (by decide) rfl (fun ls hl => ?_)
  refine lv_aload_n hx hb dX0_lastOf_24 rfl (lv_at hl 1 rfl) ?_
  refine lv_iload_n hx hb dX0_lastOf_25 rfl (lv_at hl 4 rfl) ?_
  obtain ⟨r3, k3, hg, hf⟩ := bR_inv hf
  refine q_ci (rest := []) (ws' := (wX0_lastOf cI cJ cZ cS a_t a_kinds a_costs a_terms a_known v_size v_list v_told v_kinds v_terms k3)) (w1 := (wX0_comers cI cJ cZ cS a_t a_kinds a_costs a_terms a_known v_size v_list v_told v_kinds v_terms k3)) fx h [0, 1, 2, 3] rfl rfl rfl rfl (q_runV fx h hl.1 [0, 1, 2, 3] rfl rfl (tX0_comers l D cI cJ cZ cS tb a_t a_kinds a_costs a_terms a_known H.size v_size v_list v_told v_kinds v_terms v_known y3 r3 k3 hg) mvX0_comers k_362 ⟨rfl, rfl⟩ ⟨Nat.le_of_ble_eq_true rfl, Nat.le_of_ble_eq_true rfl⟩ rfl rfl rfl rfl (Nat.le_of_ble_eq_true rfl) dX0_lastOf_26 ⟨Nat.le_of_ble_eq_true rfl, Nat.le_of_ble_eq_true rfl⟩) (fun H locs h => ?_)
  refine lv_iload_n hx hb dX0_lastOf_29 rfl (lv_at hl 3 rfl) ?_
  refine lv_iand hx hb dX0_lastOf_30 ?_
  refine lv_iload_n hx hb dX0_lastOf_31 rfl (lv_at hl 2 rfl) ?_
  refine lv_ior hx hb dX0_lastOf_32 ?_
  obtain ⟨u4, eu4, hf⟩ := nm_inv hf
  refine lv_eqi eu4 ?_
  refine lv_istore_n (lv' := [(3, .int u4), (4, .int y3), (0, .ref a_t), (1, .int y1), (2, .int y2), (5, .int y5)]) hx hb dX0_lastOf_33 rfl hl (by decide) rfl (fun ls hl => ?_)
  obtain ⟨u5, eu5, hf⟩ := nm_inv hf
  refine lv_iinc (v := u5) (lv' := [(5, .int u5), (3, .int u4), (4, .int y3), (0, .ref a_t), (1, .int y1), (2, .int y2)]) hx hb dX0_lastOf_34 hl (k := 5) rfl (by rw [eu5]; rfl) (by decide) rfl (fun ls hl => ?_)
  refine lv_goto (tgt := 8) hx hb dX0_lastOf_37 (by decide) ?_
  exact hag8 h (lv_sub hl [3, 4, 5, 1, 2, 0] rfl) hf
set_option maxRecDepth 100000 in
theorem EX0_lastOf_8 {p : Program} {l : Launch} {e : Env} {s : State} {m : MethodId} {args : Array Value} {below : List Frame} {meth : Method} {c : Code} {D : va_G} {cI cJ cZ cS : ClassId} {tb : Nat} {A : Nat → Prop} {a_t a_kinds a_costs a_terms a_known : Nat} {v_size : Int32} {v_list : Int32} {v_told : Int32} {v_kinds : Nat → Int32} {v_terms : Nat → Int64} {rr : Int32} {kk' : (Nat → Int32)} (fx : q_Fx p s m args meth c cX0_lastOf 6 RX0 (some .int) D cI cJ cZ cS tb A) : ∀ (n : Nat), ∀ {v_known : Nat → Int32} {y1 : Int32} {y2 : Int32} {y3 : Int32} {y4 : Int32} {y5 : Int32} {H : Heap} {locs : List Loc} {ls : Array Slot}, q_H D A s (wX0_lastOf cI cJ cZ cS a_t a_kinds a_costs a_terms a_known v_size v_list v_told v_kinds v_terms v_known) H locs → lv_has ls 6 [(0, .ref a_t), (1, .int y1), (2, .int y2), (3, .int y3), (4, .int y4), (5, .int y5)] → ll6 (fX0_lastOf_8 v_size v_kinds v_terms) n v_known y1 y2 y3 y4 y5 = some (rr, kk') → W p l e rX0_lastOf s m args below meth c H locs 0 0 (MQ below (q_Ri D rr A ((fun k : (Nat → Int32) => (wX0_lastOf cI cJ cZ cS a_t a_kinds a_costs a_terms a_known v_size v_list v_told v_kinds v_terms k)) kk')) args s 0 0 A) (F0 m 8 ls []) := by
  intro n
  induction n with
  | zero => intro v_known y1 y2 y3 y4 y5 H locs ls h hl hf; exact (ll6_z hf).elim
  | succ n ih => intro v_known y1 y2 y3 y4 y5 H locs ls h hl hf; exact LX0_lastOf_8 fx ih h hl (ll6_s hf)
def fX0_lastOf (v_size : Int32) (v_kinds : Nat → Int32) (v_terms : Nat → Int64) (v_known : Nat → Int32) (x1 : Int32) (x2 : Int32) : Option (Int32 × (Nat → Int32)) :=
  ll6 (fX0_lastOf_8 v_size v_kinds v_terms) qF v_known x1 x2 x1 (-1) 0
set_option maxRecDepth 100000 in
set_option maxHeartbeats 4000000 in
theorem tX0_lastOf (l : Launch) (D : va_G) (cI cJ cZ cS : ClassId) (tb : Nat) (a_t a_kinds a_costs a_terms a_known : Nat) (sz : Nat) (v_size : Int32) (v_list : Int32) (v_told : Int32) (v_kinds : Nat → Int32) (v_terms : Nat → Int64) (v_known : Nat → Int32) (x1 : Int32) (x2 : Int32) (rr : Int32) (kk' : (Nat → Int32)) (hf : fX0_lastOf v_size v_kinds v_terms v_known x1 x2 = some (rr, kk')) : Met l yX0_lastOf (Cond.code yX0_lastOf cX0_lastOf 6 (some .int) :: wA) rX0_lastOf (q_Pre D cI cJ cZ cS tb [.ref a_t, .int x1, .int x2] sz (wX0_lastOf cI cJ cZ cS a_t a_kinds a_costs a_terms a_known v_size v_list v_told v_kinds v_terms v_known)) (q_Ri D rr (va_A (wX0_lastOf cI cJ cZ cS a_t a_kinds a_costs a_terms a_known v_size v_list v_told v_kinds v_terms v_known) sz) ((fun k : (Nat → Int32) => (wX0_lastOf cI cJ cZ cS a_t a_kinds a_costs a_terms a_known v_size v_list v_told v_kinds v_terms k)) kk')) 0 0 (va_A (wX0_lastOf cI cJ cZ cS a_t a_kinds a_costs a_terms a_known v_size v_list v_told v_kinds v_terms v_known) sz) := by
  refine q_enter (Qf := fun A => (q_Ri D rr A ((fun k : (Nat → Int32) => (wX0_lastOf cI cJ cZ cS a_t a_kinds a_costs a_terms a_known v_size v_list v_told v_kinds v_terms k)) kk'))) (by decide) rfl (Nat.le_of_ble_eq_true rfl) ?_
  intro p e s m below meth c A ls fx hname h hl
  have hx := fx.1
  have hb := fx.2.1
  have hl : lv_has ls 6 [(0, .ref a_t), (1, .int x1), (2, .int x2)] := hl
  generalize h9 : s.heap = H at h ⊢
  clear h9
  generalize h9 : ([] : List Loc) = locs at h ⊢
  clear h9
  unfold fX0_lastOf at hf
  refine lv_iload_n hx hb dX0_lastOf_0 rfl (lv_at hl 1 rfl) ?_
  refine lv_istore_n (lv' := [(3, .int x1), (0, .ref a_t), (1, .int x1), (2, .int x2)]) hx hb dX0_lastOf_1 rfl hl (by decide) rfl (fun ls hl => ?_)
  refine lv_iconst (v := -1) hx hb dX0_lastOf_2 (by decide) ?_
  refine lv_istore (lv' := [(4, .int (-1)), (3, .int x1), (0, .ref a_t), (1, .int x1), (2, .int x2)]) hx hb dX0_lastOf_3 hl (by decide) rfl (fun ls hl => ?_)
  refine lv_iconst (v := 0) hx hb dX0_lastOf_5 (by decide) ?_
  refine lv_istore (lv' := [(5, .int 0), (4, .int (-1)), (3, .int x1), (0, .ref a_t), (1, .int x1), (2, .int x2)]) hx hb dX0_lastOf_6 hl (by decide) rfl (fun ls hl => ?_)
  exact EX0_lastOf_8 fx qF h (lv_sub hl [3, 4, 5, 2, 1, 0] rfl) hf
/-! X4_last -/
abbrev wX4_last (cI cJ cZ cS : ClassId) (a_t a_party a_party_kinds a_party_costs a_party_terms a_party_known a_kept a_tape a_telephone a_sheets a_findings : Nat) (v_isKept : Int32) (v_party_size : Int32) (v_party_list : Int32) (v_party_told : Int32) (v_party_kinds : Nat → Int32) (v_party_terms : Nat → Int64) (v_party_known : Nat → Int32) (v_findings : Nat → Int32) : va_W := [(a_t, .inr (4, [.ref a_party, .ref a_kept, .int v_isKept, .ref a_tape, .ref a_telephone, .ref a_sheets, .ref a_findings])), (a_party, .inr (0, [.int v_party_size, .int v_party_list, .int v_party_told, .ref a_party_kinds, .ref a_party_costs, .ref a_party_terms, .ref a_party_known])), (a_party_kinds, .inl (cI, 8, .inl v_party_kinds)), (a_party_terms, .inl (cJ, 32, .inr (.inl v_party_terms))), (a_party_known, .inl (cI, 256, .inl v_party_known)), (a_findings, .inl (cI, 7, .inl v_findings))]
abbrev rX4_last : Room := { frames := 5, cells := 0, slots := 0, locals := 115 }
def fX4_last (v_party_size : Int32) (v_party_kinds : Nat → Int32) (v_party_terms : Nat → Int64) (v_party_known : Nat → Int32) (v_findings : Nat → Int32) (x1 : Int32) : Option (Int32 × (Nat → Int32) × (Nat → Int32)) :=
  bR (fX0_isSet v_party_size x1) (fun r1 k1 =>
  (if r1 = 0 then (
  bR (fX4_found v_findings (-1000000001)) (fun r3 k3 =>
  some (r3, (v_party_known, k3))))
  else (
  bR (fX0_everyone v_party_size) (fun r4 k4 =>
  bR (fX0_lastOf v_party_size v_party_kinds v_party_terms v_party_known x1 r4) (fun r5 k5 =>
  some (r5, (k5, v_findings)))))))
set_option maxRecDepth 100000 in
set_option maxHeartbeats 4000000 in
theorem tX4_last (l : Launch) (D : va_G) (cI cJ cZ cS : ClassId) (tb : Nat) (a_t a_party a_party_kinds a_party_costs a_party_terms a_party_known a_kept a_tape a_telephone a_sheets a_findings : Nat) (sz : Nat) (v_isKept : Int32) (v_party_size : Int32) (v_party_list : Int32) (v_party_told : Int32) (v_party_kinds : Nat → Int32) (v_party_terms : Nat → Int64) (v_party_known : Nat → Int32) (v_findings : Nat → Int32) (x1 : Int32) (rr : Int32) (kk' : (Nat → Int32) × (Nat → Int32)) (hf : fX4_last v_party_size v_party_kinds v_party_terms v_party_known v_findings x1 = some (rr, kk')) : Met l yX4_last (Cond.code yX4_last cX4_last 2 (some .int) :: wA) rX4_last (q_Pre D cI cJ cZ cS tb [.ref a_t, .int x1] sz (wX4_last cI cJ cZ cS a_t a_party a_party_kinds a_party_costs a_party_terms a_party_known a_kept a_tape a_telephone a_sheets a_findings v_isKept v_party_size v_party_list v_party_told v_party_kinds v_party_terms v_party_known v_findings)) (q_Ri D rr (va_A (wX4_last cI cJ cZ cS a_t a_party a_party_kinds a_party_costs a_party_terms a_party_known a_kept a_tape a_telephone a_sheets a_findings v_isKept v_party_size v_party_list v_party_told v_party_kinds v_party_terms v_party_known v_findings) sz) ((fun k : (Nat → Int32) × (Nat → Int32) => (wX4_last cI cJ cZ cS a_t a_party a_party_kinds a_party_costs a_party_terms a_party_known a_kept a_tape a_telephone a_sheets a_findings v_isKept v_party_size v_party_list v_party_told v_party_kinds v_party_terms k.1 k.2)) kk')) 0 0 (va_A (wX4_last cI cJ cZ cS a_t a_party a_party_kinds a_party_costs a_party_terms a_party_known a_kept a_tape a_telephone a_sheets a_findings v_isKept v_party_size v_party_list v_party_told v_party_kinds v_party_terms v_party_known v_findings) sz) := by
  refine q_enter (Qf := fun A => (q_Ri D rr A ((fun k : (Nat → Int32) × (Nat → Int32) => (wX4_last cI cJ cZ cS a_t a_party a_party_kinds a_party_costs a_party_terms a_party_known a_kept a_tape a_telephone a_sheets a_findings v_isKept v_party_size v_party_list v_party_told v_party_kinds v_party_terms k.1 k.2)) kk'))) (by decide) rfl (Nat.le_of_ble_eq_true rfl) ?_
  intro p e s m below meth c A ls fx hname h hl
  have hx := fx.1
  have hb := fx.2.1
  have hl : lv_has ls 2 [(0, .ref a_t), (1, .int x1)] := hl
  generalize h9 : s.heap = H at h ⊢
  clear h9
  generalize h9 : ([] : List Loc) = locs at h ⊢
  clear h9
  unfold fX4_last at hf
  refine lv_aload_n hx hb dX4_last_0 rfl (lv_at hl 0 rfl) ?_
  refine q_get (v := .ref a_party) fx inX4 h 0 rfl rfl 0 (by decide) k_174 rfl dX4_last_1 ?_
  refine lv_iload_n hx hb dX4_last_4 rfl (lv_at hl 1 rfl) ?_
  obtain ⟨r1, k1, hg, hf⟩ := bR_inv hf
  refine q_ci (rest := []) (ws' := (wX4_last cI cJ cZ cS a_t a_party a_party_kinds a_party_costs a_party_terms a_party_known a_kept a_tape a_telephone a_sheets a_findings v_isKept v_party_size v_party_list v_party_told v_party_kinds v_party_terms v_party_known v_findings)) (w1 := (wX0_isSet cI cJ cZ cS a_party a_party_kinds a_party_costs a_party_terms a_party_known v_party_size v_party_list v_party_told)) fx h [1] rfl rfl rfl rfl (q_runV fx h hl.1 [1] rfl rfl (tX0_isSet l D cI cJ cZ cS tb a_party a_party_kinds a_party_costs a_party_terms a_party_known H.size v_party_size v_party_list v_party_told x1 r1 k1 hg) mvX0_isSet k_346 ⟨rfl, rfl⟩ ⟨Nat.le_of_ble_eq_true rfl, Nat.le_of_ble_eq_true rfl⟩ rfl rfl rfl rfl (Nat.le_of_ble_eq_true rfl) dX4_last_5 ⟨Nat.le_of_ble_eq_true rfl, Nat.le_of_ble_eq_true rfl⟩) (fun H locs h => ?_)
  refine lv_if_eq (tgt := 29) hx hb dX4_last_8 (by decide) (fun c2 => ?_) (fun c2 => ?_)
  · have hf := it_t c2 hf
    refine lv_aload_n hx hb dX4_last_29 rfl (lv_at hl 0 rfl) ?_
    refine q_ldc fx k_206 dX4_last_30 ?_
    obtain ⟨r3, k3, hg, hf⟩ := bR_inv hf
    refine q_ci (rest := []) (ws' := (wX4_last cI cJ cZ cS a_t a_party a_party_kinds a_party_costs a_party_terms a_party_known a_kept a_tape a_telephone a_sheets a_findings v_isKept v_party_size v_party_list v_party_told v_party_kinds v_party_terms v_party_known k3)) (w1 := (wX4_found cI cJ cZ cS a_t a_party a_kept a_tape a_telephone a_sheets a_findings v_isKept k3)) fx h [0, 5] rfl rfl rfl rfl (q_runV fx h hl.1 [0, 5] rfl rfl (tX4_found l D cI cJ cZ cS tb a_t a_party a_kept a_tape a_telephone a_sheets a_findings H.size v_isKept v_findings (-1000000001) r3 k3 hg) mvX4_found k_207 ⟨rfl, rfl⟩ ⟨Nat.le_of_ble_eq_true rfl, Nat.le_of_ble_eq_true rfl⟩ rfl rfl rfl rfl (Nat.le_of_ble_eq_true rfl) dX4_last_32 ⟨Nat.le_of_ble_eq_true rfl, Nat.le_of_ble_eq_true rfl⟩) (fun H locs h => ?_)
    exact q_reti (fun k : (Nat → Int32) × (Nat → Int32) => (wX4_last cI cJ cZ cS a_t a_party a_party_kinds a_party_costs a_party_terms a_party_known a_kept a_tape a_telephone a_sheets a_findings v_isKept v_party_size v_party_list v_party_told v_party_kinds v_party_terms k.1 k.2)) fx hf h dX4_last_35
  have hf := it_f c2 hf
  refine lv_aload_n hx hb dX4_last_11 rfl (lv_at hl 0 rfl) ?_
  refine q_get (v := .ref a_party) fx inX4 h 0 rfl rfl 0 (by decide) k_174 rfl dX4_last_12 ?_
  refine lv_iload_n hx hb dX4_last_15 rfl (lv_at hl 1 rfl) ?_
  refine lv_aload_n hx hb dX4_last_16 rfl (lv_at hl 0 rfl) ?_
  refine q_get (v := .ref a_party) fx inX4 h 0 rfl rfl 0 (by decide) k_174 rfl dX4_last_17 ?_
  obtain ⟨r4, k4, hg, hf⟩ := bR_inv hf
  refine q_ci (rest := [.int x1, .ref a_party]) (ws' := (wX4_last cI cJ cZ cS a_t a_party a_party_kinds a_party_costs a_party_terms a_party_known a_kept a_tape a_telephone a_sheets a_findings v_isKept v_party_size v_party_list v_party_told v_party_kinds v_party_terms v_party_known v_findings)) (w1 := (wX0_everyone cI cJ cZ cS a_party a_party_kinds a_party_costs a_party_terms a_party_known v_party_size v_party_list v_party_told)) fx h [1] rfl rfl rfl rfl (q_runV fx h hl.1 [1] rfl rfl (tX0_everyone l D cI cJ cZ cS tb a_party a_party_kinds a_party_costs a_party_terms a_party_known H.size v_party_size v_party_list v_party_told r4 k4 hg) mvX0_everyone k_456 ⟨rfl, rfl⟩ ⟨Nat.le_of_ble_eq_true rfl, Nat.le_of_ble_eq_true rfl⟩ rfl rfl rfl rfl (Nat.le_of_ble_eq_true rfl) dX4_last_20 ⟨Nat.le_of_ble_eq_true rfl, Nat.le_of_ble_eq_true rfl⟩) (fun H locs h => ?_)
  obtain ⟨r5, k5, hg, hf⟩ := bR_inv hf
  refine q_ci (rest := []) (ws' := (wX4_last cI cJ cZ cS a_t a_party a_party_kinds a_party_costs a_party_terms a_party_known a_kept a_tape a_telephone a_sheets a_findings v_isKept v_party_size v_party_list v_party_told v_party_kinds v_party_terms k5 v_findings)) (w1 := (wX0_lastOf cI cJ cZ cS a_party a_party_kinds a_party_costs a_party_terms a_party_known v_party_size v_party_list v_party_told v_party_kinds v_party_terms k5)) fx h [1, 2, 3, 4] rfl rfl rfl rfl (q_runV fx h hl.1 [1, 2, 3, 4] rfl rfl (tX0_lastOf l D cI cJ cZ cS tb a_party a_party_kinds a_party_costs a_party_terms a_party_known H.size v_party_size v_party_list v_party_told v_party_kinds v_party_terms v_party_known x1 r4 r5 k5 hg) mvX0_lastOf k_479 ⟨rfl, rfl⟩ ⟨Nat.le_of_ble_eq_true rfl, Nat.le_of_ble_eq_true rfl⟩ rfl rfl rfl rfl (Nat.le_of_ble_eq_true rfl) dX4_last_23 ⟨Nat.le_of_ble_eq_true rfl, Nat.le_of_ble_eq_true rfl⟩) (fun H locs h => ?_)
  refine lv_goto (tgt := 35) hx hb dX4_last_26 (by decide) ?_
  exact q_reti (fun k : (Nat → Int32) × (Nat → Int32) => (wX4_last cI cJ cZ cS a_t a_party a_party_kinds a_party_costs a_party_terms a_party_known a_kept a_tape a_telephone a_sheets a_findings v_isKept v_party_size v_party_list v_party_told v_party_kinds v_party_terms k.1 k.2)) fx hf h dX4_last_35
/-! X4_isCheaper -/
abbrev wX4_isCheaper (cI cJ cZ cS : ClassId) (a_t a_party a_party_kinds a_party_costs a_party_terms a_party_known a_kept a_tape a_telephone a_sheets a_findings : Nat) (v_isKept : Int32) (v_party_size : Int32) (v_party_list : Int32) (v_party_told : Int32) (v_party_costs : Nat → Int32) : va_W := [(a_t, .inr (4, [.ref a_party, .ref a_kept, .int v_isKept, .ref a_tape, .ref a_telephone, .ref a_sheets, .ref a_findings])), (a_party, .inr (0, [.int v_party_size, .int v_party_list, .int v_party_told, .ref a_party_kinds, .ref a_party_costs, .ref a_party_terms, .ref a_party_known])), (a_party_costs, .inl (cI, 8, .inl v_party_costs))]
abbrev rX4_isCheaper : Room := { frames := 2, cells := 0, slots := 0, locals := 44 }
def fX4_isCheaper (v_party_size : Int32) (v_party_costs : Nat → Int32) (x1 : Int32) (x2 : Int32) : Option (Int32 × Unit) :=
  bR (fX0_costsOf v_party_size v_party_costs x1) (fun r1 k1 =>
  bR (fX0_costsOf v_party_size v_party_costs x2) (fun r2 k2 =>
  (if r1 < r2 then (
  some (1, ()))
  else (
  (if r1 = r2 then (
  bR (fJ6_bitCount_0f7a4 x1) (fun r5 k5 =>
  bR (fJ6_bitCount_0f7a4 x2) (fun r6 k6 =>
  (if r6 ≤ r5 then (
  some (0, ()))
  else (
  some (1, ()))))))
  else (
  some (0, ())))))))
set_option maxRecDepth 100000 in
set_option maxHeartbeats 4000000 in
theorem tX4_isCheaper (l : Launch) (D : va_G) (cI cJ cZ cS : ClassId) (tb : Nat) (a_t a_party a_party_kinds a_party_costs a_party_terms a_party_known a_kept a_tape a_telephone a_sheets a_findings : Nat) (sz : Nat) (v_isKept : Int32) (v_party_size : Int32) (v_party_list : Int32) (v_party_told : Int32) (v_party_costs : Nat → Int32) (x1 : Int32) (x2 : Int32) (rr : Int32) (kk' : Unit) (hf : fX4_isCheaper v_party_size v_party_costs x1 x2 = some (rr, kk')) : Met l yX4_isCheaper (Cond.code yX4_isCheaper cX4_isCheaper 5 (some .boolean) :: wA) rX4_isCheaper (q_Pre D cI cJ cZ cS tb [.ref a_t, .int x1, .int x2] sz (wX4_isCheaper cI cJ cZ cS a_t a_party a_party_kinds a_party_costs a_party_terms a_party_known a_kept a_tape a_telephone a_sheets a_findings v_isKept v_party_size v_party_list v_party_told v_party_costs)) (q_Ri D rr (va_A (wX4_isCheaper cI cJ cZ cS a_t a_party a_party_kinds a_party_costs a_party_terms a_party_known a_kept a_tape a_telephone a_sheets a_findings v_isKept v_party_size v_party_list v_party_told v_party_costs) sz) ((fun k : Unit => (wX4_isCheaper cI cJ cZ cS a_t a_party a_party_kinds a_party_costs a_party_terms a_party_known a_kept a_tape a_telephone a_sheets a_findings v_isKept v_party_size v_party_list v_party_told v_party_costs)) kk')) 0 0 (va_A (wX4_isCheaper cI cJ cZ cS a_t a_party a_party_kinds a_party_costs a_party_terms a_party_known a_kept a_tape a_telephone a_sheets a_findings v_isKept v_party_size v_party_list v_party_told v_party_costs) sz) := by
  refine q_enter (Qf := fun A => (q_Ri D rr A ((fun k : Unit => (wX4_isCheaper cI cJ cZ cS a_t a_party a_party_kinds a_party_costs a_party_terms a_party_known a_kept a_tape a_telephone a_sheets a_findings v_isKept v_party_size v_party_list v_party_told v_party_costs)) kk'))) (by decide) rfl (Nat.le_of_ble_eq_true rfl) ?_
  intro p e s m below meth c A ls fx hname h hl
  have hx := fx.1
  have hb := fx.2.1
  have hl : lv_has ls 5 [(0, .ref a_t), (1, .int x1), (2, .int x2)] := hl
  generalize h9 : s.heap = H at h ⊢
  clear h9
  generalize h9 : ([] : List Loc) = locs at h ⊢
  clear h9
  unfold fX4_isCheaper at hf
  refine lv_aload_n hx hb dX4_isCheaper_0 rfl (lv_at hl 0 rfl) ?_
  refine q_get (v := .ref a_party) fx inX4 h 0 rfl rfl 0 (by decide) k_174 rfl dX4_isCheaper_1 ?_
  refine lv_iload_n hx hb dX4_isCheaper_4 rfl (lv_at hl 1 rfl) ?_
  obtain ⟨r1, k1, hg, hf⟩ := bR_inv hf
  refine q_ci (rest := []) (ws' := (wX4_isCheaper cI cJ cZ cS a_t a_party a_party_kinds a_party_costs a_party_terms a_party_known a_kept a_tape a_telephone a_sheets a_findings v_isKept v_party_size v_party_list v_party_told v_party_costs)) (w1 := (wX0_costsOf cI cJ cZ cS a_party a_party_kinds a_party_costs a_party_terms a_party_known v_party_size v_party_list v_party_told v_party_costs)) fx h [1, 2] rfl rfl rfl rfl (q_runV fx h hl.1 [1, 2] rfl rfl (tX0_costsOf l D cI cJ cZ cS tb a_party a_party_kinds a_party_costs a_party_terms a_party_known H.size v_party_size v_party_list v_party_told v_party_costs x1 r1 k1 hg) mvX0_costsOf k_363 ⟨rfl, rfl⟩ ⟨Nat.le_of_ble_eq_true rfl, Nat.le_of_ble_eq_true rfl⟩ rfl rfl rfl rfl (Nat.le_of_ble_eq_true rfl) dX4_isCheaper_5 ⟨Nat.le_of_ble_eq_true rfl, Nat.le_of_ble_eq_true rfl⟩) (fun H locs h => ?_)
  refine lv_istore_n (lv' := [(3, .int r1), (0, .ref a_t), (1, .int x1), (2, .int x2)]) hx hb dX4_isCheaper_8 rfl hl (by decide) rfl (fun ls hl => ?_)
  refine lv_aload_n hx hb dX4_isCheaper_9 rfl (lv_at hl 1 rfl) ?_
  refine q_get (v := .ref a_party) fx inX4 h 0 rfl rfl 0 (by decide) k_174 rfl dX4_isCheaper_10 ?_
  refine lv_iload_n hx hb dX4_isCheaper_13 rfl (lv_at hl 3 rfl) ?_
  obtain ⟨r2, k2, hg, hf⟩ := bR_inv hf
  refine q_ci (rest := []) (ws' := (wX4_isCheaper cI cJ cZ cS a_t a_party a_party_kinds a_party_costs a_party_terms a_party_known a_kept a_tape a_telephone a_sheets a_findings v_isKept v_party_size v_party_list v_party_told v_party_costs)) (w1 := (wX0_costsOf cI cJ cZ cS a_party a_party_kinds a_party_costs a_party_terms a_party_known v_party_size v_party_list v_party_told v_party_costs)) fx h [1, 2] rfl rfl rfl rfl (q_runV fx h hl.1 [1, 2] rfl rfl (tX0_costsOf l D cI cJ cZ cS tb a_party a_party_kinds a_party_costs a_party_terms a_party_known H.size v_party_size v_party_list v_party_told v_party_costs x2 r2 k2 hg) mvX0_costsOf k_363 ⟨rfl, rfl⟩ ⟨Nat.le_of_ble_eq_true rfl, Nat.le_of_ble_eq_true rfl⟩ rfl rfl rfl rfl (Nat.le_of_ble_eq_true rfl) dX4_isCheaper_14 ⟨Nat.le_of_ble_eq_true rfl, Nat.le_of_ble_eq_true rfl⟩) (fun H locs h => ?_)
  refine lv_istore (lv' := [(4, .int r2), (3, .int r1), (0, .ref a_t), (1, .int x1), (2, .int x2)]) hx hb dX4_isCheaper_17 hl (by decide) rfl (fun ls hl => ?_)
  refine lv_iload_n hx hb dX4_isCheaper_19 rfl (lv_at hl 1 rfl) ?_
  refine lv_iload hx hb dX4_isCheaper_20 (lv_at hl 0 rfl) ?_
  refine lv_icmp_lt (tgt := 42) hx hb dX4_isCheaper_22 (by decide) (fun c3 => ?_) (fun c3 => ?_)
  · have hf := it_t c3 hf
    refine lv_iconst (v := 1) hx hb dX4_isCheaper_42 (by decide) ?_
    refine lv_goto (tgt := 47) hx hb dX4_isCheaper_43 (by decide) ?_
    exact q_retz (fun k : Unit => (wX4_isCheaper cI cJ cZ cS a_t a_party a_party_kinds a_party_costs a_party_terms a_party_known a_kept a_tape a_telephone a_sheets a_findings v_isKept v_party_size v_party_list v_party_told v_party_costs)) fx rfl hf h dX4_isCheaper_47
  have hf := it_f c3 hf
  refine lv_iload_n hx hb dX4_isCheaper_25 rfl (lv_at hl 1 rfl) ?_
  refine lv_iload hx hb dX4_isCheaper_26 (lv_at hl 0 rfl) ?_
  refine lv_icmp_ne (tgt := 46) hx hb dX4_isCheaper_28 (by decide) (fun c4 => ?_) (fun c4 => ?_)
  · have hf := it_f c4 hf
    refine lv_iconst (v := 0) hx hb dX4_isCheaper_46 (by decide) ?_
    exact q_retz (fun k : Unit => (wX4_isCheaper cI cJ cZ cS a_t a_party a_party_kinds a_party_costs a_party_terms a_party_known a_kept a_tape a_telephone a_sheets a_findings v_isKept v_party_size v_party_list v_party_told v_party_costs)) fx rfl hf h dX4_isCheaper_47
  have hf := it_t c4 hf
  refine lv_iload_n hx hb dX4_isCheaper_31 rfl (lv_at hl 3 rfl) ?_
  obtain ⟨r5, k5, hg, hf⟩ := bR_inv hf
  refine q_ci (rest := []) (ws' := (wX4_isCheaper cI cJ cZ cS a_t a_party a_party_kinds a_party_costs a_party_terms a_party_known a_kept a_tape a_telephone a_sheets a_findings v_isKept v_party_size v_party_list v_party_told v_party_costs)) (w1 := (wJ6_bitCount_0f7a4 cI cJ cZ cS)) fx h [] rfl rfl rfl rfl (q_runS fx h hl.1 [] rfl rfl (tJ6_bitCount_0f7a4 l D cI cJ cZ cS tb H.size x1 r5 k5 hg) msJ6_bitCount_0f7a4 k_239 ⟨rfl, rfl⟩ ⟨Nat.le_of_ble_eq_true rfl, Nat.le_of_ble_eq_true rfl⟩ rfl rfl (Nat.le_of_ble_eq_true rfl) dX4_isCheaper_32 ⟨Nat.le_of_ble_eq_true rfl, Nat.le_of_ble_eq_true rfl⟩) (fun H locs h => ?_)
  refine lv_iload_n hx hb dX4_isCheaper_35 rfl (lv_at hl 4 rfl) ?_
  obtain ⟨r6, k6, hg, hf⟩ := bR_inv hf
  refine q_ci (rest := [.int r5]) (ws' := (wX4_isCheaper cI cJ cZ cS a_t a_party a_party_kinds a_party_costs a_party_terms a_party_known a_kept a_tape a_telephone a_sheets a_findings v_isKept v_party_size v_party_list v_party_told v_party_costs)) (w1 := (wJ6_bitCount_0f7a4 cI cJ cZ cS)) fx h [] rfl rfl rfl rfl (q_runS fx h hl.1 [] rfl rfl (tJ6_bitCount_0f7a4 l D cI cJ cZ cS tb H.size x2 r6 k6 hg) msJ6_bitCount_0f7a4 k_239 ⟨rfl, rfl⟩ ⟨Nat.le_of_ble_eq_true rfl, Nat.le_of_ble_eq_true rfl⟩ rfl rfl (Nat.le_of_ble_eq_true rfl) dX4_isCheaper_36 ⟨Nat.le_of_ble_eq_true rfl, Nat.le_of_ble_eq_true rfl⟩) (fun H locs h => ?_)
  refine lv_icmp_ge (tgt := 46) hx hb dX4_isCheaper_39 (by decide) (fun c7 => ?_) (fun c7 => ?_)
  · have hf := it_t c7 hf
    refine lv_iconst (v := 0) hx hb dX4_isCheaper_46 (by decide) ?_
    exact q_retz (fun k : Unit => (wX4_isCheaper cI cJ cZ cS a_t a_party a_party_kinds a_party_costs a_party_terms a_party_known a_kept a_tape a_telephone a_sheets a_findings v_isKept v_party_size v_party_list v_party_told v_party_costs)) fx rfl hf h dX4_isCheaper_47
  have hf := it_f c7 hf
  refine lv_iconst (v := 1) hx hb dX4_isCheaper_42 (by decide) ?_
  refine lv_goto (tgt := 47) hx hb dX4_isCheaper_43 (by decide) ?_
  exact q_retz (fun k : Unit => (wX4_isCheaper cI cJ cZ cS a_t a_party a_party_kinds a_party_costs a_party_terms a_party_known a_kept a_tape a_telephone a_sheets a_findings v_isKept v_party_size v_party_list v_party_told v_party_costs)) fx rfl hf h dX4_isCheaper_47
