/-! X4_cheapestFor -/
abbrev wX4_cheapestFor (cI cJ cZ cS : ClassId) (a_t a_party a_party_kinds a_party_costs a_party_terms a_party_known a_kept a_tape a_telephone a_sheets a_findings : Nat) (v_isKept : Int32) (v_party_size : Int32) (v_party_list : Int32) (v_party_told : Int32) (v_party_kinds : Nat → Int32) (v_party_costs : Nat → Int32) (v_party_terms : Nat → Int64) (v_party_known : Nat → Int32) : va_W := [(a_t, .inr (4, [.ref a_party, .ref a_kept, .int v_isKept, .ref a_tape, .ref a_telephone, .ref a_sheets, .ref a_findings])), (a_party, .inr (0, [.int v_party_size, .int v_party_list, .int v_party_told, .ref a_party_kinds, .ref a_party_costs, .ref a_party_terms, .ref a_party_known])), (a_party_kinds, .inl (cI, 8, .inl v_party_kinds)), (a_party_costs, .inl (cI, 8, .inl v_party_costs)), (a_party_terms, .inl (cJ, 32, .inr (.inl v_party_terms))), (a_party_known, .inl (cI, 256, .inl v_party_known))]
abbrev rX4_cheapestFor : Room := { frames := 5, cells := 0, slots := 0, locals := 115 }
def fX4_cheapestFor_64 (v_party_size : Int32) (v_party_kinds : Nat → Int32) (v_party_costs : Nat → Int32) (v_party_terms : Nat → Int64) (ag4 : (Nat → Int32) → Int32 → Int32 → Int32 → Option (Int32 × (Nat → Int32))) (v_party_known : Nat → Int32) (y1 : Int32) (y2 : Int32) (y3 : Int32) : Option (Int32 × (Nat → Int32)) :=
  nm (y3 + 1) (fun u1 =>
  ag4 v_party_known y1 y2 u1)
set_option maxRecDepth 100000 in
set_option maxHeartbeats 4000000 in
theorem LX4_cheapestFor_64 {p : Program} {l : Launch} {e : Env} {s : State} {m : MethodId} {args : Array Value} {below : List Frame} {meth : Method} {c : Code} {D : va_G} {cI cJ cZ cS : ClassId} {tb : Nat} {A : Nat → Prop} {a_t a_party a_party_kinds a_party_costs a_party_terms a_party_known a_kept a_tape a_telephone a_sheets a_findings : Nat} {v_isKept : Int32} {v_party_size : Int32} {v_party_list : Int32} {v_party_told : Int32} {v_party_kinds : Nat → Int32} {v_party_costs : Nat → Int32} {v_party_terms : Nat → Int64} {rr : Int32} {kk' : (Nat → Int32)} (fx : q_Fx p s m args meth c cX4_cheapestFor 5 RX4 (some .int) D cI cJ cZ cS tb A) {ag4 : (Nat → Int32) → Int32 → Int32 → Int32 → Option (Int32 × (Nat → Int32))} (hag4 : ∀ {v_party_known : Nat → Int32} {y1 : Int32} {y2 : Int32} {y3 : Int32} {H : Heap} {locs : List Loc} {ls : Array Slot}, q_H D A s (wX4_cheapestFor cI cJ cZ cS a_t a_party a_party_kinds a_party_costs a_party_terms a_party_known a_kept a_tape a_telephone a_sheets a_findings v_isKept v_party_size v_party_list v_party_told v_party_kinds v_party_costs v_party_terms v_party_known) H locs → lv_has ls 5 [(0, .ref a_t), (1, .int y1), (2, .int y2), (3, .int y3)] → ag4 v_party_known y1 y2 y3 = some (rr, kk') → W p l e rX4_cheapestFor s m args below meth c H locs 0 0 (MQ below (q_Ri D rr A ((fun k : (Nat → Int32) => (wX4_cheapestFor cI cJ cZ cS a_t a_party a_party_kinds a_party_costs a_party_terms a_party_known a_kept a_tape a_telephone a_sheets a_findings v_isKept v_party_size v_party_list v_party_told v_party_kinds v_party_costs v_party_terms k)) kk')) args s 0 0 A) (F0 m 4 ls [])) : ∀ {v_party_known : Nat → Int32} {y1 : Int32} {y2 : Int32} {y3 : Int32} {H : Heap} {locs : List Loc} {ls : Array Slot}, q_H D A s (wX4_cheapestFor cI cJ cZ cS a_t a_party a_party_kinds a_party_costs a_party_terms a_party_known a_kept a_tape a_telephone a_sheets a_findings v_isKept v_party_size v_party_list v_party_told v_party_kinds v_party_costs v_party_terms v_party_known) H locs → lv_has ls 5 [(0, .ref a_t), (1, .int y1), (2, .int y2), (3, .int y3)] → fX4_cheapestFor_64 v_party_size v_party_kinds v_party_costs v_party_terms ag4 v_party_known y1 y2 y3 = some (rr, kk') → W p l e rX4_cheapestFor s m args below meth c H locs 0 0 (MQ below (q_Ri D rr A ((fun k : (Nat → Int32) => (wX4_cheapestFor cI cJ cZ cS a_t a_party a_party_kinds a_party_costs a_party_terms a_party_known a_kept a_tape a_telephone a_sheets a_findings v_isKept v_party_size v_party_list v_party_told v_party_kinds v_party_costs v_party_terms k)) kk')) args s 0 0 A) (F0 m 64 ls []) := by
  intro v_party_known y1 y2 y3 H locs ls h hl hf
  have hx := fx.1
  have hb := fx.2.1
  unfold fX4_cheapestFor_64 at hf
  obtain ⟨u1, eu1, hf⟩ := nm_inv hf
  refine lv_iinc (v := u1) (lv' := [(3, .int u1), (0, .ref a_t), (1, .int y1), (2, .int y2)]) hx hb dX4_cheapestFor_64 hl (k := 3) rfl (by rw [eu1]; rfl) (by decide) rfl (fun ls hl => ?_)
  refine lv_goto (tgt := 4) hx hb dX4_cheapestFor_67 (by decide) ?_
  exact hag4 h (lv_sub hl [1, 2, 3, 0] rfl) hf
def fX4_cheapestFor_33 (v_party_size : Int32) (v_party_kinds : Nat → Int32) (v_party_costs : Nat → Int32) (v_party_terms : Nat → Int64) (ag4 : (Nat → Int32) → Int32 → Int32 → Int32 → Option (Int32 × (Nat → Int32))) (v_party_known : Nat → Int32) (s0 : Int32) (y1 : Int32) (y2 : Int32) (y3 : Int32) : Option (Int32 × (Nat → Int32)) :=
  (if s0 = 0 then (
  fX4_cheapestFor_64 v_party_size v_party_kinds v_party_costs v_party_terms ag4 v_party_known y1 y2 y3)
  else (
  bR (fX0_everyone v_party_size) (fun r3 k3 =>
  bR (fX0_lastOf v_party_size v_party_kinds v_party_terms v_party_known y3 r3) (fun r4 k4 =>
  bR (fJ6_bitCount_0f7a4 r4) (fun r5 k5 =>
  (if r5 < y1 then (
  fX4_cheapestFor_64 v_party_size v_party_kinds v_party_costs v_party_terms ag4 k4 y1 y2 y3)
  else (
  fX4_cheapestFor_64 v_party_size v_party_kinds v_party_costs v_party_terms ag4 k4 y1 y3 y3)))))))
set_option maxRecDepth 100000 in
set_option maxHeartbeats 4000000 in
theorem LX4_cheapestFor_33 {p : Program} {l : Launch} {e : Env} {s : State} {m : MethodId} {args : Array Value} {below : List Frame} {meth : Method} {c : Code} {D : va_G} {cI cJ cZ cS : ClassId} {tb : Nat} {A : Nat → Prop} {a_t a_party a_party_kinds a_party_costs a_party_terms a_party_known a_kept a_tape a_telephone a_sheets a_findings : Nat} {v_isKept : Int32} {v_party_size : Int32} {v_party_list : Int32} {v_party_told : Int32} {v_party_kinds : Nat → Int32} {v_party_costs : Nat → Int32} {v_party_terms : Nat → Int64} {rr : Int32} {kk' : (Nat → Int32)} (fx : q_Fx p s m args meth c cX4_cheapestFor 5 RX4 (some .int) D cI cJ cZ cS tb A) {ag4 : (Nat → Int32) → Int32 → Int32 → Int32 → Option (Int32 × (Nat → Int32))} (hag4 : ∀ {v_party_known : Nat → Int32} {y1 : Int32} {y2 : Int32} {y3 : Int32} {H : Heap} {locs : List Loc} {ls : Array Slot}, q_H D A s (wX4_cheapestFor cI cJ cZ cS a_t a_party a_party_kinds a_party_costs a_party_terms a_party_known a_kept a_tape a_telephone a_sheets a_findings v_isKept v_party_size v_party_list v_party_told v_party_kinds v_party_costs v_party_terms v_party_known) H locs → lv_has ls 5 [(0, .ref a_t), (1, .int y1), (2, .int y2), (3, .int y3)] → ag4 v_party_known y1 y2 y3 = some (rr, kk') → W p l e rX4_cheapestFor s m args below meth c H locs 0 0 (MQ below (q_Ri D rr A ((fun k : (Nat → Int32) => (wX4_cheapestFor cI cJ cZ cS a_t a_party a_party_kinds a_party_costs a_party_terms a_party_known a_kept a_tape a_telephone a_sheets a_findings v_isKept v_party_size v_party_list v_party_told v_party_kinds v_party_costs v_party_terms k)) kk')) args s 0 0 A) (F0 m 4 ls [])) : ∀ {v_party_known : Nat → Int32} {s0 : Int32} {y1 : Int32} {y2 : Int32} {y3 : Int32} {H : Heap} {locs : List Loc} {ls : Array Slot}, q_H D A s (wX4_cheapestFor cI cJ cZ cS a_t a_party a_party_kinds a_party_costs a_party_terms a_party_known a_kept a_tape a_telephone a_sheets a_findings v_isKept v_party_size v_party_list v_party_told v_party_kinds v_party_costs v_party_terms v_party_known) H locs → lv_has ls 5 [(0, .ref a_t), (1, .int y1), (2, .int y2), (3, .int y3)] → fX4_cheapestFor_33 v_party_size v_party_kinds v_party_costs v_party_terms ag4 v_party_known s0 y1 y2 y3 = some (rr, kk') → W p l e rX4_cheapestFor s m args below meth c H locs 0 0 (MQ below (q_Ri D rr A ((fun k : (Nat → Int32) => (wX4_cheapestFor cI cJ cZ cS a_t a_party a_party_kinds a_party_costs a_party_terms a_party_known a_kept a_tape a_telephone a_sheets a_findings v_isKept v_party_size v_party_list v_party_told v_party_kinds v_party_costs v_party_terms k)) kk')) args s 0 0 A) (F0 m 33 ls [.int s0]) := by
  intro v_party_known s0 y1 y2 y3 H locs ls h hl hf
  have hx := fx.1
  have hb := fx.2.1
  unfold fX4_cheapestFor_33 at hf
  refine lv_istore (lv' := [(4, .int s0), (0, .ref a_t), (1, .int y1), (2, .int y2), (3, .int y3)]) hx hb dX4_cheapestFor_33 hl (by decide) rfl (fun ls hl => ?_)
  refine lv_iload hx hb dX4_cheapestFor_35 (lv_at hl 0 rfl) ?_
  refine lv_if_eq (tgt := 64) hx hb dX4_cheapestFor_37 (by decide) (fun c2 => ?_) (fun c2 => ?_)
  · have hf := it_t c2 hf
    exact LX4_cheapestFor_64 fx hag4 h (lv_sub hl [1, 2, 3, 4] rfl) hf
  have hf := it_f c2 hf
  refine lv_aload_n hx hb dX4_cheapestFor_40 rfl (lv_at hl 1 rfl) ?_
  refine q_get (v := .ref a_party) fx inX4 h 0 rfl rfl 0 (by decide) k_174 rfl dX4_cheapestFor_41 ?_
  refine lv_iload_n hx hb dX4_cheapestFor_44 rfl (lv_at hl 4 rfl) ?_
  refine lv_aload_n hx hb dX4_cheapestFor_45 rfl (lv_at hl 1 rfl) ?_
  refine q_get (v := .ref a_party) fx inX4 h 0 rfl rfl 0 (by decide) k_174 rfl dX4_cheapestFor_46 ?_
  obtain ⟨r3, k3, hg, hf⟩ := bR_inv hf
  refine q_ci (rest := [.int y3, .ref a_party]) (ws' := (wX4_cheapestFor cI cJ cZ cS a_t a_party a_party_kinds a_party_costs a_party_terms a_party_known a_kept a_tape a_telephone a_sheets a_findings v_isKept v_party_size v_party_list v_party_told v_party_kinds v_party_costs v_party_terms v_party_known)) (w1 := (wX0_everyone cI cJ cZ cS a_party a_party_kinds a_party_costs a_party_terms a_party_known v_party_size v_party_list v_party_told)) fx h [1] rfl rfl rfl rfl (q_runV fx h hl.1 [1] rfl rfl (tX0_everyone l D cI cJ cZ cS tb a_party a_party_kinds a_party_costs a_party_terms a_party_known H.size v_party_size v_party_list v_party_told r3 k3 hg) mvX0_everyone k_456 ⟨rfl, rfl⟩ ⟨Nat.le_of_ble_eq_true rfl, Nat.le_of_ble_eq_true rfl⟩ rfl rfl rfl rfl (Nat.le_of_ble_eq_true rfl) dX4_cheapestFor_49 ⟨Nat.le_of_ble_eq_true rfl, Nat.le_of_ble_eq_true rfl⟩) (fun H locs h => ?_)
  obtain ⟨r4, k4, hg, hf⟩ := bR_inv hf
  refine q_ci (rest := []) (ws' := (wX4_cheapestFor cI cJ cZ cS a_t a_party a_party_kinds a_party_costs a_party_terms a_party_known a_kept a_tape a_telephone a_sheets a_findings v_isKept v_party_size v_party_list v_party_told v_party_kinds v_party_costs v_party_terms k4)) (w1 := (wX0_lastOf cI cJ cZ cS a_party a_party_kinds a_party_costs a_party_terms a_party_known v_party_size v_party_list v_party_told v_party_kinds v_party_terms k4)) fx h [1, 2, 4, 5] rfl rfl rfl rfl (q_runV fx h hl.1 [1, 2, 4, 5] rfl rfl (tX0_lastOf l D cI cJ cZ cS tb a_party a_party_kinds a_party_costs a_party_terms a_party_known H.size v_party_size v_party_list v_party_told v_party_kinds v_party_terms v_party_known y3 r3 r4 k4 hg) mvX0_lastOf k_479 ⟨rfl, rfl⟩ ⟨Nat.le_of_ble_eq_true rfl, Nat.le_of_ble_eq_true rfl⟩ rfl rfl rfl rfl (Nat.le_of_ble_eq_true rfl) dX4_cheapestFor_52 ⟨Nat.le_of_ble_eq_true rfl, Nat.le_of_ble_eq_true rfl⟩) (fun H locs h => ?_)
  obtain ⟨r5, k5, hg, hf⟩ := bR_inv hf
  refine q_ci (rest := []) (ws' := (wX4_cheapestFor cI cJ cZ cS a_t a_party a_party_kinds a_party_costs a_party_terms a_party_known a_kept a_tape a_telephone a_sheets a_findings v_isKept v_party_size v_party_list v_party_told v_party_kinds v_party_costs v_party_terms k4)) (w1 := (wJ6_bitCount_0f7a4 cI cJ cZ cS)) fx h [] rfl rfl rfl rfl (q_runS fx h hl.1 [] rfl rfl (tJ6_bitCount_0f7a4 l D cI cJ cZ cS tb H.size r4 r5 k5 hg) msJ6_bitCount_0f7a4 k_239 ⟨rfl, rfl⟩ ⟨Nat.le_of_ble_eq_true rfl, Nat.le_of_ble_eq_true rfl⟩ rfl rfl (Nat.le_of_ble_eq_true rfl) dX4_cheapestFor_55 ⟨Nat.le_of_ble_eq_true rfl, Nat.le_of_ble_eq_true rfl⟩) (fun H locs h => ?_)
  refine lv_iload_n hx hb dX4_cheapestFor_58 rfl (lv_at hl 2 rfl) ?_
  refine lv_icmp_lt (tgt := 64) hx hb dX4_cheapestFor_59 (by decide) (fun c6 => ?_) (fun c6 => ?_)
  · have hf := it_t c6 hf
    exact LX4_cheapestFor_64 fx hag4 h (lv_sub hl [1, 2, 3, 4] rfl) hf
  have hf := it_f c6 hf
  refine lv_iload_n hx hb dX4_cheapestFor_62 rfl (lv_at hl 4 rfl) ?_
  refine lv_istore_n (lv' := [(2, .int y3), (4, .int s0), (0, .ref a_t), (1, .int y1), (3, .int y3)]) hx hb dX4_cheapestFor_63 rfl hl (by decide) rfl (fun ls hl => ?_)
  exact LX4_cheapestFor_64 fx hag4 h (lv_sub hl [2, 3, 0, 4] rfl) hf
def fX4_cheapestFor_28 (v_party_size : Int32) (v_party_kinds : Nat → Int32) (v_party_costs : Nat → Int32) (v_party_terms : Nat → Int64) (ag4 : (Nat → Int32) → Int32 → Int32 → Int32 → Option (Int32 × (Nat → Int32))) (v_party_known : Nat → Int32) (y1 : Int32) (y2 : Int32) (y3 : Int32) : Option (Int32 × (Nat → Int32)) :=
  fX4_cheapestFor_33 v_party_size v_party_kinds v_party_costs v_party_terms ag4 v_party_known 1 y1 y2 y3
set_option maxRecDepth 100000 in
set_option maxHeartbeats 4000000 in
theorem LX4_cheapestFor_28 {p : Program} {l : Launch} {e : Env} {s : State} {m : MethodId} {args : Array Value} {below : List Frame} {meth : Method} {c : Code} {D : va_G} {cI cJ cZ cS : ClassId} {tb : Nat} {A : Nat → Prop} {a_t a_party a_party_kinds a_party_costs a_party_terms a_party_known a_kept a_tape a_telephone a_sheets a_findings : Nat} {v_isKept : Int32} {v_party_size : Int32} {v_party_list : Int32} {v_party_told : Int32} {v_party_kinds : Nat → Int32} {v_party_costs : Nat → Int32} {v_party_terms : Nat → Int64} {rr : Int32} {kk' : (Nat → Int32)} (fx : q_Fx p s m args meth c cX4_cheapestFor 5 RX4 (some .int) D cI cJ cZ cS tb A) {ag4 : (Nat → Int32) → Int32 → Int32 → Int32 → Option (Int32 × (Nat → Int32))} (hag4 : ∀ {v_party_known : Nat → Int32} {y1 : Int32} {y2 : Int32} {y3 : Int32} {H : Heap} {locs : List Loc} {ls : Array Slot}, q_H D A s (wX4_cheapestFor cI cJ cZ cS a_t a_party a_party_kinds a_party_costs a_party_terms a_party_known a_kept a_tape a_telephone a_sheets a_findings v_isKept v_party_size v_party_list v_party_told v_party_kinds v_party_costs v_party_terms v_party_known) H locs → lv_has ls 5 [(0, .ref a_t), (1, .int y1), (2, .int y2), (3, .int y3)] → ag4 v_party_known y1 y2 y3 = some (rr, kk') → W p l e rX4_cheapestFor s m args below meth c H locs 0 0 (MQ below (q_Ri D rr A ((fun k : (Nat → Int32) => (wX4_cheapestFor cI cJ cZ cS a_t a_party a_party_kinds a_party_costs a_party_terms a_party_known a_kept a_tape a_telephone a_sheets a_findings v_isKept v_party_size v_party_list v_party_told v_party_kinds v_party_costs v_party_terms k)) kk')) args s 0 0 A) (F0 m 4 ls [])) : ∀ {v_party_known : Nat → Int32} {y1 : Int32} {y2 : Int32} {y3 : Int32} {H : Heap} {locs : List Loc} {ls : Array Slot}, q_H D A s (wX4_cheapestFor cI cJ cZ cS a_t a_party a_party_kinds a_party_costs a_party_terms a_party_known a_kept a_tape a_telephone a_sheets a_findings v_isKept v_party_size v_party_list v_party_told v_party_kinds v_party_costs v_party_terms v_party_known) H locs → lv_has ls 5 [(0, .ref a_t), (1, .int y1), (2, .int y2), (3, .int y3)] → fX4_cheapestFor_28 v_party_size v_party_kinds v_party_costs v_party_terms ag4 v_party_known y1 y2 y3 = some (rr, kk') → W p l e rX4_cheapestFor s m args below meth c H locs 0 0 (MQ below (q_Ri D rr A ((fun k : (Nat → Int32) => (wX4_cheapestFor cI cJ cZ cS a_t a_party a_party_kinds a_party_costs a_party_terms a_party_known a_kept a_tape a_telephone a_sheets a_findings v_isKept v_party_size v_party_list v_party_told v_party_kinds v_party_costs v_party_terms k)) kk')) args s 0 0 A) (F0 m 28 ls []) := by
  intro v_party_known y1 y2 y3 H locs ls h hl hf
  have hx := fx.1
  have hb := fx.2.1
  unfold fX4_cheapestFor_28 at hf
  refine lv_iconst (v := 1) hx hb dX4_cheapestFor_28 (by decide) ?_
  refine lv_goto (tgt := 33) hx hb dX4_cheapestFor_29 (by decide) ?_
  exact LX4_cheapestFor_33 fx hag4 h (lv_sub hl [0, 1, 2, 3] rfl) hf
def fX4_cheapestFor_4 (v_party_size : Int32) (v_party_kinds : Nat → Int32) (v_party_costs : Nat → Int32) (v_party_terms : Nat → Int64) (ag4 : (Nat → Int32) → Int32 → Int32 → Int32 → Option (Int32 × (Nat → Int32))) (v_party_known : Nat → Int32) (y1 : Int32) (y2 : Int32) (y3 : Int32) : Option (Int32 × (Nat → Int32)) :=
  bR (fX0_lists v_party_size) (fun r7 k7 =>
  (if r7 ≤ y3 then (
  some (y2, v_party_known))
  else (
  (if y2 < 0 then (
  fX4_cheapestFor_28 v_party_size v_party_kinds v_party_costs v_party_terms ag4 v_party_known y1 y2 y3)
  else (
  bR (fX4_isCheaper v_party_size v_party_costs y3 y2) (fun r10 k10 =>
  (if r10 = 0 then (
  fX4_cheapestFor_33 v_party_size v_party_kinds v_party_costs v_party_terms ag4 v_party_known 0 y1 y2 y3)
  else (
  fX4_cheapestFor_28 v_party_size v_party_kinds v_party_costs v_party_terms ag4 v_party_known y1 y2 y3))))))))
set_option maxRecDepth 100000 in
set_option maxHeartbeats 4000000 in
theorem LX4_cheapestFor_4 {p : Program} {l : Launch} {e : Env} {s : State} {m : MethodId} {args : Array Value} {below : List Frame} {meth : Method} {c : Code} {D : va_G} {cI cJ cZ cS : ClassId} {tb : Nat} {A : Nat → Prop} {a_t a_party a_party_kinds a_party_costs a_party_terms a_party_known a_kept a_tape a_telephone a_sheets a_findings : Nat} {v_isKept : Int32} {v_party_size : Int32} {v_party_list : Int32} {v_party_told : Int32} {v_party_kinds : Nat → Int32} {v_party_costs : Nat → Int32} {v_party_terms : Nat → Int64} {rr : Int32} {kk' : (Nat → Int32)} (fx : q_Fx p s m args meth c cX4_cheapestFor 5 RX4 (some .int) D cI cJ cZ cS tb A) {ag4 : (Nat → Int32) → Int32 → Int32 → Int32 → Option (Int32 × (Nat → Int32))} (hag4 : ∀ {v_party_known : Nat → Int32} {y1 : Int32} {y2 : Int32} {y3 : Int32} {H : Heap} {locs : List Loc} {ls : Array Slot}, q_H D A s (wX4_cheapestFor cI cJ cZ cS a_t a_party a_party_kinds a_party_costs a_party_terms a_party_known a_kept a_tape a_telephone a_sheets a_findings v_isKept v_party_size v_party_list v_party_told v_party_kinds v_party_costs v_party_terms v_party_known) H locs → lv_has ls 5 [(0, .ref a_t), (1, .int y1), (2, .int y2), (3, .int y3)] → ag4 v_party_known y1 y2 y3 = some (rr, kk') → W p l e rX4_cheapestFor s m args below meth c H locs 0 0 (MQ below (q_Ri D rr A ((fun k : (Nat → Int32) => (wX4_cheapestFor cI cJ cZ cS a_t a_party a_party_kinds a_party_costs a_party_terms a_party_known a_kept a_tape a_telephone a_sheets a_findings v_isKept v_party_size v_party_list v_party_told v_party_kinds v_party_costs v_party_terms k)) kk')) args s 0 0 A) (F0 m 4 ls [])) : ∀ {v_party_known : Nat → Int32} {y1 : Int32} {y2 : Int32} {y3 : Int32} {H : Heap} {locs : List Loc} {ls : Array Slot}, q_H D A s (wX4_cheapestFor cI cJ cZ cS a_t a_party a_party_kinds a_party_costs a_party_terms a_party_known a_kept a_tape a_telephone a_sheets a_findings v_isKept v_party_size v_party_list v_party_told v_party_kinds v_party_costs v_party_terms v_party_known) H locs → lv_has ls 5 [(0, .ref a_t), (1, .int y1), (2, .int y2), (3, .int y3)] → fX4_cheapestFor_4 v_party_size v_party_kinds v_party_costs v_party_terms ag4 v_party_known y1 y2 y3 = some (rr, kk') → W p l e rX4_cheapestFor s m args below meth c H locs 0 0 (MQ below (q_Ri D rr A ((fun k : (Nat → Int32) => (wX4_cheapestFor cI cJ cZ cS a_t a_party a_party_kinds a_party_costs a_party_terms a_party_known a_kept a_tape a_telephone a_sheets a_findings v_isKept v_party_size v_party_list v_party_told v_party_kinds v_party_costs v_party_terms k)) kk')) args s 0 0 A) (F0 m 4 ls []) := by
  intro v_party_known y1 y2 y3 H locs ls h hl hf
  have hx := fx.1
  have hb := fx.2.1
  unfold fX4_cheapestFor_4 at hf
  refine lv_iload_n hx hb dX4_cheapestFor_4 rfl (lv_at hl 3 rfl) ?_
  refine lv_aload_n hx hb dX4_cheapestFor_5 rfl (lv_at hl 0 rfl) ?_
  refine q_get (v := .ref a_party) fx inX4 h 0 rfl rfl 0 (by decide) k_174 rfl dX4_cheapestFor_6 ?_
  obtain ⟨r7, k7, hg, hf⟩ := bR_inv hf
  refine q_ci (rest := [.int y3]) (ws' := (wX4_cheapestFor cI cJ cZ cS a_t a_party a_party_kinds a_party_costs a_party_terms a_party_known a_kept a_tape a_telephone a_sheets a_findings v_isKept v_party_size v_party_list v_party_told v_party_kinds v_party_costs v_party_terms v_party_known)) (w1 := (wX0_lists cI cJ cZ cS a_party a_party_kinds a_party_costs a_party_terms a_party_known v_party_size v_party_list v_party_told)) fx h [1] rfl rfl rfl rfl (q_runV fx h hl.1 [1] rfl rfl (tX0_lists l D cI cJ cZ cS tb a_party a_party_kinds a_party_costs a_party_terms a_party_known H.size v_party_size v_party_list v_party_told r7 k7 hg) mvX0_lists k_447 ⟨rfl, rfl⟩ ⟨Nat.le_of_ble_eq_true rfl, Nat.le_of_ble_eq_true rfl⟩ rfl rfl rfl rfl (Nat.le_of_ble_eq_true rfl) dX4_cheapestFor_9 ⟨Nat.le_of_ble_eq_true rfl, Nat.le_of_ble_eq_true rfl⟩) (fun H locs h => ?_)
  refine lv_icmp_ge (tgt := 70) hx hb dX4_cheapestFor_12 (by decide) (fun c8 => ?_) (fun c8 => ?_)
  · have hf := it_t c8 hf
    refine lv_iload_n hx hb dX4_cheapestFor_70 rfl (lv_at hl 2 rfl) ?_
    exact q_reti (fun k : (Nat → Int32) => (wX4_cheapestFor cI cJ cZ cS a_t a_party a_party_kinds a_party_costs a_party_terms a_party_known a_kept a_tape a_telephone a_sheets a_findings v_isKept v_party_size v_party_list v_party_told v_party_kinds v_party_costs v_party_terms k)) fx hf h dX4_cheapestFor_71
  have hf := it_f c8 hf
  refine lv_iload_n hx hb dX4_cheapestFor_15 rfl (lv_at hl 2 rfl) ?_
  refine lv_if_lt (tgt := 28) hx hb dX4_cheapestFor_16 (by decide) (fun c9 => ?_) (fun c9 => ?_)
  · have hf := it_t c9 hf
    exact LX4_cheapestFor_28 fx hag4 h (lv_sub hl [0, 1, 2, 3] rfl) hf
  have hf := it_f c9 hf
  refine lv_aload_n hx hb dX4_cheapestFor_19 rfl (lv_at hl 0 rfl) ?_
  refine lv_iload_n hx hb dX4_cheapestFor_20 rfl (lv_at hl 3 rfl) ?_
  refine lv_iload_n hx hb dX4_cheapestFor_21 rfl (lv_at hl 2 rfl) ?_
  obtain ⟨r10, k10, hg, hf⟩ := bR_inv hf
  refine q_ci (rest := []) (ws' := (wX4_cheapestFor cI cJ cZ cS a_t a_party a_party_kinds a_party_costs a_party_terms a_party_known a_kept a_tape a_telephone a_sheets a_findings v_isKept v_party_size v_party_list v_party_told v_party_kinds v_party_costs v_party_terms v_party_known)) (w1 := (wX4_isCheaper cI cJ cZ cS a_t a_party a_party_kinds a_party_costs a_party_terms a_party_known a_kept a_tape a_telephone a_sheets a_findings v_isKept v_party_size v_party_list v_party_told v_party_costs)) fx h [0, 1, 3] rfl rfl rfl rfl (q_runV fx h hl.1 [0, 1, 3] rfl rfl (tX4_isCheaper l D cI cJ cZ cS tb a_t a_party a_party_kinds a_party_costs a_party_terms a_party_known a_kept a_tape a_telephone a_sheets a_findings H.size v_isKept v_party_size v_party_list v_party_told v_party_costs y3 y2 r10 k10 hg) mvX4_isCheaper k_491 ⟨rfl, rfl⟩ ⟨Nat.le_of_ble_eq_true rfl, Nat.le_of_ble_eq_true rfl⟩ rfl rfl rfl rfl (Nat.le_of_ble_eq_true rfl) dX4_cheapestFor_22 ⟨Nat.le_of_ble_eq_true rfl, Nat.le_of_ble_eq_true rfl⟩) (fun H locs h => ?_)
  refine lv_if_eq (tgt := 32) hx hb dX4_cheapestFor_25 (by decide) (fun c11 => ?_) (fun c11 => ?_)
  · have hf := it_t c11 hf
    refine lv_iconst (v := 0) hx hb dX4_cheapestFor_32 (by decide) ?_
    exact LX4_cheapestFor_33 fx hag4 h (lv_sub hl [0, 1, 2, 3] rfl) hf
  have hf := it_f c11 hf
  exact LX4_cheapestFor_28 fx hag4 h (lv_sub hl [0, 1, 2, 3] rfl) hf
set_option maxRecDepth 100000 in
theorem EX4_cheapestFor_4 {p : Program} {l : Launch} {e : Env} {s : State} {m : MethodId} {args : Array Value} {below : List Frame} {meth : Method} {c : Code} {D : va_G} {cI cJ cZ cS : ClassId} {tb : Nat} {A : Nat → Prop} {a_t a_party a_party_kinds a_party_costs a_party_terms a_party_known a_kept a_tape a_telephone a_sheets a_findings : Nat} {v_isKept : Int32} {v_party_size : Int32} {v_party_list : Int32} {v_party_told : Int32} {v_party_kinds : Nat → Int32} {v_party_costs : Nat → Int32} {v_party_terms : Nat → Int64} {rr : Int32} {kk' : (Nat → Int32)} (fx : q_Fx p s m args meth c cX4_cheapestFor 5 RX4 (some .int) D cI cJ cZ cS tb A) : ∀ (n : Nat), ∀ {v_party_known : Nat → Int32} {y1 : Int32} {y2 : Int32} {y3 : Int32} {H : Heap} {locs : List Loc} {ls : Array Slot}, q_H D A s (wX4_cheapestFor cI cJ cZ cS a_t a_party a_party_kinds a_party_costs a_party_terms a_party_known a_kept a_tape a_telephone a_sheets a_findings v_isKept v_party_size v_party_list v_party_told v_party_kinds v_party_costs v_party_terms v_party_known) H locs → lv_has ls 5 [(0, .ref a_t), (1, .int y1), (2, .int y2), (3, .int y3)] → ll4 (fX4_cheapestFor_4 v_party_size v_party_kinds v_party_costs v_party_terms) n v_party_known y1 y2 y3 = some (rr, kk') → W p l e rX4_cheapestFor s m args below meth c H locs 0 0 (MQ below (q_Ri D rr A ((fun k : (Nat → Int32) => (wX4_cheapestFor cI cJ cZ cS a_t a_party a_party_kinds a_party_costs a_party_terms a_party_known a_kept a_tape a_telephone a_sheets a_findings v_isKept v_party_size v_party_list v_party_told v_party_kinds v_party_costs v_party_terms k)) kk')) args s 0 0 A) (F0 m 4 ls []) := by
  intro n
  induction n with
  | zero => intro v_party_known y1 y2 y3 H locs ls h hl hf; exact (ll4_z hf).elim
  | succ n ih => intro v_party_known y1 y2 y3 H locs ls h hl hf; exact LX4_cheapestFor_4 fx ih h hl (ll4_s hf)
def fX4_cheapestFor (v_party_size : Int32) (v_party_kinds : Nat → Int32) (v_party_costs : Nat → Int32) (v_party_terms : Nat → Int64) (v_party_known : Nat → Int32) (x1 : Int32) : Option (Int32 × (Nat → Int32)) :=
  ll4 (fX4_cheapestFor_4 v_party_size v_party_kinds v_party_costs v_party_terms) qF v_party_known x1 (-1) 0
set_option maxRecDepth 100000 in
set_option maxHeartbeats 4000000 in
theorem tX4_cheapestFor (l : Launch) (D : va_G) (cI cJ cZ cS : ClassId) (tb : Nat) (a_t a_party a_party_kinds a_party_costs a_party_terms a_party_known a_kept a_tape a_telephone a_sheets a_findings : Nat) (sz : Nat) (v_isKept : Int32) (v_party_size : Int32) (v_party_list : Int32) (v_party_told : Int32) (v_party_kinds : Nat → Int32) (v_party_costs : Nat → Int32) (v_party_terms : Nat → Int64) (v_party_known : Nat → Int32) (x1 : Int32) (rr : Int32) (kk' : (Nat → Int32)) (hf : fX4_cheapestFor v_party_size v_party_kinds v_party_costs v_party_terms v_party_known x1 = some (rr, kk')) : Met l yX4_cheapestFor (Cond.code yX4_cheapestFor cX4_cheapestFor 5 (some .int) :: wA) rX4_cheapestFor (q_Pre D cI cJ cZ cS tb [.ref a_t, .int x1] sz (wX4_cheapestFor cI cJ cZ cS a_t a_party a_party_kinds a_party_costs a_party_terms a_party_known a_kept a_tape a_telephone a_sheets a_findings v_isKept v_party_size v_party_list v_party_told v_party_kinds v_party_costs v_party_terms v_party_known)) (q_Ri D rr (va_A (wX4_cheapestFor cI cJ cZ cS a_t a_party a_party_kinds a_party_costs a_party_terms a_party_known a_kept a_tape a_telephone a_sheets a_findings v_isKept v_party_size v_party_list v_party_told v_party_kinds v_party_costs v_party_terms v_party_known) sz) ((fun k : (Nat → Int32) => (wX4_cheapestFor cI cJ cZ cS a_t a_party a_party_kinds a_party_costs a_party_terms a_party_known a_kept a_tape a_telephone a_sheets a_findings v_isKept v_party_size v_party_list v_party_told v_party_kinds v_party_costs v_party_terms k)) kk')) 0 0 (va_A (wX4_cheapestFor cI cJ cZ cS a_t a_party a_party_kinds a_party_costs a_party_terms a_party_known a_kept a_tape a_telephone a_sheets a_findings v_isKept v_party_size v_party_list v_party_told v_party_kinds v_party_costs v_party_terms v_party_known) sz) := by
  refine q_enter (Qf := fun A => (q_Ri D rr A ((fun k : (Nat → Int32) => (wX4_cheapestFor cI cJ cZ cS a_t a_party a_party_kinds a_party_costs a_party_terms a_party_known a_kept a_tape a_telephone a_sheets a_findings v_isKept v_party_size v_party_list v_party_told v_party_kinds v_party_costs v_party_terms k)) kk'))) (by decide) rfl (Nat.le_of_ble_eq_true rfl) ?_
  intro p e s m below meth c A ls fx hname h hl
  have hx := fx.1
  have hb := fx.2.1
  have hl : lv_has ls 5 [(0, .ref a_t), (1, .int x1)] := hl
  generalize h9 : s.heap = H at h ⊢
  clear h9
  generalize h9 : ([] : List Loc) = locs at h ⊢
  clear h9
  unfold fX4_cheapestFor at hf
  refine lv_iconst (v := -1) hx hb dX4_cheapestFor_0 (by decide) ?_
  refine lv_istore_n (lv' := [(2, .int (-1)), (0, .ref a_t), (1, .int x1)]) hx hb dX4_cheapestFor_1 rfl hl (by decide) rfl (fun ls hl => ?_)
  refine lv_iconst (v := 0) hx hb dX4_cheapestFor_2 (by decide) ?_
  refine lv_istore_n (lv' := [(3, .int 0), (2, .int (-1)), (0, .ref a_t), (1, .int x1)]) hx hb dX4_cheapestFor_3 rfl hl (by decide) rfl (fun ls hl => ?_)
  exact EX4_cheapestFor_4 fx qF h (lv_sub hl [2, 3, 1, 0] rfl) hf
/-! X4_buys -/
abbrev wX4_buys (cI cJ cZ cS : ClassId) (a_t a_party a_party_kinds a_party_costs a_party_terms a_party_known a_kept a_tape a_telephone a_sheets a_findings : Nat) (v_isKept : Int32) (v_party_size : Int32) (v_party_list : Int32) (v_party_told : Int32) (v_party_kinds : Nat → Int32) (v_party_costs : Nat → Int32) (v_party_terms : Nat → Int64) (v_party_known : Nat → Int32) (v_findings : Nat → Int32) : va_W := [(a_t, .inr (4, [.ref a_party, .ref a_kept, .int v_isKept, .ref a_tape, .ref a_telephone, .ref a_sheets, .ref a_findings])), (a_party, .inr (0, [.int v_party_size, .int v_party_list, .int v_party_told, .ref a_party_kinds, .ref a_party_costs, .ref a_party_terms, .ref a_party_known])), (a_party_kinds, .inl (cI, 8, .inl v_party_kinds)), (a_party_costs, .inl (cI, 8, .inl v_party_costs)), (a_party_terms, .inl (cJ, 32, .inr (.inl v_party_terms))), (a_party_known, .inl (cI, 256, .inl v_party_known)), (a_findings, .inl (cI, 7, .inl v_findings))]
abbrev rX4_buys : Room := { frames := 6, cells := 0, slots := 0, locals := 139 }
def fX4_buys_10 (v_party_size : Int32) (v_party_kinds : Nat → Int32) (v_party_costs : Nat → Int32) (v_party_terms : Nat → Int64) (v_party_known : Nat → Int32) (v_findings : Nat → Int32) : Option (Int32 × (Nat → Int32) × (Nat → Int32)) :=
  bR (fX4_found v_findings (-1000000001)) (fun r1 k1 =>
  some (r1, (v_party_known, k1)))
set_option maxRecDepth 100000 in
set_option maxHeartbeats 4000000 in
theorem LX4_buys_10 {p : Program} {l : Launch} {e : Env} {s : State} {m : MethodId} {args : Array Value} {below : List Frame} {meth : Method} {c : Code} {D : va_G} {cI cJ cZ cS : ClassId} {tb : Nat} {A : Nat → Prop} {a_t a_party a_party_kinds a_party_costs a_party_terms a_party_known a_kept a_tape a_telephone a_sheets a_findings : Nat} {v_isKept : Int32} {v_party_size : Int32} {v_party_list : Int32} {v_party_told : Int32} {v_party_kinds : Nat → Int32} {v_party_costs : Nat → Int32} {v_party_terms : Nat → Int64} {rr : Int32} {kk' : (Nat → Int32) × (Nat → Int32)} (fx : q_Fx p s m args meth c cX4_buys 3 RX4 (some .int) D cI cJ cZ cS tb A) : ∀ {v_party_known : Nat → Int32} {v_findings : Nat → Int32} {H : Heap} {locs : List Loc} {ls : Array Slot}, q_H D A s (wX4_buys cI cJ cZ cS a_t a_party a_party_kinds a_party_costs a_party_terms a_party_known a_kept a_tape a_telephone a_sheets a_findings v_isKept v_party_size v_party_list v_party_told v_party_kinds v_party_costs v_party_terms v_party_known v_findings) H locs → lv_has ls 3 [(0, .ref a_t)] → fX4_buys_10 v_party_size v_party_kinds v_party_costs v_party_terms v_party_known v_findings = some (rr, kk') → W p l e rX4_buys s m args below meth c H locs 0 0 (MQ below (q_Ri D rr A ((fun k : (Nat → Int32) × (Nat → Int32) => (wX4_buys cI cJ cZ cS a_t a_party a_party_kinds a_party_costs a_party_terms a_party_known a_kept a_tape a_telephone a_sheets a_findings v_isKept v_party_size v_party_list v_party_told v_party_kinds v_party_costs v_party_terms k.1 k.2)) kk')) args s 0 0 A) (F0 m 10 ls []) := by
  intro v_party_known v_findings H locs ls h hl hf
  have hx := fx.1
  have hb := fx.2.1
  unfold fX4_buys_10 at hf
  refine lv_aload_n hx hb dX4_buys_10 rfl (lv_at hl 0 rfl) ?_
  refine q_ldc fx k_206 dX4_buys_11 ?_
  obtain ⟨r1, k1, hg, hf⟩ := bR_inv hf
  refine q_ci (rest := []) (ws' := (wX4_buys cI cJ cZ cS a_t a_party a_party_kinds a_party_costs a_party_terms a_party_known a_kept a_tape a_telephone a_sheets a_findings v_isKept v_party_size v_party_list v_party_told v_party_kinds v_party_costs v_party_terms v_party_known k1)) (w1 := (wX4_found cI cJ cZ cS a_t a_party a_kept a_tape a_telephone a_sheets a_findings v_isKept k1)) fx h [0, 6] rfl rfl rfl rfl (q_runV fx h hl.1 [0, 6] rfl rfl (tX4_found l D cI cJ cZ cS tb a_t a_party a_kept a_tape a_telephone a_sheets a_findings H.size v_isKept v_findings (-1000000001) r1 k1 hg) mvX4_found k_207 ⟨rfl, rfl⟩ ⟨Nat.le_of_ble_eq_true rfl, Nat.le_of_ble_eq_true rfl⟩ rfl rfl rfl rfl (Nat.le_of_ble_eq_true rfl) dX4_buys_13 ⟨Nat.le_of_ble_eq_true rfl, Nat.le_of_ble_eq_true rfl⟩) (fun H locs h => ?_)
  exact q_reti (fun k : (Nat → Int32) × (Nat → Int32) => (wX4_buys cI cJ cZ cS a_t a_party a_party_kinds a_party_costs a_party_terms a_party_known a_kept a_tape a_telephone a_sheets a_findings v_isKept v_party_size v_party_list v_party_told v_party_kinds v_party_costs v_party_terms k.1 k.2)) fx hf h dX4_buys_16
def fX4_buys (v_party_size : Int32) (v_party_kinds : Nat → Int32) (v_party_costs : Nat → Int32) (v_party_terms : Nat → Int64) (v_party_known : Nat → Int32) (v_findings : Nat → Int32) (x1 : Int32) : Option (Int32 × (Nat → Int32) × (Nat → Int32)) :=
  (if x1 < 0 then (
  fX4_buys_10 v_party_size v_party_kinds v_party_costs v_party_terms v_party_known v_findings)
  else (
  (if x1 ≤ 8 then (
  bR (fX4_cheapestFor v_party_size v_party_kinds v_party_costs v_party_terms v_party_known x1) (fun r4 k4 =>
  (if (0 : Int32) ≤ r4 then (
  some (r4, (k4, v_findings)))
  else (
  bR (fX4_found v_findings (-1000000004)) (fun r6 k6 =>
  some (r6, (k4, k6)))))))
  else (
  fX4_buys_10 v_party_size v_party_kinds v_party_costs v_party_terms v_party_known v_findings))))
set_option maxRecDepth 100000 in
set_option maxHeartbeats 4000000 in
theorem tX4_buys (l : Launch) (D : va_G) (cI cJ cZ cS : ClassId) (tb : Nat) (a_t a_party a_party_kinds a_party_costs a_party_terms a_party_known a_kept a_tape a_telephone a_sheets a_findings : Nat) (sz : Nat) (v_isKept : Int32) (v_party_size : Int32) (v_party_list : Int32) (v_party_told : Int32) (v_party_kinds : Nat → Int32) (v_party_costs : Nat → Int32) (v_party_terms : Nat → Int64) (v_party_known : Nat → Int32) (v_findings : Nat → Int32) (x1 : Int32) (rr : Int32) (kk' : (Nat → Int32) × (Nat → Int32)) (hf : fX4_buys v_party_size v_party_kinds v_party_costs v_party_terms v_party_known v_findings x1 = some (rr, kk')) : Met l yX4_buys (Cond.code yX4_buys cX4_buys 3 (some .int) :: wA) rX4_buys (q_Pre D cI cJ cZ cS tb [.ref a_t, .int x1] sz (wX4_buys cI cJ cZ cS a_t a_party a_party_kinds a_party_costs a_party_terms a_party_known a_kept a_tape a_telephone a_sheets a_findings v_isKept v_party_size v_party_list v_party_told v_party_kinds v_party_costs v_party_terms v_party_known v_findings)) (q_Ri D rr (va_A (wX4_buys cI cJ cZ cS a_t a_party a_party_kinds a_party_costs a_party_terms a_party_known a_kept a_tape a_telephone a_sheets a_findings v_isKept v_party_size v_party_list v_party_told v_party_kinds v_party_costs v_party_terms v_party_known v_findings) sz) ((fun k : (Nat → Int32) × (Nat → Int32) => (wX4_buys cI cJ cZ cS a_t a_party a_party_kinds a_party_costs a_party_terms a_party_known a_kept a_tape a_telephone a_sheets a_findings v_isKept v_party_size v_party_list v_party_told v_party_kinds v_party_costs v_party_terms k.1 k.2)) kk')) 0 0 (va_A (wX4_buys cI cJ cZ cS a_t a_party a_party_kinds a_party_costs a_party_terms a_party_known a_kept a_tape a_telephone a_sheets a_findings v_isKept v_party_size v_party_list v_party_told v_party_kinds v_party_costs v_party_terms v_party_known v_findings) sz) := by
  refine q_enter (Qf := fun A => (q_Ri D rr A ((fun k : (Nat → Int32) × (Nat → Int32) => (wX4_buys cI cJ cZ cS a_t a_party a_party_kinds a_party_costs a_party_terms a_party_known a_kept a_tape a_telephone a_sheets a_findings v_isKept v_party_size v_party_list v_party_told v_party_kinds v_party_costs v_party_terms k.1 k.2)) kk'))) (by decide) rfl (Nat.le_of_ble_eq_true rfl) ?_
  intro p e s m below meth c A ls fx hname h hl
  have hx := fx.1
  have hb := fx.2.1
  have hl : lv_has ls 3 [(0, .ref a_t), (1, .int x1)] := hl
  generalize h9 : s.heap = H at h ⊢
  clear h9
  generalize h9 : ([] : List Loc) = locs at h ⊢
  clear h9
  unfold fX4_buys at hf
  refine lv_iload_n hx hb dX4_buys_0 rfl (lv_at hl 1 rfl) ?_
  refine lv_if_lt (tgt := 10) hx hb dX4_buys_1 (by decide) (fun c2 => ?_) (fun c2 => ?_)
  · have hf := it_t c2 hf
    exact LX4_buys_10 fx h (lv_sub hl [0] rfl) hf
  have hf := it_f c2 hf
  refine lv_iload_n hx hb dX4_buys_4 rfl (lv_at hl 1 rfl) ?_
  refine lv_bipush (v := 8) hx hb dX4_buys_5 (by decide) ?_
  refine lv_icmp_le (tgt := 17) hx hb dX4_buys_7 (by decide) (fun c3 => ?_) (fun c3 => ?_)
  · have hf := it_t c3 hf
    refine lv_aload_n hx hb dX4_buys_17 rfl (lv_at hl 0 rfl) ?_
    refine lv_iload_n hx hb dX4_buys_18 rfl (lv_at hl 1 rfl) ?_
    obtain ⟨r4, k4, hg, hf⟩ := bR_inv hf
    refine q_ci (rest := []) (ws' := (wX4_buys cI cJ cZ cS a_t a_party a_party_kinds a_party_costs a_party_terms a_party_known a_kept a_tape a_telephone a_sheets a_findings v_isKept v_party_size v_party_list v_party_told v_party_kinds v_party_costs v_party_terms k4 v_findings)) (w1 := (wX4_cheapestFor cI cJ cZ cS a_t a_party a_party_kinds a_party_costs a_party_terms a_party_known a_kept a_tape a_telephone a_sheets a_findings v_isKept v_party_size v_party_list v_party_told v_party_kinds v_party_costs v_party_terms k4)) fx h [0, 1, 2, 3, 4, 5] rfl rfl rfl rfl (q_runV fx h hl.1 [0, 1, 2, 3, 4, 5] rfl rfl (tX4_cheapestFor l D cI cJ cZ cS tb a_t a_party a_party_kinds a_party_costs a_party_terms a_party_known a_kept a_tape a_telephone a_sheets a_findings H.size v_isKept v_party_size v_party_list v_party_told v_party_kinds v_party_costs v_party_terms v_party_known x1 r4 k4 hg) mvX4_cheapestFor k_487 ⟨rfl, rfl⟩ ⟨Nat.le_of_ble_eq_true rfl, Nat.le_of_ble_eq_true rfl⟩ rfl rfl rfl rfl (Nat.le_of_ble_eq_true rfl) dX4_buys_19 ⟨Nat.le_of_ble_eq_true rfl, Nat.le_of_ble_eq_true rfl⟩) (fun H locs h => ?_)
    refine lv_istore_n (lv' := [(2, .int r4), (0, .ref a_t), (1, .int x1)]) hx hb dX4_buys_22 rfl hl (by decide) rfl (fun ls hl => ?_)
    refine lv_iload_n hx hb dX4_buys_23 rfl (lv_at hl 0 rfl) ?_
    refine lv_if_ge (tgt := 36) hx hb dX4_buys_24 (by decide) (fun c5 => ?_) (fun c5 => ?_)
    · have hf := it_t c5 hf
      refine lv_iload_n hx hb dX4_buys_36 rfl (lv_at hl 0 rfl) ?_
      exact q_reti (fun k : (Nat → Int32) × (Nat → Int32) => (wX4_buys cI cJ cZ cS a_t a_party a_party_kinds a_party_costs a_party_terms a_party_known a_kept a_tape a_telephone a_sheets a_findings v_isKept v_party_size v_party_list v_party_told v_party_kinds v_party_costs v_party_terms k.1 k.2)) fx hf h dX4_buys_37
    have hf := it_f c5 hf
    refine lv_aload_n hx hb dX4_buys_27 rfl (lv_at hl 1 rfl) ?_
    refine q_ldc fx k_402 dX4_buys_28 ?_
    obtain ⟨r6, k6, hg, hf⟩ := bR_inv hf
    refine q_ci (rest := []) (ws' := (wX4_buys cI cJ cZ cS a_t a_party a_party_kinds a_party_costs a_party_terms a_party_known a_kept a_tape a_telephone a_sheets a_findings v_isKept v_party_size v_party_list v_party_told v_party_kinds v_party_costs v_party_terms k4 k6)) (w1 := (wX4_found cI cJ cZ cS a_t a_party a_kept a_tape a_telephone a_sheets a_findings v_isKept k6)) fx h [0, 6] rfl rfl rfl rfl (q_runV fx h hl.1 [0, 6] rfl rfl (tX4_found l D cI cJ cZ cS tb a_t a_party a_kept a_tape a_telephone a_sheets a_findings H.size v_isKept v_findings (-1000000004) r6 k6 hg) mvX4_found k_207 ⟨rfl, rfl⟩ ⟨Nat.le_of_ble_eq_true rfl, Nat.le_of_ble_eq_true rfl⟩ rfl rfl rfl rfl (Nat.le_of_ble_eq_true rfl) dX4_buys_30 ⟨Nat.le_of_ble_eq_true rfl, Nat.le_of_ble_eq_true rfl⟩) (fun H locs h => ?_)
    refine lv_goto (tgt := 37) hx hb dX4_buys_33 (by decide) ?_
    exact q_reti (fun k : (Nat → Int32) × (Nat → Int32) => (wX4_buys cI cJ cZ cS a_t a_party a_party_kinds a_party_costs a_party_terms a_party_known a_kept a_tape a_telephone a_sheets a_findings v_isKept v_party_size v_party_list v_party_told v_party_kinds v_party_costs v_party_terms k.1 k.2)) fx hf h dX4_buys_37
  have hf := it_f c3 hf
  exact LX4_buys_10 fx h (lv_sub hl [0] rfl) hf
/-! X4_price -/
abbrev wX4_price (cI cJ cZ cS : ClassId) (a_t a_party a_party_kinds a_party_costs a_party_terms a_party_known a_kept a_tape a_telephone a_sheets a_findings : Nat) (v_isKept : Int32) (v_party_size : Int32) (v_party_list : Int32) (v_party_told : Int32) (v_party_kinds : Nat → Int32) (v_party_costs : Nat → Int32) (v_party_terms : Nat → Int64) (v_party_known : Nat → Int32) (v_findings : Nat → Int32) : va_W := [(a_t, .inr (4, [.ref a_party, .ref a_kept, .int v_isKept, .ref a_tape, .ref a_telephone, .ref a_sheets, .ref a_findings])), (a_party, .inr (0, [.int v_party_size, .int v_party_list, .int v_party_told, .ref a_party_kinds, .ref a_party_costs, .ref a_party_terms, .ref a_party_known])), (a_party_kinds, .inl (cI, 8, .inl v_party_kinds)), (a_party_costs, .inl (cI, 8, .inl v_party_costs)), (a_party_terms, .inl (cJ, 32, .inr (.inl v_party_terms))), (a_party_known, .inl (cI, 256, .inl v_party_known)), (a_findings, .inl (cI, 7, .inl v_findings))]
abbrev rX4_price : Room := { frames := 6, cells := 0, slots := 0, locals := 139 }
def fX4_price_10 (v_party_size : Int32) (v_party_kinds : Nat → Int32) (v_party_costs : Nat → Int32) (v_party_terms : Nat → Int64) (v_party_known : Nat → Int32) (v_findings : Nat → Int32) : Option (Int32 × (Nat → Int32) × (Nat → Int32)) :=
  bR (fX4_found v_findings (-1000000001)) (fun r1 k1 =>
  some (r1, (v_party_known, k1)))
set_option maxRecDepth 100000 in
set_option maxHeartbeats 4000000 in
theorem LX4_price_10 {p : Program} {l : Launch} {e : Env} {s : State} {m : MethodId} {args : Array Value} {below : List Frame} {meth : Method} {c : Code} {D : va_G} {cI cJ cZ cS : ClassId} {tb : Nat} {A : Nat → Prop} {a_t a_party a_party_kinds a_party_costs a_party_terms a_party_known a_kept a_tape a_telephone a_sheets a_findings : Nat} {v_isKept : Int32} {v_party_size : Int32} {v_party_list : Int32} {v_party_told : Int32} {v_party_kinds : Nat → Int32} {v_party_costs : Nat → Int32} {v_party_terms : Nat → Int64} {rr : Int32} {kk' : (Nat → Int32) × (Nat → Int32)} (fx : q_Fx p s m args meth c cX4_price 3 RX4 (some .int) D cI cJ cZ cS tb A) : ∀ {v_party_known : Nat → Int32} {v_findings : Nat → Int32} {H : Heap} {locs : List Loc} {ls : Array Slot}, q_H D A s (wX4_price cI cJ cZ cS a_t a_party a_party_kinds a_party_costs a_party_terms a_party_known a_kept a_tape a_telephone a_sheets a_findings v_isKept v_party_size v_party_list v_party_told v_party_kinds v_party_costs v_party_terms v_party_known v_findings) H locs → lv_has ls 3 [(0, .ref a_t)] → fX4_price_10 v_party_size v_party_kinds v_party_costs v_party_terms v_party_known v_findings = some (rr, kk') → W p l e rX4_price s m args below meth c H locs 0 0 (MQ below (q_Ri D rr A ((fun k : (Nat → Int32) × (Nat → Int32) => (wX4_price cI cJ cZ cS a_t a_party a_party_kinds a_party_costs a_party_terms a_party_known a_kept a_tape a_telephone a_sheets a_findings v_isKept v_party_size v_party_list v_party_told v_party_kinds v_party_costs v_party_terms k.1 k.2)) kk')) args s 0 0 A) (F0 m 10 ls []) := by
  intro v_party_known v_findings H locs ls h hl hf
  have hx := fx.1
  have hb := fx.2.1
  unfold fX4_price_10 at hf
  refine lv_aload_n hx hb dX4_price_10 rfl (lv_at hl 0 rfl) ?_
  refine q_ldc fx k_206 dX4_price_11 ?_
  obtain ⟨r1, k1, hg, hf⟩ := bR_inv hf
  refine q_ci (rest := []) (ws' := (wX4_price cI cJ cZ cS a_t a_party a_party_kinds a_party_costs a_party_terms a_party_known a_kept a_tape a_telephone a_sheets a_findings v_isKept v_party_size v_party_list v_party_told v_party_kinds v_party_costs v_party_terms v_party_known k1)) (w1 := (wX4_found cI cJ cZ cS a_t a_party a_kept a_tape a_telephone a_sheets a_findings v_isKept k1)) fx h [0, 6] rfl rfl rfl rfl (q_runV fx h hl.1 [0, 6] rfl rfl (tX4_found l D cI cJ cZ cS tb a_t a_party a_kept a_tape a_telephone a_sheets a_findings H.size v_isKept v_findings (-1000000001) r1 k1 hg) mvX4_found k_207 ⟨rfl, rfl⟩ ⟨Nat.le_of_ble_eq_true rfl, Nat.le_of_ble_eq_true rfl⟩ rfl rfl rfl rfl (Nat.le_of_ble_eq_true rfl) dX4_price_13 ⟨Nat.le_of_ble_eq_true rfl, Nat.le_of_ble_eq_true rfl⟩) (fun H locs h => ?_)
  exact q_reti (fun k : (Nat → Int32) × (Nat → Int32) => (wX4_price cI cJ cZ cS a_t a_party a_party_kinds a_party_costs a_party_terms a_party_known a_kept a_tape a_telephone a_sheets a_findings v_isKept v_party_size v_party_list v_party_told v_party_kinds v_party_costs v_party_terms k.1 k.2)) fx hf h dX4_price_16
def fX4_price (v_party_size : Int32) (v_party_kinds : Nat → Int32) (v_party_costs : Nat → Int32) (v_party_terms : Nat → Int64) (v_party_known : Nat → Int32) (v_findings : Nat → Int32) (x1 : Int32) : Option (Int32 × (Nat → Int32) × (Nat → Int32)) :=
  (if x1 < 0 then (
  fX4_price_10 v_party_size v_party_kinds v_party_costs v_party_terms v_party_known v_findings)
  else (
  (if x1 ≤ 8 then (
  bR (fX4_cheapestFor v_party_size v_party_kinds v_party_costs v_party_terms v_party_known x1) (fun r4 k4 =>
  (if (0 : Int32) ≤ r4 then (
  bR (fX0_costsOf v_party_size v_party_costs r4) (fun r6 k6 =>
  some (r6, (k4, v_findings))))
  else (
  bR (fX4_found v_findings (-1000000004)) (fun r7 k7 =>
  some (r7, (k4, k7)))))))
  else (
  fX4_price_10 v_party_size v_party_kinds v_party_costs v_party_terms v_party_known v_findings))))
set_option maxRecDepth 100000 in
set_option maxHeartbeats 4000000 in
theorem tX4_price (l : Launch) (D : va_G) (cI cJ cZ cS : ClassId) (tb : Nat) (a_t a_party a_party_kinds a_party_costs a_party_terms a_party_known a_kept a_tape a_telephone a_sheets a_findings : Nat) (sz : Nat) (v_isKept : Int32) (v_party_size : Int32) (v_party_list : Int32) (v_party_told : Int32) (v_party_kinds : Nat → Int32) (v_party_costs : Nat → Int32) (v_party_terms : Nat → Int64) (v_party_known : Nat → Int32) (v_findings : Nat → Int32) (x1 : Int32) (rr : Int32) (kk' : (Nat → Int32) × (Nat → Int32)) (hf : fX4_price v_party_size v_party_kinds v_party_costs v_party_terms v_party_known v_findings x1 = some (rr, kk')) : Met l yX4_price (Cond.code yX4_price cX4_price 3 (some .int) :: wA) rX4_price (q_Pre D cI cJ cZ cS tb [.ref a_t, .int x1] sz (wX4_price cI cJ cZ cS a_t a_party a_party_kinds a_party_costs a_party_terms a_party_known a_kept a_tape a_telephone a_sheets a_findings v_isKept v_party_size v_party_list v_party_told v_party_kinds v_party_costs v_party_terms v_party_known v_findings)) (q_Ri D rr (va_A (wX4_price cI cJ cZ cS a_t a_party a_party_kinds a_party_costs a_party_terms a_party_known a_kept a_tape a_telephone a_sheets a_findings v_isKept v_party_size v_party_list v_party_told v_party_kinds v_party_costs v_party_terms v_party_known v_findings) sz) ((fun k : (Nat → Int32) × (Nat → Int32) => (wX4_price cI cJ cZ cS a_t a_party a_party_kinds a_party_costs a_party_terms a_party_known a_kept a_tape a_telephone a_sheets a_findings v_isKept v_party_size v_party_list v_party_told v_party_kinds v_party_costs v_party_terms k.1 k.2)) kk')) 0 0 (va_A (wX4_price cI cJ cZ cS a_t a_party a_party_kinds a_party_costs a_party_terms a_party_known a_kept a_tape a_telephone a_sheets a_findings v_isKept v_party_size v_party_list v_party_told v_party_kinds v_party_costs v_party_terms v_party_known v_findings) sz) := by
  refine q_enter (Qf := fun A => (q_Ri D rr A ((fun k : (Nat → Int32) × (Nat → Int32) => (wX4_price cI cJ cZ cS a_t a_party a_party_kinds a_party_costs a_party_terms a_party_known a_kept a_tape a_telephone a_sheets a_findings v_isKept v_party_size v_party_list v_party_told v_party_kinds v_party_costs v_party_terms k.1 k.2)) kk'))) (by decide) rfl (Nat.le_of_ble_eq_true rfl) ?_
  intro p e s m below meth c A ls fx hname h hl
  have hx := fx.1
  have hb := fx.2.1
  have hl : lv_has ls 3 [(0, .ref a_t), (1, .int x1)] := hl
  generalize h9 : s.heap = H at h ⊢
  clear h9
  generalize h9 : ([] : List Loc) = locs at h ⊢
  clear h9
  unfold fX4_price at hf
  refine lv_iload_n hx hb dX4_price_0 rfl (lv_at hl 1 rfl) ?_
  refine lv_if_lt (tgt := 10) hx hb dX4_price_1 (by decide) (fun c2 => ?_) (fun c2 => ?_)
  · have hf := it_t c2 hf
    exact LX4_price_10 fx h (lv_sub hl [0] rfl) hf
  have hf := it_f c2 hf
  refine lv_iload_n hx hb dX4_price_4 rfl (lv_at hl 1 rfl) ?_
  refine lv_bipush (v := 8) hx hb dX4_price_5 (by decide) ?_
  refine lv_icmp_le (tgt := 17) hx hb dX4_price_7 (by decide) (fun c3 => ?_) (fun c3 => ?_)
  · have hf := it_t c3 hf
    refine lv_aload_n hx hb dX4_price_17 rfl (lv_at hl 0 rfl) ?_
    refine lv_iload_n hx hb dX4_price_18 rfl (lv_at hl 1 rfl) ?_
    obtain ⟨r4, k4, hg, hf⟩ := bR_inv hf
    refine q_ci (rest := []) (ws' := (wX4_price cI cJ cZ cS a_t a_party a_party_kinds a_party_costs a_party_terms a_party_known a_kept a_tape a_telephone a_sheets a_findings v_isKept v_party_size v_party_list v_party_told v_party_kinds v_party_costs v_party_terms k4 v_findings)) (w1 := (wX4_cheapestFor cI cJ cZ cS a_t a_party a_party_kinds a_party_costs a_party_terms a_party_known a_kept a_tape a_telephone a_sheets a_findings v_isKept v_party_size v_party_list v_party_told v_party_kinds v_party_costs v_party_terms k4)) fx h [0, 1, 2, 3, 4, 5] rfl rfl rfl rfl (q_runV fx h hl.1 [0, 1, 2, 3, 4, 5] rfl rfl (tX4_cheapestFor l D cI cJ cZ cS tb a_t a_party a_party_kinds a_party_costs a_party_terms a_party_known a_kept a_tape a_telephone a_sheets a_findings H.size v_isKept v_party_size v_party_list v_party_told v_party_kinds v_party_costs v_party_terms v_party_known x1 r4 k4 hg) mvX4_cheapestFor k_487 ⟨rfl, rfl⟩ ⟨Nat.le_of_ble_eq_true rfl, Nat.le_of_ble_eq_true rfl⟩ rfl rfl rfl rfl (Nat.le_of_ble_eq_true rfl) dX4_price_19 ⟨Nat.le_of_ble_eq_true rfl, Nat.le_of_ble_eq_true rfl⟩) (fun H locs h => ?_)
    refine lv_istore_n (lv' := [(2, .int r4), (0, .ref a_t), (1, .int x1)]) hx hb dX4_price_22 rfl hl (by decide) rfl (fun ls hl => ?_)
    refine lv_iload_n hx hb dX4_price_23 rfl (lv_at hl 0 rfl) ?_
    refine lv_if_ge (tgt := 36) hx hb dX4_price_24 (by decide) (fun c5 => ?_) (fun c5 => ?_)
    · have hf := it_t c5 hf
      refine lv_aload_n hx hb dX4_price_36 rfl (lv_at hl 1 rfl) ?_
      refine q_get (v := .ref a_party) fx inX4 h 0 rfl rfl 0 (by decide) k_174 rfl dX4_price_37 ?_
      refine lv_iload_n hx hb dX4_price_40 rfl (lv_at hl 0 rfl) ?_
      obtain ⟨r6, k6, hg, hf⟩ := bR_inv hf
      refine q_ci (rest := []) (ws' := (wX4_price cI cJ cZ cS a_t a_party a_party_kinds a_party_costs a_party_terms a_party_known a_kept a_tape a_telephone a_sheets a_findings v_isKept v_party_size v_party_list v_party_told v_party_kinds v_party_costs v_party_terms k4 v_findings)) (w1 := (wX0_costsOf cI cJ cZ cS a_party a_party_kinds a_party_costs a_party_terms a_party_known v_party_size v_party_list v_party_told v_party_costs)) fx h [1, 3] rfl rfl rfl rfl (q_runV fx h hl.1 [1, 3] rfl rfl (tX0_costsOf l D cI cJ cZ cS tb a_party a_party_kinds a_party_costs a_party_terms a_party_known H.size v_party_size v_party_list v_party_told v_party_costs r4 r6 k6 hg) mvX0_costsOf k_363 ⟨rfl, rfl⟩ ⟨Nat.le_of_ble_eq_true rfl, Nat.le_of_ble_eq_true rfl⟩ rfl rfl rfl rfl (Nat.le_of_ble_eq_true rfl) dX4_price_41 ⟨Nat.le_of_ble_eq_true rfl, Nat.le_of_ble_eq_true rfl⟩) (fun H locs h => ?_)
      exact q_reti (fun k : (Nat → Int32) × (Nat → Int32) => (wX4_price cI cJ cZ cS a_t a_party a_party_kinds a_party_costs a_party_terms a_party_known a_kept a_tape a_telephone a_sheets a_findings v_isKept v_party_size v_party_list v_party_told v_party_kinds v_party_costs v_party_terms k.1 k.2)) fx hf h dX4_price_44
    have hf := it_f c5 hf
    refine lv_aload_n hx hb dX4_price_27 rfl (lv_at hl 1 rfl) ?_
    refine q_ldc fx k_402 dX4_price_28 ?_
    obtain ⟨r7, k7, hg, hf⟩ := bR_inv hf
    refine q_ci (rest := []) (ws' := (wX4_price cI cJ cZ cS a_t a_party a_party_kinds a_party_costs a_party_terms a_party_known a_kept a_tape a_telephone a_sheets a_findings v_isKept v_party_size v_party_list v_party_told v_party_kinds v_party_costs v_party_terms k4 k7)) (w1 := (wX4_found cI cJ cZ cS a_t a_party a_kept a_tape a_telephone a_sheets a_findings v_isKept k7)) fx h [0, 6] rfl rfl rfl rfl (q_runV fx h hl.1 [0, 6] rfl rfl (tX4_found l D cI cJ cZ cS tb a_t a_party a_kept a_tape a_telephone a_sheets a_findings H.size v_isKept v_findings (-1000000004) r7 k7 hg) mvX4_found k_207 ⟨rfl, rfl⟩ ⟨Nat.le_of_ble_eq_true rfl, Nat.le_of_ble_eq_true rfl⟩ rfl rfl rfl rfl (Nat.le_of_ble_eq_true rfl) dX4_price_30 ⟨Nat.le_of_ble_eq_true rfl, Nat.le_of_ble_eq_true rfl⟩) (fun H locs h => ?_)
    refine lv_goto (tgt := 44) hx hb dX4_price_33 (by decide) ?_
    exact q_reti (fun k : (Nat → Int32) × (Nat → Int32) => (wX4_price cI cJ cZ cS a_t a_party a_party_kinds a_party_costs a_party_terms a_party_known a_kept a_tape a_telephone a_sheets a_findings v_isKept v_party_size v_party_list v_party_told v_party_kinds v_party_costs v_party_terms k.1 k.2)) fx hf h dX4_price_44
  have hf := it_f c3 hf
  exact LX4_price_10 fx h (lv_sub hl [0] rfl) hf
/-! X4_spoils -/
abbrev wX4_spoils (cI cJ cZ cS : ClassId) (a_t a_party a_party_kinds a_party_costs a_party_terms a_party_known a_kept a_tape a_telephone a_sheets a_findings : Nat) (v_isKept : Int32) (v_party_size : Int32) (v_party_list : Int32) (v_party_told : Int32) (v_party_kinds : Nat → Int32) (v_party_terms : Nat → Int64) (v_party_known : Nat → Int32) (v_findings : Nat → Int32) : va_W := [(a_t, .inr (4, [.ref a_party, .ref a_kept, .int v_isKept, .ref a_tape, .ref a_telephone, .ref a_sheets, .ref a_findings])), (a_party, .inr (0, [.int v_party_size, .int v_party_list, .int v_party_told, .ref a_party_kinds, .ref a_party_costs, .ref a_party_terms, .ref a_party_known])), (a_party_kinds, .inl (cI, 8, .inl v_party_kinds)), (a_party_terms, .inl (cJ, 32, .inr (.inl v_party_terms))), (a_party_known, .inl (cI, 256, .inl v_party_known)), (a_findings, .inl (cI, 7, .inl v_findings))]
abbrev rX4_spoils : Room := { frames := 5, cells := 0, slots := 0, locals := 115 }
def fX4_spoils_55 (v_party_size : Int32) (v_party_kinds : Nat → Int32) (v_party_terms : Nat → Int64) (ag7 : (Nat → Int32) → (Nat → Int32) → Int32 → Int32 → Int32 → Option (Int32 × (Nat → Int32) × (Nat → Int32))) (v_party_known : Nat → Int32) (v_findings : Nat → Int32) (y1 : Int32) (y2 : Int32) (y3 : Int32) : Option (Int32 × (Nat → Int32) × (Nat → Int32)) :=
  nm (y3 + 1) (fun u1 =>
  ag7 v_party_known v_findings y1 y2 u1)
set_option maxRecDepth 100000 in
set_option maxHeartbeats 4000000 in
theorem LX4_spoils_55 {p : Program} {l : Launch} {e : Env} {s : State} {m : MethodId} {args : Array Value} {below : List Frame} {meth : Method} {c : Code} {D : va_G} {cI cJ cZ cS : ClassId} {tb : Nat} {A : Nat → Prop} {a_t a_party a_party_kinds a_party_costs a_party_terms a_party_known a_kept a_tape a_telephone a_sheets a_findings : Nat} {v_isKept : Int32} {v_party_size : Int32} {v_party_list : Int32} {v_party_told : Int32} {v_party_kinds : Nat → Int32} {v_party_terms : Nat → Int64} {rr : Int32} {kk' : (Nat → Int32) × (Nat → Int32)} (fx : q_Fx p s m args meth c cX4_spoils 5 RX4 (some .int) D cI cJ cZ cS tb A) {ag7 : (Nat → Int32) → (Nat → Int32) → Int32 → Int32 → Int32 → Option (Int32 × (Nat → Int32) × (Nat → Int32))} (hag7 : ∀ {v_party_known : Nat → Int32} {v_findings : Nat → Int32} {y1 : Int32} {y2 : Int32} {y3 : Int32} {H : Heap} {locs : List Loc} {ls : Array Slot}, q_H D A s (wX4_spoils cI cJ cZ cS a_t a_party a_party_kinds a_party_costs a_party_terms a_party_known a_kept a_tape a_telephone a_sheets a_findings v_isKept v_party_size v_party_list v_party_told v_party_kinds v_party_terms v_party_known v_findings) H locs → lv_has ls 5 [(0, .ref a_t), (1, .int y1), (2, .int y2), (3, .int y3)] → ag7 v_party_known v_findings y1 y2 y3 = some (rr, kk') → W p l e rX4_spoils s m args below meth c H locs 0 0 (MQ below (q_Ri D rr A ((fun k : (Nat → Int32) × (Nat → Int32) => (wX4_spoils cI cJ cZ cS a_t a_party a_party_kinds a_party_costs a_party_terms a_party_known a_kept a_tape a_telephone a_sheets a_findings v_isKept v_party_size v_party_list v_party_told v_party_kinds v_party_terms k.1 k.2)) kk')) args s 0 0 A) (F0 m 7 ls [])) : ∀ {v_party_known : Nat → Int32} {v_findings : Nat → Int32} {y1 : Int32} {y2 : Int32} {y3 : Int32} {H : Heap} {locs : List Loc} {ls : Array Slot}, q_H D A s (wX4_spoils cI cJ cZ cS a_t a_party a_party_kinds a_party_costs a_party_terms a_party_known a_kept a_tape a_telephone a_sheets a_findings v_isKept v_party_size v_party_list v_party_told v_party_kinds v_party_terms v_party_known v_findings) H locs → lv_has ls 5 [(0, .ref a_t), (1, .int y1), (2, .int y2), (3, .int y3)] → fX4_spoils_55 v_party_size v_party_kinds v_party_terms ag7 v_party_known v_findings y1 y2 y3 = some (rr, kk') → W p l e rX4_spoils s m args below meth c H locs 0 0 (MQ below (q_Ri D rr A ((fun k : (Nat → Int32) × (Nat → Int32) => (wX4_spoils cI cJ cZ cS a_t a_party a_party_kinds a_party_costs a_party_terms a_party_known a_kept a_tape a_telephone a_sheets a_findings v_isKept v_party_size v_party_list v_party_told v_party_kinds v_party_terms k.1 k.2)) kk')) args s 0 0 A) (F0 m 55 ls []) := by
  intro v_party_known v_findings y1 y2 y3 H locs ls h hl hf
  have hx := fx.1
  have hb := fx.2.1
  unfold fX4_spoils_55 at hf
  obtain ⟨u1, eu1, hf⟩ := nm_inv hf
  refine lv_iinc (v := u1) (lv' := [(3, .int u1), (0, .ref a_t), (1, .int y1), (2, .int y2)]) hx hb dX4_spoils_55 hl (k := 3) rfl (by rw [eu1]; rfl) (by decide) rfl (fun ls hl => ?_)
  refine lv_goto (tgt := 7) hx hb dX4_spoils_58 (by decide) ?_
  exact hag7 h (lv_sub hl [1, 2, 3, 0] rfl) hf
def fX4_spoils_7 (v_party_size : Int32) (v_party_kinds : Nat → Int32) (v_party_terms : Nat → Int64) (ag7 : (Nat → Int32) → (Nat → Int32) → Int32 → Int32 → Int32 → Option (Int32 × (Nat → Int32) × (Nat → Int32))) (v_party_known : Nat → Int32) (v_findings : Nat → Int32) (y1 : Int32) (y2 : Int32) (y3 : Int32) : Option (Int32 × (Nat → Int32) × (Nat → Int32)) :=
  (if v_party_size ≤ y3 then (
  (if (0 : Int32) ≤ y1 then (
  some (y1, (v_party_known, v_findings)))
  else (
  bR (fX4_found v_findings (-1000000004)) (fun r4 k4 =>
  some (r4, (v_party_known, k4))))))
  else (
  bR (fX0_everyone v_party_size) (fun r5 k5 =>
  bR (fX0_lastOf v_party_size v_party_kinds v_party_terms v_party_known 0 (r5 &&& ((jshl 1 y3) ^^^ (-1)))) (fun r6 k6 =>
  bR (fJ6_bitCount_0f7a4 r6) (fun r7 k7 =>
  (if y2 ≤ r7 then (
  fX4_spoils_55 v_party_size v_party_kinds v_party_terms ag7 k6 v_findings y1 y2 y3)
  else (
  fX4_spoils_55 v_party_size v_party_kinds v_party_terms ag7 k6 v_findings y3 r7 y3)))))))
set_option maxRecDepth 100000 in
set_option maxHeartbeats 4000000 in
theorem LX4_spoils_7 {p : Program} {l : Launch} {e : Env} {s : State} {m : MethodId} {args : Array Value} {below : List Frame} {meth : Method} {c : Code} {D : va_G} {cI cJ cZ cS : ClassId} {tb : Nat} {A : Nat → Prop} {a_t a_party a_party_kinds a_party_costs a_party_terms a_party_known a_kept a_tape a_telephone a_sheets a_findings : Nat} {v_isKept : Int32} {v_party_size : Int32} {v_party_list : Int32} {v_party_told : Int32} {v_party_kinds : Nat → Int32} {v_party_terms : Nat → Int64} {rr : Int32} {kk' : (Nat → Int32) × (Nat → Int32)} (fx : q_Fx p s m args meth c cX4_spoils 5 RX4 (some .int) D cI cJ cZ cS tb A) {ag7 : (Nat → Int32) → (Nat → Int32) → Int32 → Int32 → Int32 → Option (Int32 × (Nat → Int32) × (Nat → Int32))} (hag7 : ∀ {v_party_known : Nat → Int32} {v_findings : Nat → Int32} {y1 : Int32} {y2 : Int32} {y3 : Int32} {H : Heap} {locs : List Loc} {ls : Array Slot}, q_H D A s (wX4_spoils cI cJ cZ cS a_t a_party a_party_kinds a_party_costs a_party_terms a_party_known a_kept a_tape a_telephone a_sheets a_findings v_isKept v_party_size v_party_list v_party_told v_party_kinds v_party_terms v_party_known v_findings) H locs → lv_has ls 5 [(0, .ref a_t), (1, .int y1), (2, .int y2), (3, .int y3)] → ag7 v_party_known v_findings y1 y2 y3 = some (rr, kk') → W p l e rX4_spoils s m args below meth c H locs 0 0 (MQ below (q_Ri D rr A ((fun k : (Nat → Int32) × (Nat → Int32) => (wX4_spoils cI cJ cZ cS a_t a_party a_party_kinds a_party_costs a_party_terms a_party_known a_kept a_tape a_telephone a_sheets a_findings v_isKept v_party_size v_party_list v_party_told v_party_kinds v_party_terms k.1 k.2)) kk')) args s 0 0 A) (F0 m 7 ls [])) : ∀ {v_party_known : Nat → Int32} {v_findings : Nat → Int32} {y1 : Int32} {y2 : Int32} {y3 : Int32} {H : Heap} {locs : List Loc} {ls : Array Slot}, q_H D A s (wX4_spoils cI cJ cZ cS a_t a_party a_party_kinds a_party_costs a_party_terms a_party_known a_kept a_tape a_telephone a_sheets a_findings v_isKept v_party_size v_party_list v_party_told v_party_kinds v_party_terms v_party_known v_findings) H locs → lv_has ls 5 [(0, .ref a_t), (1, .int y1), (2, .int y2), (3, .int y3)] → fX4_spoils_7 v_party_size v_party_kinds v_party_terms ag7 v_party_known v_findings y1 y2 y3 = some (rr, kk') → W p l e rX4_spoils s m args below meth c H locs 0 0 (MQ below (q_Ri D rr A ((fun k : (Nat → Int32) × (Nat → Int32) => (wX4_spoils cI cJ cZ cS a_t a_party a_party_kinds a_party_costs a_party_terms a_party_known a_kept a_tape a_telephone a_sheets a_findings v_isKept v_party_size v_party_list v_party_told v_party_kinds v_party_terms k.1 k.2)) kk')) args s 0 0 A) (F0 m 7 ls []) := by
  intro v_party_known v_findings y1 y2 y3 H locs ls h hl hf
  have hx := fx.1
  have hb := fx.2.1
  unfold fX4_spoils_7 at hf
  refine lv_iload_n hx hb dX4_spoils_7 rfl (lv_at hl 3 rfl) ?_
  refine lv_aload_n hx hb dX4_spoils_8 rfl (lv_at hl 0 rfl) ?_
  refine q_get (v := .ref a_party) fx inX4 h 0 rfl rfl 0 (by decide) k_174 rfl dX4_spoils_9 ?_
  refine q_getN (v := .int v_party_size) fx inX0 h 1 rfl rfl 0 (by decide) nf_0 rfl dX4_spoils_12 ?_
  refine lv_icmp_ge (tgt := 61) hx hb dX4_spoils_15 (by decide) (fun c2 => ?_) (fun c2 => ?_)
  · have hf := it_t c2 hf
    refine lv_iload_n hx hb dX4_spoils_61 rfl (lv_at hl 1 rfl) ?_
    refine lv_if_ge (tgt := 74) hx hb dX4_spoils_62 (by decide) (fun c3 => ?_) (fun c3 => ?_)
    · have hf := it_t c3 hf
      refine lv_iload_n hx hb dX4_spoils_74 rfl (lv_at hl 1 rfl) ?_
      exact q_reti (fun k : (Nat → Int32) × (Nat → Int32) => (wX4_spoils cI cJ cZ cS a_t a_party a_party_kinds a_party_costs a_party_terms a_party_known a_kept a_tape a_telephone a_sheets a_findings v_isKept v_party_size v_party_list v_party_told v_party_kinds v_party_terms k.1 k.2)) fx hf h dX4_spoils_75
    have hf := it_f c3 hf
    refine lv_aload_n hx hb dX4_spoils_65 rfl (lv_at hl 0 rfl) ?_
    refine q_ldc fx k_402 dX4_spoils_66 ?_
    obtain ⟨r4, k4, hg, hf⟩ := bR_inv hf
    refine q_ci (rest := []) (ws' := (wX4_spoils cI cJ cZ cS a_t a_party a_party_kinds a_party_costs a_party_terms a_party_known a_kept a_tape a_telephone a_sheets a_findings v_isKept v_party_size v_party_list v_party_told v_party_kinds v_party_terms v_party_known k4)) (w1 := (wX4_found cI cJ cZ cS a_t a_party a_kept a_tape a_telephone a_sheets a_findings v_isKept k4)) fx h [0, 5] rfl rfl rfl rfl (q_runV fx h hl.1 [0, 5] rfl rfl (tX4_found l D cI cJ cZ cS tb a_t a_party a_kept a_tape a_telephone a_sheets a_findings H.size v_isKept v_findings (-1000000004) r4 k4 hg) mvX4_found k_207 ⟨rfl, rfl⟩ ⟨Nat.le_of_ble_eq_true rfl, Nat.le_of_ble_eq_true rfl⟩ rfl rfl rfl rfl (Nat.le_of_ble_eq_true rfl) dX4_spoils_68 ⟨Nat.le_of_ble_eq_true rfl, Nat.le_of_ble_eq_true rfl⟩) (fun H locs h => ?_)
    refine lv_goto (tgt := 75) hx hb dX4_spoils_71 (by decide) ?_
    exact q_reti (fun k : (Nat → Int32) × (Nat → Int32) => (wX4_spoils cI cJ cZ cS a_t a_party a_party_kinds a_party_costs a_party_terms a_party_known a_kept a_tape a_telephone a_sheets a_findings v_isKept v_party_size v_party_list v_party_told v_party_kinds v_party_terms k.1 k.2)) fx hf h dX4_spoils_75
  have hf := it_f c2 hf
  refine lv_aload_n hx hb dX4_spoils_18 rfl (lv_at hl 0 rfl) ?_
  refine q_get (v := .ref a_party) fx inX4 h 0 rfl rfl 0 (by decide) k_174 rfl dX4_spoils_19 ?_
  refine lv_iconst (v := 0) hx hb dX4_spoils_22 (by decide) ?_
  refine lv_aload_n hx hb dX4_spoils_23 rfl (lv_at hl 0 rfl) ?_
  refine q_get (v := .ref a_party) fx inX4 h 0 rfl rfl 0 (by decide) k_174 rfl dX4_spoils_24 ?_
  obtain ⟨r5, k5, hg, hf⟩ := bR_inv hf
  refine q_ci (rest := [.int 0, .ref a_party]) (ws' := (wX4_spoils cI cJ cZ cS a_t a_party a_party_kinds a_party_costs a_party_terms a_party_known a_kept a_tape a_telephone a_sheets a_findings v_isKept v_party_size v_party_list v_party_told v_party_kinds v_party_terms v_party_known v_findings)) (w1 := (wX0_everyone cI cJ cZ cS a_party a_party_kinds a_party_costs a_party_terms a_party_known v_party_size v_party_list v_party_told)) fx h [1] rfl rfl rfl rfl (q_runV fx h hl.1 [1] rfl rfl (tX0_everyone l D cI cJ cZ cS tb a_party a_party_kinds a_party_costs a_party_terms a_party_known H.size v_party_size v_party_list v_party_told r5 k5 hg) mvX0_everyone k_456 ⟨rfl, rfl⟩ ⟨Nat.le_of_ble_eq_true rfl, Nat.le_of_ble_eq_true rfl⟩ rfl rfl rfl rfl (Nat.le_of_ble_eq_true rfl) dX4_spoils_27 ⟨Nat.le_of_ble_eq_true rfl, Nat.le_of_ble_eq_true rfl⟩) (fun H locs h => ?_)
  refine lv_iconst (v := 1) hx hb dX4_spoils_30 (by decide) ?_
  refine lv_iload_n hx hb dX4_spoils_31 rfl (lv_at hl 3 rfl) ?_
  refine lv_ishl hx hb dX4_spoils_32 ?_
  refine lv_iconst (v := -1) hx hb dX4_spoils_33 (by decide) ?_
  refine lv_ixor hx hb dX4_spoils_34 ?_
  refine lv_iand hx hb dX4_spoils_35 ?_
  obtain ⟨r6, k6, hg, hf⟩ := bR_inv hf
  refine q_ci (rest := []) (ws' := (wX4_spoils cI cJ cZ cS a_t a_party a_party_kinds a_party_costs a_party_terms a_party_known a_kept a_tape a_telephone a_sheets a_findings v_isKept v_party_size v_party_list v_party_told v_party_kinds v_party_terms k6 v_findings)) (w1 := (wX0_lastOf cI cJ cZ cS a_party a_party_kinds a_party_costs a_party_terms a_party_known v_party_size v_party_list v_party_told v_party_kinds v_party_terms k6)) fx h [1, 2, 3, 4] rfl rfl rfl rfl (q_runV fx h hl.1 [1, 2, 3, 4] rfl rfl (tX0_lastOf l D cI cJ cZ cS tb a_party a_party_kinds a_party_costs a_party_terms a_party_known H.size v_party_size v_party_list v_party_told v_party_kinds v_party_terms v_party_known 0 (r5 &&& ((jshl 1 y3) ^^^ (-1))) r6 k6 hg) mvX0_lastOf k_479 ⟨rfl, rfl⟩ ⟨Nat.le_of_ble_eq_true rfl, Nat.le_of_ble_eq_true rfl⟩ rfl rfl rfl rfl (Nat.le_of_ble_eq_true rfl) dX4_spoils_36 ⟨Nat.le_of_ble_eq_true rfl, Nat.le_of_ble_eq_true rfl⟩) (fun H locs h => ?_)
  obtain ⟨r7, k7, hg, hf⟩ := bR_inv hf
  refine q_ci (rest := []) (ws' := (wX4_spoils cI cJ cZ cS a_t a_party a_party_kinds a_party_costs a_party_terms a_party_known a_kept a_tape a_telephone a_sheets a_findings v_isKept v_party_size v_party_list v_party_told v_party_kinds v_party_terms k6 v_findings)) (w1 := (wJ6_bitCount_0f7a4 cI cJ cZ cS)) fx h [] rfl rfl rfl rfl (q_runS fx h hl.1 [] rfl rfl (tJ6_bitCount_0f7a4 l D cI cJ cZ cS tb H.size r6 r7 k7 hg) msJ6_bitCount_0f7a4 k_239 ⟨rfl, rfl⟩ ⟨Nat.le_of_ble_eq_true rfl, Nat.le_of_ble_eq_true rfl⟩ rfl rfl (Nat.le_of_ble_eq_true rfl) dX4_spoils_39 ⟨Nat.le_of_ble_eq_true rfl, Nat.le_of_ble_eq_true rfl⟩) (fun H locs h => ?_)
  refine lv_istore (lv' := [(4, .int r7), (0, .ref a_t), (1, .int y1), (2, .int y2), (3, .int y3)]) hx hb dX4_spoils_42 hl (by decide) rfl (fun ls hl => ?_)
  refine lv_iload hx hb dX4_spoils_44 (lv_at hl 0 rfl) ?_
  refine lv_iload_n hx hb dX4_spoils_46 rfl (lv_at hl 3 rfl) ?_
  refine lv_icmp_ge (tgt := 55) hx hb dX4_spoils_47 (by decide) (fun c8 => ?_) (fun c8 => ?_)
  · have hf := it_t c8 hf
    exact LX4_spoils_55 fx hag7 h (lv_sub hl [1, 2, 3, 4] rfl) hf
  have hf := it_f c8 hf
  refine lv_iload hx hb dX4_spoils_50 (lv_at hl 0 rfl) ?_
  refine lv_istore_n (lv' := [(2, .int r7), (4, .int r7), (0, .ref a_t), (1, .int y1), (3, .int y3)]) hx hb dX4_spoils_52 rfl hl (by decide) rfl (fun ls hl => ?_)
  refine lv_iload_n hx hb dX4_spoils_53 rfl (lv_at hl 4 rfl) ?_
  refine lv_istore_n (lv' := [(1, .int y3), (2, .int r7), (4, .int r7), (0, .ref a_t), (3, .int y3)]) hx hb dX4_spoils_54 rfl hl (by decide) rfl (fun ls hl => ?_)
  exact LX4_spoils_55 fx hag7 h (lv_sub hl [3, 0, 1, 4] rfl) hf
set_option maxRecDepth 100000 in
theorem EX4_spoils_7 {p : Program} {l : Launch} {e : Env} {s : State} {m : MethodId} {args : Array Value} {below : List Frame} {meth : Method} {c : Code} {D : va_G} {cI cJ cZ cS : ClassId} {tb : Nat} {A : Nat → Prop} {a_t a_party a_party_kinds a_party_costs a_party_terms a_party_known a_kept a_tape a_telephone a_sheets a_findings : Nat} {v_isKept : Int32} {v_party_size : Int32} {v_party_list : Int32} {v_party_told : Int32} {v_party_kinds : Nat → Int32} {v_party_terms : Nat → Int64} {rr : Int32} {kk' : (Nat → Int32) × (Nat → Int32)} (fx : q_Fx p s m args meth c cX4_spoils 5 RX4 (some .int) D cI cJ cZ cS tb A) : ∀ (n : Nat), ∀ {v_party_known : Nat → Int32} {v_findings : Nat → Int32} {y1 : Int32} {y2 : Int32} {y3 : Int32} {H : Heap} {locs : List Loc} {ls : Array Slot}, q_H D A s (wX4_spoils cI cJ cZ cS a_t a_party a_party_kinds a_party_costs a_party_terms a_party_known a_kept a_tape a_telephone a_sheets a_findings v_isKept v_party_size v_party_list v_party_told v_party_kinds v_party_terms v_party_known v_findings) H locs → lv_has ls 5 [(0, .ref a_t), (1, .int y1), (2, .int y2), (3, .int y3)] → ll5 (fX4_spoils_7 v_party_size v_party_kinds v_party_terms) n v_party_known v_findings y1 y2 y3 = some (rr, kk') → W p l e rX4_spoils s m args below meth c H locs 0 0 (MQ below (q_Ri D rr A ((fun k : (Nat → Int32) × (Nat → Int32) => (wX4_spoils cI cJ cZ cS a_t a_party a_party_kinds a_party_costs a_party_terms a_party_known a_kept a_tape a_telephone a_sheets a_findings v_isKept v_party_size v_party_list v_party_told v_party_kinds v_party_terms k.1 k.2)) kk')) args s 0 0 A) (F0 m 7 ls []) := by
  intro n
  induction n with
  | zero => intro v_party_known v_findings y1 y2 y3 H locs ls h hl hf; exact (ll5_z hf).elim
  | succ n ih => intro v_party_known v_findings y1 y2 y3 H locs ls h hl hf; exact LX4_spoils_7 fx ih h hl (ll5_s hf)
def fX4_spoils (v_party_size : Int32) (v_party_kinds : Nat → Int32) (v_party_terms : Nat → Int64) (v_party_known : Nat → Int32) (v_findings : Nat → Int32) : Option (Int32 × (Nat → Int32) × (Nat → Int32)) :=
  ll5 (fX4_spoils_7 v_party_size v_party_kinds v_party_terms) qF v_party_known v_findings (-1) 9 0
set_option maxRecDepth 100000 in
set_option maxHeartbeats 4000000 in
theorem tX4_spoils (l : Launch) (D : va_G) (cI cJ cZ cS : ClassId) (tb : Nat) (a_t a_party a_party_kinds a_party_costs a_party_terms a_party_known a_kept a_tape a_telephone a_sheets a_findings : Nat) (sz : Nat) (v_isKept : Int32) (v_party_size : Int32) (v_party_list : Int32) (v_party_told : Int32) (v_party_kinds : Nat → Int32) (v_party_terms : Nat → Int64) (v_party_known : Nat → Int32) (v_findings : Nat → Int32) (rr : Int32) (kk' : (Nat → Int32) × (Nat → Int32)) (hf : fX4_spoils v_party_size v_party_kinds v_party_terms v_party_known v_findings = some (rr, kk')) : Met l yX4_spoils (Cond.code yX4_spoils cX4_spoils 5 (some .int) :: wA) rX4_spoils (q_Pre D cI cJ cZ cS tb [.ref a_t] sz (wX4_spoils cI cJ cZ cS a_t a_party a_party_kinds a_party_costs a_party_terms a_party_known a_kept a_tape a_telephone a_sheets a_findings v_isKept v_party_size v_party_list v_party_told v_party_kinds v_party_terms v_party_known v_findings)) (q_Ri D rr (va_A (wX4_spoils cI cJ cZ cS a_t a_party a_party_kinds a_party_costs a_party_terms a_party_known a_kept a_tape a_telephone a_sheets a_findings v_isKept v_party_size v_party_list v_party_told v_party_kinds v_party_terms v_party_known v_findings) sz) ((fun k : (Nat → Int32) × (Nat → Int32) => (wX4_spoils cI cJ cZ cS a_t a_party a_party_kinds a_party_costs a_party_terms a_party_known a_kept a_tape a_telephone a_sheets a_findings v_isKept v_party_size v_party_list v_party_told v_party_kinds v_party_terms k.1 k.2)) kk')) 0 0 (va_A (wX4_spoils cI cJ cZ cS a_t a_party a_party_kinds a_party_costs a_party_terms a_party_known a_kept a_tape a_telephone a_sheets a_findings v_isKept v_party_size v_party_list v_party_told v_party_kinds v_party_terms v_party_known v_findings) sz) := by
  refine q_enter (Qf := fun A => (q_Ri D rr A ((fun k : (Nat → Int32) × (Nat → Int32) => (wX4_spoils cI cJ cZ cS a_t a_party a_party_kinds a_party_costs a_party_terms a_party_known a_kept a_tape a_telephone a_sheets a_findings v_isKept v_party_size v_party_list v_party_told v_party_kinds v_party_terms k.1 k.2)) kk'))) (by decide) rfl (Nat.le_of_ble_eq_true rfl) ?_
  intro p e s m below meth c A ls fx hname h hl
  have hx := fx.1
  have hb := fx.2.1
  have hl : lv_has ls 5 [(0, .ref a_t)] := hl
  generalize h9 : s.heap = H at h ⊢
  clear h9
  generalize h9 : ([] : List Loc) = locs at h ⊢
  clear h9
  unfold fX4_spoils at hf
  refine lv_iconst (v := -1) hx hb dX4_spoils_0 (by decide) ?_
  refine lv_istore_n (lv' := [(1, .int (-1)), (0, .ref a_t)]) hx hb dX4_spoils_1 rfl hl (by decide) rfl (fun ls hl => ?_)
  refine lv_bipush (v := 9) hx hb dX4_spoils_2 (by decide) ?_
  refine lv_istore_n (lv' := [(2, .int 9), (1, .int (-1)), (0, .ref a_t)]) hx hb dX4_spoils_4 rfl hl (by decide) rfl (fun ls hl => ?_)
  refine lv_iconst (v := 0) hx hb dX4_spoils_5 (by decide) ?_
  refine lv_istore_n (lv' := [(3, .int 0), (2, .int 9), (1, .int (-1)), (0, .ref a_t)]) hx hb dX4_spoils_6 rfl hl (by decide) rfl (fun ls hl => ?_)
  exact EX4_spoils_7 fx qF h (lv_sub hl [3, 2, 1, 0] rfl) hf
/-! X4_isWellAsked -/
abbrev wX4_isWellAsked (cI cJ cZ cS : ClassId) (a_t a_party a_party_kinds a_party_costs a_party_terms a_party_known a_kept a_tape a_telephone a_sheets a_findings : Nat) (v_isKept : Int32) (v_party_size : Int32) (v_party_list : Int32) (v_party_told : Int32) (v_party_kinds : Nat → Int32) (v_party_terms : Nat → Int64) (v_party_known : Nat → Int32) : va_W := [(a_t, .inr (4, [.ref a_party, .ref a_kept, .int v_isKept, .ref a_tape, .ref a_telephone, .ref a_sheets, .ref a_findings])), (a_party, .inr (0, [.int v_party_size, .int v_party_list, .int v_party_told, .ref a_party_kinds, .ref a_party_costs, .ref a_party_terms, .ref a_party_known])), (a_party_kinds, .inl (cI, 8, .inl v_party_kinds)), (a_party_terms, .inl (cJ, 32, .inr (.inl v_party_terms))), (a_party_known, .inl (cI, 256, .inl v_party_known))]
abbrev rX4_isWellAsked : Room := { frames := 5, cells := 0, slots := 0, locals := 115 }
def fX4_isWellAsked (v_party_size : Int32) (v_party_kinds : Nat → Int32) (v_party_terms : Nat → Int64) (v_party_known : Nat → Int32) (x1 : Int32) (x2 : Int32) (x3 : Int32) : Option (Int32 × (Nat → Int32)) :=
  bR (fX0_lastOf v_party_size v_party_kinds v_party_terms v_party_known 0 x1) (fun r1 k1 =>
  bR (fJ6_bitCount_0f7a4 r1) (fun r2 k2 =>
  (if r2 < x2 then (
  some (0, k1))
  else (
  (if x3 < r2 then (
  some (0, k1))
  else (
  bR (fX0_comers v_party_size v_party_kinds v_party_terms k1 r1) (fun r5 k5 =>
  (if (r5 &&& x1) = r1 then (
  some (1, k5))
  else (
  some (0, k5))))))))))
set_option maxRecDepth 100000 in
set_option maxHeartbeats 4000000 in
theorem tX4_isWellAsked (l : Launch) (D : va_G) (cI cJ cZ cS : ClassId) (tb : Nat) (a_t a_party a_party_kinds a_party_costs a_party_terms a_party_known a_kept a_tape a_telephone a_sheets a_findings : Nat) (sz : Nat) (v_isKept : Int32) (v_party_size : Int32) (v_party_list : Int32) (v_party_told : Int32) (v_party_kinds : Nat → Int32) (v_party_terms : Nat → Int64) (v_party_known : Nat → Int32) (x1 : Int32) (x2 : Int32) (x3 : Int32) (rr : Int32) (kk' : (Nat → Int32)) (hf : fX4_isWellAsked v_party_size v_party_kinds v_party_terms v_party_known x1 x2 x3 = some (rr, kk')) : Met l yX4_isWellAsked (Cond.code yX4_isWellAsked cX4_isWellAsked 6 (some .boolean) :: wA) rX4_isWellAsked (q_Pre D cI cJ cZ cS tb [.ref a_t, .int x1, .int x2, .int x3] sz (wX4_isWellAsked cI cJ cZ cS a_t a_party a_party_kinds a_party_costs a_party_terms a_party_known a_kept a_tape a_telephone a_sheets a_findings v_isKept v_party_size v_party_list v_party_told v_party_kinds v_party_terms v_party_known)) (q_Ri D rr (va_A (wX4_isWellAsked cI cJ cZ cS a_t a_party a_party_kinds a_party_costs a_party_terms a_party_known a_kept a_tape a_telephone a_sheets a_findings v_isKept v_party_size v_party_list v_party_told v_party_kinds v_party_terms v_party_known) sz) ((fun k : (Nat → Int32) => (wX4_isWellAsked cI cJ cZ cS a_t a_party a_party_kinds a_party_costs a_party_terms a_party_known a_kept a_tape a_telephone a_sheets a_findings v_isKept v_party_size v_party_list v_party_told v_party_kinds v_party_terms k)) kk')) 0 0 (va_A (wX4_isWellAsked cI cJ cZ cS a_t a_party a_party_kinds a_party_costs a_party_terms a_party_known a_kept a_tape a_telephone a_sheets a_findings v_isKept v_party_size v_party_list v_party_told v_party_kinds v_party_terms v_party_known) sz) := by
  refine q_enter (Qf := fun A => (q_Ri D rr A ((fun k : (Nat → Int32) => (wX4_isWellAsked cI cJ cZ cS a_t a_party a_party_kinds a_party_costs a_party_terms a_party_known a_kept a_tape a_telephone a_sheets a_findings v_isKept v_party_size v_party_list v_party_told v_party_kinds v_party_terms k)) kk'))) (by decide) rfl (Nat.le_of_ble_eq_true rfl) ?_
  intro p e s m below meth c A ls fx hname h hl
  have hx := fx.1
  have hb := fx.2.1
  have hl : lv_has ls 6 [(0, .ref a_t), (1, .int x1), (2, .int x2), (3, .int x3)] := hl
  generalize h9 : s.heap = H at h ⊢
  clear h9
  generalize h9 : ([] : List Loc) = locs at h ⊢
  clear h9
  unfold fX4_isWellAsked at hf
  refine lv_aload_n hx hb dX4_isWellAsked_0 rfl (lv_at hl 0 rfl) ?_
  refine q_get (v := .ref a_party) fx inX4 h 0 rfl rfl 0 (by decide) k_174 rfl dX4_isWellAsked_1 ?_
  refine lv_iconst (v := 0) hx hb dX4_isWellAsked_4 (by decide) ?_
  refine lv_iload_n hx hb dX4_isWellAsked_5 rfl (lv_at hl 1 rfl) ?_
  obtain ⟨r1, k1, hg, hf⟩ := bR_inv hf
  refine q_ci (rest := []) (ws' := (wX4_isWellAsked cI cJ cZ cS a_t a_party a_party_kinds a_party_costs a_party_terms a_party_known a_kept a_tape a_telephone a_sheets a_findings v_isKept v_party_size v_party_list v_party_told v_party_kinds v_party_terms k1)) (w1 := (wX0_lastOf cI cJ cZ cS a_party a_party_kinds a_party_costs a_party_terms a_party_known v_party_size v_party_list v_party_told v_party_kinds v_party_terms k1)) fx h [1, 2, 3, 4] rfl rfl rfl rfl (q_runV fx h hl.1 [1, 2, 3, 4] rfl rfl (tX0_lastOf l D cI cJ cZ cS tb a_party a_party_kinds a_party_costs a_party_terms a_party_known H.size v_party_size v_party_list v_party_told v_party_kinds v_party_terms v_party_known 0 x1 r1 k1 hg) mvX0_lastOf k_479 ⟨rfl, rfl⟩ ⟨Nat.le_of_ble_eq_true rfl, Nat.le_of_ble_eq_true rfl⟩ rfl rfl rfl rfl (Nat.le_of_ble_eq_true rfl) dX4_isWellAsked_6 ⟨Nat.le_of_ble_eq_true rfl, Nat.le_of_ble_eq_true rfl⟩) (fun H locs h => ?_)
  refine lv_istore (lv' := [(4, .int r1), (0, .ref a_t), (1, .int x1), (2, .int x2), (3, .int x3)]) hx hb dX4_isWellAsked_9 hl (by decide) rfl (fun ls hl => ?_)
  refine lv_iload hx hb dX4_isWellAsked_11 (lv_at hl 0 rfl) ?_
  obtain ⟨r2, k2, hg, hf⟩ := bR_inv hf
  refine q_ci (rest := []) (ws' := (wX4_isWellAsked cI cJ cZ cS a_t a_party a_party_kinds a_party_costs a_party_terms a_party_known a_kept a_tape a_telephone a_sheets a_findings v_isKept v_party_size v_party_list v_party_told v_party_kinds v_party_terms k1)) (w1 := (wJ6_bitCount_0f7a4 cI cJ cZ cS)) fx h [] rfl rfl rfl rfl (q_runS fx h hl.1 [] rfl rfl (tJ6_bitCount_0f7a4 l D cI cJ cZ cS tb H.size r1 r2 k2 hg) msJ6_bitCount_0f7a4 k_239 ⟨rfl, rfl⟩ ⟨Nat.le_of_ble_eq_true rfl, Nat.le_of_ble_eq_true rfl⟩ rfl rfl (Nat.le_of_ble_eq_true rfl) dX4_isWellAsked_13 ⟨Nat.le_of_ble_eq_true rfl, Nat.le_of_ble_eq_true rfl⟩) (fun H locs h => ?_)
  refine lv_istore (lv' := [(5, .int r2), (4, .int r1), (0, .ref a_t), (1, .int x1), (2, .int x2), (3, .int x3)]) hx hb dX4_isWellAsked_16 hl (by decide) rfl (fun ls hl => ?_)
  refine lv_iload hx hb dX4_isWellAsked_18 (lv_at hl 0 rfl) ?_
  refine lv_iload_n hx hb dX4_isWellAsked_20 rfl (lv_at hl 4 rfl) ?_
  refine lv_icmp_lt (tgt := 50) hx hb dX4_isWellAsked_21 (by decide) (fun c3 => ?_) (fun c3 => ?_)
  · have hf := it_t c3 hf
    refine lv_iconst (v := 0) hx hb dX4_isWellAsked_50 (by decide) ?_
    exact q_retz (fun k : (Nat → Int32) => (wX4_isWellAsked cI cJ cZ cS a_t a_party a_party_kinds a_party_costs a_party_terms a_party_known a_kept a_tape a_telephone a_sheets a_findings v_isKept v_party_size v_party_list v_party_told v_party_kinds v_party_terms k)) fx rfl hf h dX4_isWellAsked_51
  have hf := it_f c3 hf
  refine lv_iload hx hb dX4_isWellAsked_24 (lv_at hl 0 rfl) ?_
  refine lv_iload_n hx hb dX4_isWellAsked_26 rfl (lv_at hl 5 rfl) ?_
  refine lv_icmp_gt (tgt := 50) hx hb dX4_isWellAsked_27 (by decide) (fun c4 => ?_) (fun c4 => ?_)
  · have hf := it_t c4 hf
    refine lv_iconst (v := 0) hx hb dX4_isWellAsked_50 (by decide) ?_
    exact q_retz (fun k : (Nat → Int32) => (wX4_isWellAsked cI cJ cZ cS a_t a_party a_party_kinds a_party_costs a_party_terms a_party_known a_kept a_tape a_telephone a_sheets a_findings v_isKept v_party_size v_party_list v_party_told v_party_kinds v_party_terms k)) fx rfl hf h dX4_isWellAsked_51
  have hf := it_f c4 hf
  refine lv_aload_n hx hb dX4_isWellAsked_30 rfl (lv_at hl 2 rfl) ?_
  refine q_get (v := .ref a_party) fx inX4 h 0 rfl rfl 0 (by decide) k_174 rfl dX4_isWellAsked_31 ?_
  refine lv_iload hx hb dX4_isWellAsked_34 (lv_at hl 1 rfl) ?_
  obtain ⟨r5, k5, hg, hf⟩ := bR_inv hf
  refine q_ci (rest := []) (ws' := (wX4_isWellAsked cI cJ cZ cS a_t a_party a_party_kinds a_party_costs a_party_terms a_party_known a_kept a_tape a_telephone a_sheets a_findings v_isKept v_party_size v_party_list v_party_told v_party_kinds v_party_terms k5)) (w1 := (wX0_comers cI cJ cZ cS a_party a_party_kinds a_party_costs a_party_terms a_party_known v_party_size v_party_list v_party_told v_party_kinds v_party_terms k5)) fx h [1, 2, 3, 4] rfl rfl rfl rfl (q_runV fx h hl.1 [1, 2, 3, 4] rfl rfl (tX0_comers l D cI cJ cZ cS tb a_party a_party_kinds a_party_costs a_party_terms a_party_known H.size v_party_size v_party_list v_party_told v_party_kinds v_party_terms k1 r1 r5 k5 hg) mvX0_comers k_224 ⟨rfl, rfl⟩ ⟨Nat.le_of_ble_eq_true rfl, Nat.le_of_ble_eq_true rfl⟩ rfl rfl rfl rfl (Nat.le_of_ble_eq_true rfl) dX4_isWellAsked_36 ⟨Nat.le_of_ble_eq_true rfl, Nat.le_of_ble_eq_true rfl⟩) (fun H locs h => ?_)
  refine lv_iload_n hx hb dX4_isWellAsked_39 rfl (lv_at hl 3 rfl) ?_
  refine lv_iand hx hb dX4_isWellAsked_40 ?_
  refine lv_iload hx hb dX4_isWellAsked_41 (lv_at hl 1 rfl) ?_
  refine lv_icmp_ne (tgt := 50) hx hb dX4_isWellAsked_43 (by decide) (fun c6 => ?_) (fun c6 => ?_)
  · have hf := it_f c6 hf
    refine lv_iconst (v := 0) hx hb dX4_isWellAsked_50 (by decide) ?_
    exact q_retz (fun k : (Nat → Int32) => (wX4_isWellAsked cI cJ cZ cS a_t a_party a_party_kinds a_party_costs a_party_terms a_party_known a_kept a_tape a_telephone a_sheets a_findings v_isKept v_party_size v_party_list v_party_told v_party_kinds v_party_terms k)) fx rfl hf h dX4_isWellAsked_51
  have hf := it_t c6 hf
  refine lv_iconst (v := 1) hx hb dX4_isWellAsked_46 (by decide) ?_
  refine lv_goto (tgt := 51) hx hb dX4_isWellAsked_47 (by decide) ?_
  exact q_retz (fun k : (Nat → Int32) => (wX4_isWellAsked cI cJ cZ cS a_t a_party a_party_kinds a_party_costs a_party_terms a_party_known a_kept a_tape a_telephone a_sheets a_findings v_isKept v_party_size v_party_list v_party_told v_party_kinds v_party_terms k)) fx rfl hf h dX4_isWellAsked_51
/-! X4_invites -/
abbrev wX4_invites (cI cJ cZ cS : ClassId) (a_t a_party a_party_kinds a_party_costs a_party_terms a_party_known a_kept a_tape a_telephone a_sheets a_findings : Nat) (v_isKept : Int32) (v_party_size : Int32) (v_party_list : Int32) (v_party_told : Int32) (v_party_kinds : Nat → Int32) (v_party_terms : Nat → Int64) (v_party_known : Nat → Int32) (v_findings : Nat → Int32) : va_W := [(a_t, .inr (4, [.ref a_party, .ref a_kept, .int v_isKept, .ref a_tape, .ref a_telephone, .ref a_sheets, .ref a_findings])), (a_party, .inr (0, [.int v_party_size, .int v_party_list, .int v_party_told, .ref a_party_kinds, .ref a_party_costs, .ref a_party_terms, .ref a_party_known])), (a_party_kinds, .inl (cI, 8, .inl v_party_kinds)), (a_party_terms, .inl (cJ, 32, .inr (.inl v_party_terms))), (a_party_known, .inl (cI, 256, .inl v_party_known)), (a_findings, .inl (cI, 7, .inl v_findings))]
abbrev rX4_invites : Room := { frames := 6, cells := 0, slots := 0, locals := 140 }
def fX4_invites_81 (v_party_size : Int32) (v_party_kinds : Nat → Int32) (v_party_terms : Nat → Int64) (ag27 : (Nat → Int32) → (Nat → Int32) → Int32 → Int32 → Int32 → Int32 → Option (Int32 × (Nat → Int32) × (Nat → Int32))) (v_party_known : Nat → Int32) (v_findings : Nat → Int32) (y1 : Int32) (y2 : Int32) (y3 : Int32) (y4 : Int32) : Option (Int32 × (Nat → Int32) × (Nat → Int32)) :=
  nm (y4 + 1) (fun u1 =>
  ag27 v_party_known v_findings y1 y2 y3 u1)
set_option maxRecDepth 100000 in
set_option maxHeartbeats 4000000 in
theorem LX4_invites_81 {p : Program} {l : Launch} {e : Env} {s : State} {m : MethodId} {args : Array Value} {below : List Frame} {meth : Method} {c : Code} {D : va_G} {cI cJ cZ cS : ClassId} {tb : Nat} {A : Nat → Prop} {a_t a_party a_party_kinds a_party_costs a_party_terms a_party_known a_kept a_tape a_telephone a_sheets a_findings : Nat} {v_isKept : Int32} {v_party_size : Int32} {v_party_list : Int32} {v_party_told : Int32} {v_party_kinds : Nat → Int32} {v_party_terms : Nat → Int64} {rr : Int32} {kk' : (Nat → Int32) × (Nat → Int32)} (fx : q_Fx p s m args meth c cX4_invites 6 RX4 (some .int) D cI cJ cZ cS tb A) {ag27 : (Nat → Int32) → (Nat → Int32) → Int32 → Int32 → Int32 → Int32 → Option (Int32 × (Nat → Int32) × (Nat → Int32))} (hag27 : ∀ {v_party_known : Nat → Int32} {v_findings : Nat → Int32} {y1 : Int32} {y2 : Int32} {y3 : Int32} {y4 : Int32} {H : Heap} {locs : List Loc} {ls : Array Slot}, q_H D A s (wX4_invites cI cJ cZ cS a_t a_party a_party_kinds a_party_costs a_party_terms a_party_known a_kept a_tape a_telephone a_sheets a_findings v_isKept v_party_size v_party_list v_party_told v_party_kinds v_party_terms v_party_known v_findings) H locs → lv_has ls 6 [(0, .ref a_t), (1, .int y1), (2, .int y2), (3, .int y3), (4, .int y4)] → ag27 v_party_known v_findings y1 y2 y3 y4 = some (rr, kk') → W p l e rX4_invites s m args below meth c H locs 0 0 (MQ below (q_Ri D rr A ((fun k : (Nat → Int32) × (Nat → Int32) => (wX4_invites cI cJ cZ cS a_t a_party a_party_kinds a_party_costs a_party_terms a_party_known a_kept a_tape a_telephone a_sheets a_findings v_isKept v_party_size v_party_list v_party_told v_party_kinds v_party_terms k.1 k.2)) kk')) args s 0 0 A) (F0 m 27 ls [])) : ∀ {v_party_known : Nat → Int32} {v_findings : Nat → Int32} {y1 : Int32} {y2 : Int32} {y3 : Int32} {y4 : Int32} {H : Heap} {locs : List Loc} {ls : Array Slot}, q_H D A s (wX4_invites cI cJ cZ cS a_t a_party a_party_kinds a_party_costs a_party_terms a_party_known a_kept a_tape a_telephone a_sheets a_findings v_isKept v_party_size v_party_list v_party_told v_party_kinds v_party_terms v_party_known v_findings) H locs → lv_has ls 6 [(0, .ref a_t), (1, .int y1), (2, .int y2), (3, .int y3), (4, .int y4)] → fX4_invites_81 v_party_size v_party_kinds v_party_terms ag27 v_party_known v_findings y1 y2 y3 y4 = some (rr, kk') → W p l e rX4_invites s m args below meth c H locs 0 0 (MQ below (q_Ri D rr A ((fun k : (Nat → Int32) × (Nat → Int32) => (wX4_invites cI cJ cZ cS a_t a_party a_party_kinds a_party_costs a_party_terms a_party_known a_kept a_tape a_telephone a_sheets a_findings v_isKept v_party_size v_party_list v_party_told v_party_kinds v_party_terms k.1 k.2)) kk')) args s 0 0 A) (F0 m 81 ls []) := by
  intro v_party_known v_findings y1 y2 y3 y4 H locs ls h hl hf
  have hx := fx.1
  have hb := fx.2.1
  unfold fX4_invites_81 at hf
  obtain ⟨u1, eu1, hf⟩ := nm_inv hf
  refine lv_iinc (v := u1) (lv' := [(4, .int u1), (0, .ref a_t), (1, .int y1), (2, .int y2), (3, .int y3)]) hx hb dX4_invites_81 hl (k := 4) rfl (by rw [eu1]; rfl) (by decide) rfl (fun ls hl => ?_)
  refine lv_goto (tgt := 27) hx hb dX4_invites_84 (by decide) ?_
  exact hag27 h (lv_sub hl [1, 2, 3, 4, 0] rfl) hf
def fX4_invites_60 (v_party_size : Int32) (v_party_kinds : Nat → Int32) (v_party_terms : Nat → Int64) (ag27 : (Nat → Int32) → (Nat → Int32) → Int32 → Int32 → Int32 → Int32 → Option (Int32 × (Nat → Int32) × (Nat → Int32))) (v_party_known : Nat → Int32) (v_findings : Nat → Int32) (s0 : Int32) (y1 : Int32) (y2 : Int32) (y3 : Int32) (y4 : Int32) : Option (Int32 × (Nat → Int32) × (Nat → Int32)) :=
  (if s0 = 0 then (
  fX4_invites_81 v_party_size v_party_kinds v_party_terms ag27 v_party_known v_findings y1 y2 y3 y4)
  else (
  bR (fX4_isWellAsked v_party_size v_party_kinds v_party_terms v_party_known y4 y1 y2) (fun r3 k3 =>
  (if r3 = 0 then (
  fX4_invites_81 v_party_size v_party_kinds v_party_terms ag27 k3 v_findings y1 y2 y3 y4)
  else (
  fX4_invites_81 v_party_size v_party_kinds v_party_terms ag27 k3 v_findings y1 y2 y4 y4)))))
set_option maxRecDepth 100000 in
set_option maxHeartbeats 4000000 in
theorem LX4_invites_60 {p : Program} {l : Launch} {e : Env} {s : State} {m : MethodId} {args : Array Value} {below : List Frame} {meth : Method} {c : Code} {D : va_G} {cI cJ cZ cS : ClassId} {tb : Nat} {A : Nat → Prop} {a_t a_party a_party_kinds a_party_costs a_party_terms a_party_known a_kept a_tape a_telephone a_sheets a_findings : Nat} {v_isKept : Int32} {v_party_size : Int32} {v_party_list : Int32} {v_party_told : Int32} {v_party_kinds : Nat → Int32} {v_party_terms : Nat → Int64} {rr : Int32} {kk' : (Nat → Int32) × (Nat → Int32)} (fx : q_Fx p s m args meth c cX4_invites 6 RX4 (some .int) D cI cJ cZ cS tb A) {ag27 : (Nat → Int32) → (Nat → Int32) → Int32 → Int32 → Int32 → Int32 → Option (Int32 × (Nat → Int32) × (Nat → Int32))} (hag27 : ∀ {v_party_known : Nat → Int32} {v_findings : Nat → Int32} {y1 : Int32} {y2 : Int32} {y3 : Int32} {y4 : Int32} {H : Heap} {locs : List Loc} {ls : Array Slot}, q_H D A s (wX4_invites cI cJ cZ cS a_t a_party a_party_kinds a_party_costs a_party_terms a_party_known a_kept a_tape a_telephone a_sheets a_findings v_isKept v_party_size v_party_list v_party_told v_party_kinds v_party_terms v_party_known v_findings) H locs → lv_has ls 6 [(0, .ref a_t), (1, .int y1), (2, .int y2), (3, .int y3), (4, .int y4)] → ag27 v_party_known v_findings y1 y2 y3 y4 = some (rr, kk') → W p l e rX4_invites s m args below meth c H locs 0 0 (MQ below (q_Ri D rr A ((fun k : (Nat → Int32) × (Nat → Int32) => (wX4_invites cI cJ cZ cS a_t a_party a_party_kinds a_party_costs a_party_terms a_party_known a_kept a_tape a_telephone a_sheets a_findings v_isKept v_party_size v_party_list v_party_told v_party_kinds v_party_terms k.1 k.2)) kk')) args s 0 0 A) (F0 m 27 ls [])) : ∀ {v_party_known : Nat → Int32} {v_findings : Nat → Int32} {s0 : Int32} {y1 : Int32} {y2 : Int32} {y3 : Int32} {y4 : Int32} {H : Heap} {locs : List Loc} {ls : Array Slot}, q_H D A s (wX4_invites cI cJ cZ cS a_t a_party a_party_kinds a_party_costs a_party_terms a_party_known a_kept a_tape a_telephone a_sheets a_findings v_isKept v_party_size v_party_list v_party_told v_party_kinds v_party_terms v_party_known v_findings) H locs → lv_has ls 6 [(0, .ref a_t), (1, .int y1), (2, .int y2), (3, .int y3), (4, .int y4)] → fX4_invites_60 v_party_size v_party_kinds v_party_terms ag27 v_party_known v_findings s0 y1 y2 y3 y4 = some (rr, kk') → W p l e rX4_invites s m args below meth c H locs 0 0 (MQ below (q_Ri D rr A ((fun k : (Nat → Int32) × (Nat → Int32) => (wX4_invites cI cJ cZ cS a_t a_party a_party_kinds a_party_costs a_party_terms a_party_known a_kept a_tape a_telephone a_sheets a_findings v_isKept v_party_size v_party_list v_party_told v_party_kinds v_party_terms k.1 k.2)) kk')) args s 0 0 A) (F0 m 60 ls [.int s0]) := by
  intro v_party_known v_findings s0 y1 y2 y3 y4 H locs ls h hl hf
  have hx := fx.1
  have hb := fx.2.1
  unfold fX4_invites_60 at hf
  refine lv_istore (lv' := [(5, .int s0), (0, .ref a_t), (1, .int y1), (2, .int y2), (3, .int y3), (4, .int y4)]) hx hb dX4_invites_60 hl (by decide) rfl (fun ls hl => ?_)
  refine lv_iload hx hb dX4_invites_62 (lv_at hl 0 rfl) ?_
  refine lv_if_eq (tgt := 81) hx hb dX4_invites_64 (by decide) (fun c2 => ?_) (fun c2 => ?_)
  · have hf := it_t c2 hf
    exact LX4_invites_81 fx hag27 h (lv_sub hl [1, 2, 3, 4, 5] rfl) hf
  have hf := it_f c2 hf
  refine lv_aload_n hx hb dX4_invites_67 rfl (lv_at hl 1 rfl) ?_
  refine lv_iload hx hb dX4_invites_68 (lv_at hl 5 rfl) ?_
  refine lv_iload_n hx hb dX4_invites_70 rfl (lv_at hl 2 rfl) ?_
  refine lv_iload_n hx hb dX4_invites_71 rfl (lv_at hl 3 rfl) ?_
  obtain ⟨r3, k3, hg, hf⟩ := bR_inv hf
  refine q_ci (rest := []) (ws' := (wX4_invites cI cJ cZ cS a_t a_party a_party_kinds a_party_costs a_party_terms a_party_known a_kept a_tape a_telephone a_sheets a_findings v_isKept v_party_size v_party_list v_party_told v_party_kinds v_party_terms k3 v_findings)) (w1 := (wX4_isWellAsked cI cJ cZ cS a_t a_party a_party_kinds a_party_costs a_party_terms a_party_known a_kept a_tape a_telephone a_sheets a_findings v_isKept v_party_size v_party_list v_party_told v_party_kinds v_party_terms k3)) fx h [0, 1, 2, 3, 4] rfl rfl rfl rfl (q_runV fx h hl.1 [0, 1, 2, 3, 4] rfl rfl (tX4_isWellAsked l D cI cJ cZ cS tb a_t a_party a_party_kinds a_party_costs a_party_terms a_party_known a_kept a_tape a_telephone a_sheets a_findings H.size v_isKept v_party_size v_party_list v_party_told v_party_kinds v_party_terms v_party_known y4 y1 y2 r3 k3 hg) mvX4_isWellAsked k_507 ⟨rfl, rfl⟩ ⟨Nat.le_of_ble_eq_true rfl, Nat.le_of_ble_eq_true rfl⟩ rfl rfl rfl rfl (Nat.le_of_ble_eq_true rfl) dX4_invites_72 ⟨Nat.le_of_ble_eq_true rfl, Nat.le_of_ble_eq_true rfl⟩) (fun H locs h => ?_)
  refine lv_if_eq (tgt := 81) hx hb dX4_invites_75 (by decide) (fun c4 => ?_) (fun c4 => ?_)
  · have hf := it_t c4 hf
    exact LX4_invites_81 fx hag27 h (lv_sub hl [1, 2, 3, 4, 5] rfl) hf
  have hf := it_f c4 hf
  refine lv_iload hx hb dX4_invites_78 (lv_at hl 5 rfl) ?_
  refine lv_istore_n (lv' := [(3, .int y4), (5, .int s0), (0, .ref a_t), (1, .int y1), (2, .int y2), (4, .int y4)]) hx hb dX4_invites_80 rfl hl (by decide) rfl (fun ls hl => ?_)
  exact LX4_invites_81 fx hag27 h (lv_sub hl [2, 3, 4, 0, 5] rfl) hf
def fX4_invites_55 (v_party_size : Int32) (v_party_kinds : Nat → Int32) (v_party_terms : Nat → Int64) (ag27 : (Nat → Int32) → (Nat → Int32) → Int32 → Int32 → Int32 → Int32 → Option (Int32 × (Nat → Int32) × (Nat → Int32))) (v_party_known : Nat → Int32) (v_findings : Nat → Int32) (y1 : Int32) (y2 : Int32) (y3 : Int32) (y4 : Int32) : Option (Int32 × (Nat → Int32) × (Nat → Int32)) :=
  fX4_invites_60 v_party_size v_party_kinds v_party_terms ag27 v_party_known v_findings 1 y1 y2 y3 y4
set_option maxRecDepth 100000 in
set_option maxHeartbeats 4000000 in
theorem LX4_invites_55 {p : Program} {l : Launch} {e : Env} {s : State} {m : MethodId} {args : Array Value} {below : List Frame} {meth : Method} {c : Code} {D : va_G} {cI cJ cZ cS : ClassId} {tb : Nat} {A : Nat → Prop} {a_t a_party a_party_kinds a_party_costs a_party_terms a_party_known a_kept a_tape a_telephone a_sheets a_findings : Nat} {v_isKept : Int32} {v_party_size : Int32} {v_party_list : Int32} {v_party_told : Int32} {v_party_kinds : Nat → Int32} {v_party_terms : Nat → Int64} {rr : Int32} {kk' : (Nat → Int32) × (Nat → Int32)} (fx : q_Fx p s m args meth c cX4_invites 6 RX4 (some .int) D cI cJ cZ cS tb A) {ag27 : (Nat → Int32) → (Nat → Int32) → Int32 → Int32 → Int32 → Int32 → Option (Int32 × (Nat → Int32) × (Nat → Int32))} (hag27 : ∀ {v_party_known : Nat → Int32} {v_findings : Nat → Int32} {y1 : Int32} {y2 : Int32} {y3 : Int32} {y4 : Int32} {H : Heap} {locs : List Loc} {ls : Array Slot}, q_H D A s (wX4_invites cI cJ cZ cS a_t a_party a_party_kinds a_party_costs a_party_terms a_party_known a_kept a_tape a_telephone a_sheets a_findings v_isKept v_party_size v_party_list v_party_told v_party_kinds v_party_terms v_party_known v_findings) H locs → lv_has ls 6 [(0, .ref a_t), (1, .int y1), (2, .int y2), (3, .int y3), (4, .int y4)] → ag27 v_party_known v_findings y1 y2 y3 y4 = some (rr, kk') → W p l e rX4_invites s m args below meth c H locs 0 0 (MQ below (q_Ri D rr A ((fun k : (Nat → Int32) × (Nat → Int32) => (wX4_invites cI cJ cZ cS a_t a_party a_party_kinds a_party_costs a_party_terms a_party_known a_kept a_tape a_telephone a_sheets a_findings v_isKept v_party_size v_party_list v_party_told v_party_kinds v_party_terms k.1 k.2)) kk')) args s 0 0 A) (F0 m 27 ls [])) : ∀ {v_party_known : Nat → Int32} {v_findings : Nat → Int32} {y1 : Int32} {y2 : Int32} {y3 : Int32} {y4 : Int32} {H : Heap} {locs : List Loc} {ls : Array Slot}, q_H D A s (wX4_invites cI cJ cZ cS a_t a_party a_party_kinds a_party_costs a_party_terms a_party_known a_kept a_tape a_telephone a_sheets a_findings v_isKept v_party_size v_party_list v_party_told v_party_kinds v_party_terms v_party_known v_findings) H locs → lv_has ls 6 [(0, .ref a_t), (1, .int y1), (2, .int y2), (3, .int y3), (4, .int y4)] → fX4_invites_55 v_party_size v_party_kinds v_party_terms ag27 v_party_known v_findings y1 y2 y3 y4 = some (rr, kk') → W p l e rX4_invites s m args below meth c H locs 0 0 (MQ below (q_Ri D rr A ((fun k : (Nat → Int32) × (Nat → Int32) => (wX4_invites cI cJ cZ cS a_t a_party a_party_kinds a_party_costs a_party_terms a_party_known a_kept a_tape a_telephone a_sheets a_findings v_isKept v_party_size v_party_list v_party_told v_party_kinds v_party_terms k.1 k.2)) kk')) args s 0 0 A) (F0 m 55 ls []) := by
  intro v_party_known v_findings y1 y2 y3 y4 H locs ls h hl hf
  have hx := fx.1
  have hb := fx.2.1
  unfold fX4_invites_55 at hf
  refine lv_iconst (v := 1) hx hb dX4_invites_55 (by decide) ?_
  refine lv_goto (tgt := 60) hx hb dX4_invites_56 (by decide) ?_
  exact LX4_invites_60 fx hag27 h (lv_sub hl [0, 1, 2, 3, 4] rfl) hf
def fX4_invites_27 (v_party_size : Int32) (v_party_kinds : Nat → Int32) (v_party_terms : Nat → Int64) (ag27 : (Nat → Int32) → (Nat → Int32) → Int32 → Int32 → Int32 → Int32 → Option (Int32 × (Nat → Int32) × (Nat → Int32))) (v_party_known : Nat → Int32) (v_findings : Nat → Int32) (y1 : Int32) (y2 : Int32) (y3 : Int32) (y4 : Int32) : Option (Int32 × (Nat → Int32) × (Nat → Int32)) :=
  bR (fX0_lists v_party_size) (fun r5 k5 =>
  (if r5 ≤ y4 then (
  (if (0 : Int32) ≤ y3 then (
  some (y3, (v_party_known, v_findings)))
  else (
  bR (fX4_found v_findings (-1000000004)) (fun r8 k8 =>
  some (r8, (v_party_known, k8))))))
  else (
  (if y3 < 0 then (
  fX4_invites_55 v_party_size v_party_kinds v_party_terms ag27 v_party_known v_findings y1 y2 y3 y4)
  else (
  bR (fJ6_bitCount_0f7a4 y4) (fun r10 k10 =>
  bR (fJ6_bitCount_0f7a4 y3) (fun r11 k11 =>
  (if r11 ≤ r10 then (
  fX4_invites_60 v_party_size v_party_kinds v_party_terms ag27 v_party_known v_findings 0 y1 y2 y3 y4)
  else (
  fX4_invites_55 v_party_size v_party_kinds v_party_terms ag27 v_party_known v_findings y1 y2 y3 y4)))))))))
set_option maxRecDepth 100000 in
set_option maxHeartbeats 4000000 in
theorem LX4_invites_27 {p : Program} {l : Launch} {e : Env} {s : State} {m : MethodId} {args : Array Value} {below : List Frame} {meth : Method} {c : Code} {D : va_G} {cI cJ cZ cS : ClassId} {tb : Nat} {A : Nat → Prop} {a_t a_party a_party_kinds a_party_costs a_party_terms a_party_known a_kept a_tape a_telephone a_sheets a_findings : Nat} {v_isKept : Int32} {v_party_size : Int32} {v_party_list : Int32} {v_party_told : Int32} {v_party_kinds : Nat → Int32} {v_party_terms : Nat → Int64} {rr : Int32} {kk' : (Nat → Int32) × (Nat → Int32)} (fx : q_Fx p s m args meth c cX4_invites 6 RX4 (some .int) D cI cJ cZ cS tb A) {ag27 : (Nat → Int32) → (Nat → Int32) → Int32 → Int32 → Int32 → Int32 → Option (Int32 × (Nat → Int32) × (Nat → Int32))} (hag27 : ∀ {v_party_known : Nat → Int32} {v_findings : Nat → Int32} {y1 : Int32} {y2 : Int32} {y3 : Int32} {y4 : Int32} {H : Heap} {locs : List Loc} {ls : Array Slot}, q_H D A s (wX4_invites cI cJ cZ cS a_t a_party a_party_kinds a_party_costs a_party_terms a_party_known a_kept a_tape a_telephone a_sheets a_findings v_isKept v_party_size v_party_list v_party_told v_party_kinds v_party_terms v_party_known v_findings) H locs → lv_has ls 6 [(0, .ref a_t), (1, .int y1), (2, .int y2), (3, .int y3), (4, .int y4)] → ag27 v_party_known v_findings y1 y2 y3 y4 = some (rr, kk') → W p l e rX4_invites s m args below meth c H locs 0 0 (MQ below (q_Ri D rr A ((fun k : (Nat → Int32) × (Nat → Int32) => (wX4_invites cI cJ cZ cS a_t a_party a_party_kinds a_party_costs a_party_terms a_party_known a_kept a_tape a_telephone a_sheets a_findings v_isKept v_party_size v_party_list v_party_told v_party_kinds v_party_terms k.1 k.2)) kk')) args s 0 0 A) (F0 m 27 ls [])) : ∀ {v_party_known : Nat → Int32} {v_findings : Nat → Int32} {y1 : Int32} {y2 : Int32} {y3 : Int32} {y4 : Int32} {H : Heap} {locs : List Loc} {ls : Array Slot}, q_H D A s (wX4_invites cI cJ cZ cS a_t a_party a_party_kinds a_party_costs a_party_terms a_party_known a_kept a_tape a_telephone a_sheets a_findings v_isKept v_party_size v_party_list v_party_told v_party_kinds v_party_terms v_party_known v_findings) H locs → lv_has ls 6 [(0, .ref a_t), (1, .int y1), (2, .int y2), (3, .int y3), (4, .int y4)] → fX4_invites_27 v_party_size v_party_kinds v_party_terms ag27 v_party_known v_findings y1 y2 y3 y4 = some (rr, kk') → W p l e rX4_invites s m args below meth c H locs 0 0 (MQ below (q_Ri D rr A ((fun k : (Nat → Int32) × (Nat → Int32) => (wX4_invites cI cJ cZ cS a_t a_party a_party_kinds a_party_costs a_party_terms a_party_known a_kept a_tape a_telephone a_sheets a_findings v_isKept v_party_size v_party_list v_party_told v_party_kinds v_party_terms k.1 k.2)) kk')) args s 0 0 A) (F0 m 27 ls []) := by
  intro v_party_known v_findings y1 y2 y3 y4 H locs ls h hl hf
  have hx := fx.1
  have hb := fx.2.1
  unfold fX4_invites_27 at hf
  refine lv_iload hx hb dX4_invites_27 (lv_at hl 4 rfl) ?_
  refine lv_aload_n hx hb dX4_invites_29 rfl (lv_at hl 0 rfl) ?_
  refine q_get (v := .ref a_party) fx inX4 h 0 rfl rfl 0 (by decide) k_174 rfl dX4_invites_30 ?_
  obtain ⟨r5, k5, hg, hf⟩ := bR_inv hf
  refine q_ci (rest := [.int y4]) (ws' := (wX4_invites cI cJ cZ cS a_t a_party a_party_kinds a_party_costs a_party_terms a_party_known a_kept a_tape a_telephone a_sheets a_findings v_isKept v_party_size v_party_list v_party_told v_party_kinds v_party_terms v_party_known v_findings)) (w1 := (wX0_lists cI cJ cZ cS a_party a_party_kinds a_party_costs a_party_terms a_party_known v_party_size v_party_list v_party_told)) fx h [1] rfl rfl rfl rfl (q_runV fx h hl.1 [1] rfl rfl (tX0_lists l D cI cJ cZ cS tb a_party a_party_kinds a_party_costs a_party_terms a_party_known H.size v_party_size v_party_list v_party_told r5 k5 hg) mvX0_lists k_447 ⟨rfl, rfl⟩ ⟨Nat.le_of_ble_eq_true rfl, Nat.le_of_ble_eq_true rfl⟩ rfl rfl rfl rfl (Nat.le_of_ble_eq_true rfl) dX4_invites_33 ⟨Nat.le_of_ble_eq_true rfl, Nat.le_of_ble_eq_true rfl⟩) (fun H locs h => ?_)
  refine lv_icmp_ge (tgt := 87) hx hb dX4_invites_36 (by decide) (fun c6 => ?_) (fun c6 => ?_)
  · have hf := it_t c6 hf
    refine lv_iload_n hx hb dX4_invites_87 rfl (lv_at hl 3 rfl) ?_
    refine lv_if_ge (tgt := 100) hx hb dX4_invites_88 (by decide) (fun c7 => ?_) (fun c7 => ?_)
    · have hf := it_t c7 hf
      refine lv_iload_n hx hb dX4_invites_100 rfl (lv_at hl 3 rfl) ?_
      exact q_reti (fun k : (Nat → Int32) × (Nat → Int32) => (wX4_invites cI cJ cZ cS a_t a_party a_party_kinds a_party_costs a_party_terms a_party_known a_kept a_tape a_telephone a_sheets a_findings v_isKept v_party_size v_party_list v_party_told v_party_kinds v_party_terms k.1 k.2)) fx hf h dX4_invites_101
    have hf := it_f c7 hf
    refine lv_aload_n hx hb dX4_invites_91 rfl (lv_at hl 0 rfl) ?_
    refine q_ldc fx k_402 dX4_invites_92 ?_
    obtain ⟨r8, k8, hg, hf⟩ := bR_inv hf
    refine q_ci (rest := []) (ws' := (wX4_invites cI cJ cZ cS a_t a_party a_party_kinds a_party_costs a_party_terms a_party_known a_kept a_tape a_telephone a_sheets a_findings v_isKept v_party_size v_party_list v_party_told v_party_kinds v_party_terms v_party_known k8)) (w1 := (wX4_found cI cJ cZ cS a_t a_party a_kept a_tape a_telephone a_sheets a_findings v_isKept k8)) fx h [0, 5] rfl rfl rfl rfl (q_runV fx h hl.1 [0, 5] rfl rfl (tX4_found l D cI cJ cZ cS tb a_t a_party a_kept a_tape a_telephone a_sheets a_findings H.size v_isKept v_findings (-1000000004) r8 k8 hg) mvX4_found k_207 ⟨rfl, rfl⟩ ⟨Nat.le_of_ble_eq_true rfl, Nat.le_of_ble_eq_true rfl⟩ rfl rfl rfl rfl (Nat.le_of_ble_eq_true rfl) dX4_invites_94 ⟨Nat.le_of_ble_eq_true rfl, Nat.le_of_ble_eq_true rfl⟩) (fun H locs h => ?_)
    refine lv_goto (tgt := 101) hx hb dX4_invites_97 (by decide) ?_
    exact q_reti (fun k : (Nat → Int32) × (Nat → Int32) => (wX4_invites cI cJ cZ cS a_t a_party a_party_kinds a_party_costs a_party_terms a_party_known a_kept a_tape a_telephone a_sheets a_findings v_isKept v_party_size v_party_list v_party_told v_party_kinds v_party_terms k.1 k.2)) fx hf h dX4_invites_101
  have hf := it_f c6 hf
  refine lv_iload_n hx hb dX4_invites_39 rfl (lv_at hl 3 rfl) ?_
  refine lv_if_lt (tgt := 55) hx hb dX4_invites_40 (by decide) (fun c9 => ?_) (fun c9 => ?_)
  · have hf := it_t c9 hf
    exact LX4_invites_55 fx hag27 h (lv_sub hl [0, 1, 2, 3, 4] rfl) hf
  have hf := it_f c9 hf
  refine lv_iload hx hb dX4_invites_43 (lv_at hl 4 rfl) ?_
  obtain ⟨r10, k10, hg, hf⟩ := bR_inv hf
  refine q_ci (rest := []) (ws' := (wX4_invites cI cJ cZ cS a_t a_party a_party_kinds a_party_costs a_party_terms a_party_known a_kept a_tape a_telephone a_sheets a_findings v_isKept v_party_size v_party_list v_party_told v_party_kinds v_party_terms v_party_known v_findings)) (w1 := (wJ6_bitCount_0f7a4 cI cJ cZ cS)) fx h [] rfl rfl rfl rfl (q_runS fx h hl.1 [] rfl rfl (tJ6_bitCount_0f7a4 l D cI cJ cZ cS tb H.size y4 r10 k10 hg) msJ6_bitCount_0f7a4 k_239 ⟨rfl, rfl⟩ ⟨Nat.le_of_ble_eq_true rfl, Nat.le_of_ble_eq_true rfl⟩ rfl rfl (Nat.le_of_ble_eq_true rfl) dX4_invites_45 ⟨Nat.le_of_ble_eq_true rfl, Nat.le_of_ble_eq_true rfl⟩) (fun H locs h => ?_)
  refine lv_iload_n hx hb dX4_invites_48 rfl (lv_at hl 3 rfl) ?_
  obtain ⟨r11, k11, hg, hf⟩ := bR_inv hf
  refine q_ci (rest := [.int r10]) (ws' := (wX4_invites cI cJ cZ cS a_t a_party a_party_kinds a_party_costs a_party_terms a_party_known a_kept a_tape a_telephone a_sheets a_findings v_isKept v_party_size v_party_list v_party_told v_party_kinds v_party_terms v_party_known v_findings)) (w1 := (wJ6_bitCount_0f7a4 cI cJ cZ cS)) fx h [] rfl rfl rfl rfl (q_runS fx h hl.1 [] rfl rfl (tJ6_bitCount_0f7a4 l D cI cJ cZ cS tb H.size y3 r11 k11 hg) msJ6_bitCount_0f7a4 k_239 ⟨rfl, rfl⟩ ⟨Nat.le_of_ble_eq_true rfl, Nat.le_of_ble_eq_true rfl⟩ rfl rfl (Nat.le_of_ble_eq_true rfl) dX4_invites_49 ⟨Nat.le_of_ble_eq_true rfl, Nat.le_of_ble_eq_true rfl⟩) (fun H locs h => ?_)
  refine lv_icmp_ge (tgt := 59) hx hb dX4_invites_52 (by decide) (fun c12 => ?_) (fun c12 => ?_)
  · have hf := it_t c12 hf
    refine lv_iconst (v := 0) hx hb dX4_invites_59 (by decide) ?_
    exact LX4_invites_60 fx hag27 h (lv_sub hl [0, 1, 2, 3, 4] rfl) hf
  have hf := it_f c12 hf
  exact LX4_invites_55 fx hag27 h (lv_sub hl [0, 1, 2, 3, 4] rfl) hf
set_option maxRecDepth 100000 in
theorem EX4_invites_27 {p : Program} {l : Launch} {e : Env} {s : State} {m : MethodId} {args : Array Value} {below : List Frame} {meth : Method} {c : Code} {D : va_G} {cI cJ cZ cS : ClassId} {tb : Nat} {A : Nat → Prop} {a_t a_party a_party_kinds a_party_costs a_party_terms a_party_known a_kept a_tape a_telephone a_sheets a_findings : Nat} {v_isKept : Int32} {v_party_size : Int32} {v_party_list : Int32} {v_party_told : Int32} {v_party_kinds : Nat → Int32} {v_party_terms : Nat → Int64} {rr : Int32} {kk' : (Nat → Int32) × (Nat → Int32)} (fx : q_Fx p s m args meth c cX4_invites 6 RX4 (some .int) D cI cJ cZ cS tb A) : ∀ (n : Nat), ∀ {v_party_known : Nat → Int32} {v_findings : Nat → Int32} {y1 : Int32} {y2 : Int32} {y3 : Int32} {y4 : Int32} {H : Heap} {locs : List Loc} {ls : Array Slot}, q_H D A s (wX4_invites cI cJ cZ cS a_t a_party a_party_kinds a_party_costs a_party_terms a_party_known a_kept a_tape a_telephone a_sheets a_findings v_isKept v_party_size v_party_list v_party_told v_party_kinds v_party_terms v_party_known v_findings) H locs → lv_has ls 6 [(0, .ref a_t), (1, .int y1), (2, .int y2), (3, .int y3), (4, .int y4)] → ll6 (fX4_invites_27 v_party_size v_party_kinds v_party_terms) n v_party_known v_findings y1 y2 y3 y4 = some (rr, kk') → W p l e rX4_invites s m args below meth c H locs 0 0 (MQ below (q_Ri D rr A ((fun k : (Nat → Int32) × (Nat → Int32) => (wX4_invites cI cJ cZ cS a_t a_party a_party_kinds a_party_costs a_party_terms a_party_known a_kept a_tape a_telephone a_sheets a_findings v_isKept v_party_size v_party_list v_party_told v_party_kinds v_party_terms k.1 k.2)) kk')) args s 0 0 A) (F0 m 27 ls []) := by
  intro n
  induction n with
  | zero => intro v_party_known v_findings y1 y2 y3 y4 H locs ls h hl hf; exact (ll6_z hf).elim
  | succ n ih => intro v_party_known v_findings y1 y2 y3 y4 H locs ls h hl hf; exact LX4_invites_27 fx ih h hl (ll6_s hf)
def fX4_invites_15 (v_party_size : Int32) (v_party_kinds : Nat → Int32) (v_party_terms : Nat → Int64) (v_party_known : Nat → Int32) (v_findings : Nat → Int32) : Option (Int32 × (Nat → Int32) × (Nat → Int32)) :=
  bR (fX4_found v_findings (-1000000001)) (fun r13 k13 =>
  some (r13, (v_party_known, k13)))
set_option maxRecDepth 100000 in
set_option maxHeartbeats 4000000 in
theorem LX4_invites_15 {p : Program} {l : Launch} {e : Env} {s : State} {m : MethodId} {args : Array Value} {below : List Frame} {meth : Method} {c : Code} {D : va_G} {cI cJ cZ cS : ClassId} {tb : Nat} {A : Nat → Prop} {a_t a_party a_party_kinds a_party_costs a_party_terms a_party_known a_kept a_tape a_telephone a_sheets a_findings : Nat} {v_isKept : Int32} {v_party_size : Int32} {v_party_list : Int32} {v_party_told : Int32} {v_party_kinds : Nat → Int32} {v_party_terms : Nat → Int64} {rr : Int32} {kk' : (Nat → Int32) × (Nat → Int32)} (fx : q_Fx p s m args meth c cX4_invites 6 RX4 (some .int) D cI cJ cZ cS tb A) : ∀ {v_party_known : Nat → Int32} {v_findings : Nat → Int32} {H : Heap} {locs : List Loc} {ls : Array Slot}, q_H D A s (wX4_invites cI cJ cZ cS a_t a_party a_party_kinds a_party_costs a_party_terms a_party_known a_kept a_tape a_telephone a_sheets a_findings v_isKept v_party_size v_party_list v_party_told v_party_kinds v_party_terms v_party_known v_findings) H locs → lv_has ls 6 [(0, .ref a_t)] → fX4_invites_15 v_party_size v_party_kinds v_party_terms v_party_known v_findings = some (rr, kk') → W p l e rX4_invites s m args below meth c H locs 0 0 (MQ below (q_Ri D rr A ((fun k : (Nat → Int32) × (Nat → Int32) => (wX4_invites cI cJ cZ cS a_t a_party a_party_kinds a_party_costs a_party_terms a_party_known a_kept a_tape a_telephone a_sheets a_findings v_isKept v_party_size v_party_list v_party_told v_party_kinds v_party_terms k.1 k.2)) kk')) args s 0 0 A) (F0 m 15 ls []) := by
  intro v_party_known v_findings H locs ls h hl hf
  have hx := fx.1
  have hb := fx.2.1
  unfold fX4_invites_15 at hf
  refine lv_aload_n hx hb dX4_invites_15 rfl (lv_at hl 0 rfl) ?_
  refine q_ldc fx k_206 dX4_invites_16 ?_
  obtain ⟨r13, k13, hg, hf⟩ := bR_inv hf
  refine q_ci (rest := []) (ws' := (wX4_invites cI cJ cZ cS a_t a_party a_party_kinds a_party_costs a_party_terms a_party_known a_kept a_tape a_telephone a_sheets a_findings v_isKept v_party_size v_party_list v_party_told v_party_kinds v_party_terms v_party_known k13)) (w1 := (wX4_found cI cJ cZ cS a_t a_party a_kept a_tape a_telephone a_sheets a_findings v_isKept k13)) fx h [0, 5] rfl rfl rfl rfl (q_runV fx h hl.1 [0, 5] rfl rfl (tX4_found l D cI cJ cZ cS tb a_t a_party a_kept a_tape a_telephone a_sheets a_findings H.size v_isKept v_findings (-1000000001) r13 k13 hg) mvX4_found k_207 ⟨rfl, rfl⟩ ⟨Nat.le_of_ble_eq_true rfl, Nat.le_of_ble_eq_true rfl⟩ rfl rfl rfl rfl (Nat.le_of_ble_eq_true rfl) dX4_invites_18 ⟨Nat.le_of_ble_eq_true rfl, Nat.le_of_ble_eq_true rfl⟩) (fun H locs h => ?_)
  exact q_reti (fun k : (Nat → Int32) × (Nat → Int32) => (wX4_invites cI cJ cZ cS a_t a_party a_party_kinds a_party_costs a_party_terms a_party_known a_kept a_tape a_telephone a_sheets a_findings v_isKept v_party_size v_party_list v_party_told v_party_kinds v_party_terms k.1 k.2)) fx hf h dX4_invites_21
def fX4_invites (v_party_size : Int32) (v_party_kinds : Nat → Int32) (v_party_terms : Nat → Int64) (v_party_known : Nat → Int32) (v_findings : Nat → Int32) (x1 : Int32) (x2 : Int32) : Option (Int32 × (Nat → Int32) × (Nat → Int32)) :=
  (if x1 < 0 then (
  fX4_invites_15 v_party_size v_party_kinds v_party_terms v_party_known v_findings)
  else (
  (if (8 : Int32) < x2 then (
  fX4_invites_15 v_party_size v_party_kinds v_party_terms v_party_known v_findings)
  else (
  (if x1 ≤ x2 then (
  ll6 (fX4_invites_27 v_party_size v_party_kinds v_party_terms) qF v_party_known v_findings x1 x2 (-1) 0)
  else (
  fX4_invites_15 v_party_size v_party_kinds v_party_terms v_party_known v_findings))))))
set_option maxRecDepth 100000 in
set_option maxHeartbeats 4000000 in
theorem tX4_invites (l : Launch) (D : va_G) (cI cJ cZ cS : ClassId) (tb : Nat) (a_t a_party a_party_kinds a_party_costs a_party_terms a_party_known a_kept a_tape a_telephone a_sheets a_findings : Nat) (sz : Nat) (v_isKept : Int32) (v_party_size : Int32) (v_party_list : Int32) (v_party_told : Int32) (v_party_kinds : Nat → Int32) (v_party_terms : Nat → Int64) (v_party_known : Nat → Int32) (v_findings : Nat → Int32) (x1 : Int32) (x2 : Int32) (rr : Int32) (kk' : (Nat → Int32) × (Nat → Int32)) (hf : fX4_invites v_party_size v_party_kinds v_party_terms v_party_known v_findings x1 x2 = some (rr, kk')) : Met l yX4_invites (Cond.code yX4_invites cX4_invites 6 (some .int) :: wA) rX4_invites (q_Pre D cI cJ cZ cS tb [.ref a_t, .int x1, .int x2] sz (wX4_invites cI cJ cZ cS a_t a_party a_party_kinds a_party_costs a_party_terms a_party_known a_kept a_tape a_telephone a_sheets a_findings v_isKept v_party_size v_party_list v_party_told v_party_kinds v_party_terms v_party_known v_findings)) (q_Ri D rr (va_A (wX4_invites cI cJ cZ cS a_t a_party a_party_kinds a_party_costs a_party_terms a_party_known a_kept a_tape a_telephone a_sheets a_findings v_isKept v_party_size v_party_list v_party_told v_party_kinds v_party_terms v_party_known v_findings) sz) ((fun k : (Nat → Int32) × (Nat → Int32) => (wX4_invites cI cJ cZ cS a_t a_party a_party_kinds a_party_costs a_party_terms a_party_known a_kept a_tape a_telephone a_sheets a_findings v_isKept v_party_size v_party_list v_party_told v_party_kinds v_party_terms k.1 k.2)) kk')) 0 0 (va_A (wX4_invites cI cJ cZ cS a_t a_party a_party_kinds a_party_costs a_party_terms a_party_known a_kept a_tape a_telephone a_sheets a_findings v_isKept v_party_size v_party_list v_party_told v_party_kinds v_party_terms v_party_known v_findings) sz) := by
  refine q_enter (Qf := fun A => (q_Ri D rr A ((fun k : (Nat → Int32) × (Nat → Int32) => (wX4_invites cI cJ cZ cS a_t a_party a_party_kinds a_party_costs a_party_terms a_party_known a_kept a_tape a_telephone a_sheets a_findings v_isKept v_party_size v_party_list v_party_told v_party_kinds v_party_terms k.1 k.2)) kk'))) (by decide) rfl (Nat.le_of_ble_eq_true rfl) ?_
  intro p e s m below meth c A ls fx hname h hl
  have hx := fx.1
  have hb := fx.2.1
  have hl : lv_has ls 6 [(0, .ref a_t), (1, .int x1), (2, .int x2)] := hl
  generalize h9 : s.heap = H at h ⊢
  clear h9
  generalize h9 : ([] : List Loc) = locs at h ⊢
  clear h9
  unfold fX4_invites at hf
  refine lv_iload_n hx hb dX4_invites_0 rfl (lv_at hl 1 rfl) ?_
  refine lv_if_lt (tgt := 15) hx hb dX4_invites_1 (by decide) (fun c14 => ?_) (fun c14 => ?_)
  · have hf := it_t c14 hf
    exact LX4_invites_15 fx h (lv_sub hl [0] rfl) hf
  have hf := it_f c14 hf
  refine lv_iload_n hx hb dX4_invites_4 rfl (lv_at hl 2 rfl) ?_
  refine lv_bipush (v := 8) hx hb dX4_invites_5 (by decide) ?_
  refine lv_icmp_gt (tgt := 15) hx hb dX4_invites_7 (by decide) (fun c15 => ?_) (fun c15 => ?_)
  · have hf := it_t c15 hf
    exact LX4_invites_15 fx h (lv_sub hl [0] rfl) hf
  have hf := it_f c15 hf
  refine lv_iload_n hx hb dX4_invites_10 rfl (lv_at hl 1 rfl) ?_
  refine lv_iload_n hx hb dX4_invites_11 rfl (lv_at hl 2 rfl) ?_
  refine lv_icmp_le (tgt := 22) hx hb dX4_invites_12 (by decide) (fun c16 => ?_) (fun c16 => ?_)
  · have hf := it_t c16 hf
    refine lv_iconst (v := -1) hx hb dX4_invites_22 (by decide) ?_
    refine lv_istore_n (lv' := [(3, .int (-1)), (0, .ref a_t), (1, .int x1), (2, .int x2)]) hx hb dX4_invites_23 rfl hl (by decide) rfl (fun ls hl => ?_)
    refine lv_iconst (v := 0) hx hb dX4_invites_24 (by decide) ?_
    refine lv_istore (lv' := [(4, .int 0), (3, .int (-1)), (0, .ref a_t), (1, .int x1), (2, .int x2)]) hx hb dX4_invites_25 hl (by decide) rfl (fun ls hl => ?_)
    exact EX4_invites_27 fx qF h (lv_sub hl [2, 3, 4, 1, 0] rfl) hf
  have hf := it_f c16 hf
  exact LX4_invites_15 fx h (lv_sub hl [0] rfl) hf
