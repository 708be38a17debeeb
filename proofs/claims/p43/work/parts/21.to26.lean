section
/-! X4_cheapestFor -/
abbrev wX4_cheapestFor (cI cJ cZ cS : ClassId) (a_t a_party a_party_kinds a_party_costs a_party_terms a_party_known a_kept a_tape a_telephone a_sheets a_findings : Nat) (v_isKept : Int32) (v_party_size : Int32) (v_party_list : Int32) (v_party_told : Int32) (v_party_kinds : Nat → Int32) (v_party_costs : Nat → Int32) (v_party_terms : Nat → Int64) (v_party_known : Nat → Int32) : va_W := [(a_t, .inr (4, [.ref a_party, .ref a_kept, .int v_isKept, .ref a_tape, .ref a_telephone, .ref a_sheets, .ref a_findings])), (a_party, .inr (0, [.int v_party_size, .int v_party_list, .int v_party_told, .ref a_party_kinds, .ref a_party_costs, .ref a_party_terms, .ref a_party_known])), (a_party_kinds, .inl (cI, 8, .inl v_party_kinds)), (a_party_costs, .inl (cI, 8, .inl v_party_costs)), (a_party_terms, .inl (cJ, 32, .inr (.inl v_party_terms))), (a_party_known, .inl (cI, 256, .inl v_party_known))]
abbrev rX4_cheapestFor : Room := { frames := 5, cells := 0, slots := 0, locals := 115 }
def fX4_cheapestFor_64 (v_party_size : Int32) (v_party_kinds : Nat → Int32) (v_party_costs : Nat → Int32) (v_party_terms : Nat → Int64) (ag4 : (Nat → Int32) → Int32 → Int32 → Int32 → Option (Int32 × (Nat → Int32))) (v_party_known : Nat → Int32) (y1 : Int32) (y2 : Int32) (y3 : Int32) : Option (Int32 × (Nat → Int32)) :=
  nm (y3 + 1) (fun u1 =>
  ag4 v_party_known y1 y2 u1)
set_option maxRecDepth 100000 in
set_option maxHeartbeats 4000000 in
theorem LX4_cheapestFor_64 {p : Program} {l : Launch} {e : Env} {s : State} {m : MethodId} {args : Array Value} {below : List Frame} {meth : Method} {c : Code} {D : va_G} {cI cJ cZ cS : ClassId} {tb : Nat} {A : Nat → Prop} {a_t a_party a_party_kinds a_party_costs a_party_terms a_party_known a_kept a_tape a_telephone a_sheets a_findings : Nat} {v_isKept : Int32} {v_party_size : Int32} {v_party_list : Int32} {v_party_told : Int32} {v_party_kinds : Nat → Int32} {v_party_costs : Nat → Int32} {v_party_terms : Nat → Int64} {rr : Int32} {kk' : (Nat → Int32)} (fx : q_Fx p s m args meth c cX4_cheapestFor 5 RX4 (some .int) D cI cJ cZ cS tb A) {ag4 : (Nat → Int32) → Int32 → Int32 → Int32 → Option (Int32 × (Nat → Int32))} (hag4 : ∀ {v_party_known : Nat → Int32} {y1 : Int32} {y2 : Int32} {y3 : Int32} {H : Heap} {locs : List Loc} {ls : Array Slot}, q_H D A s (wX4_cheapestFor cI cJ cZ cS a_t a_party a_party_kinds a_party_costs a_party_terms a_party_known a_kept a_tape a_telephone a_sheets a_findings v_isKept v_party_size v_party_list v_party_told v_party_kinds v_party_costs v_party_terms v_party_known) H locs → lv_has ls 5 [(0, .ref a_t), (1, .int y1), (2, .int y2), (3, .int y3)] → ag4 v_party_known y1 y2 y3 = some (rr, kk') → W p l e rX4_cheapestFor s m args below meth c H locs 0 0 (MQ below (q_Ri D rr A ((fun k : (Nat → Int32) => (wX4_cheapestFor cI cJ cZ cS a_t a_party a_party_kinds a_party_costs a_party_terms a_party_known a_kept a_tape a_telephone a_sheets a_findings v_isKept v_party_size v_party_list v_party_told v_party_kinds v_party_costs v_party_terms k)) kk')) args s 0 0 A) (F0 m 4 ls [])) : ∀ {v_party_known : Nat → Int32} {y1 : Int32} {y2 : Int32} {y3 : Int32} {H : Heap} {locs : List Loc} {ls : Array Slot}, q_H D A s (wX4_cheapestFor cI cJ cZ cS a_t a_party a_party_kinds a_party_costs a_party_terms a_party_known a_kept a_tape a_telephone a_sheets a_findings v_isKept v_party_size v_party_list v_party_told v_party_kinds v_party_costs v_party_terms v_party_known) H locs → lv_has ls 5 [(0, .ref a_t), (1, .int y1), (2, .int y2), (3, .int y3)] → fX4_cheapestFor_64 v_party_size v_party_kinds v_party_costs v_party_terms ag4 v_party_known y1 y2 y3 = some (rr, kk') → W p l e rX4_cheapestFor s m args below meth c H locs 0 0 (MQ below (q_Ri D rr A ((fun k : (Nat → Int32) => (wX4_cheapestFor cI cJ cZ cS a_t a_party a_party_kinds a_party_costs a_party_terms a_party_known a_kept a_tape a_telephone a_sheets a_findings v_isKept v_party_size v_party_list v_party_told v_party_kinds v_party_costs v_party_terms k)) kk')) args s 0 0 A) (F0 m 64 ls []) := by
  intro v_party_known y1 y2 y3 H locs ls h hl hf
  have hx := fx.1
  have hb := fx.2.1
  unfold fX4_cheapestFor_64 at hf
  obtain ⟨u1, eu1, hf⟩ := nm_inv hf
  refine lv_iinc (v := u1) (lv' := [(3, .int u1), (0, .ref a_t), (1, .int y1), (2, .int y2)]) hx hb dX4_cheapestFor_64 hl (k := 3) rfl (by rw [eu1]; rfl) (by decide) rfl (fun ls hl => ?_)
  refine lv_goto (tgt := 4) hx hb dX4_cheapestFor_67 (by decide) ?_
  exact hag4 h (lv_sub hl [1, 2, 3, 0] rfl) hf
def fX4_cheapestFor_33 (v_party_size : Int32) (v_party_kinds : Nat → Int32) (v_party_costs : Nat → Int32) (v_party_terms : Nat → Int64) (ag4 : (Nat → Int32) → Int32 → Int32 → Int32 → Option (Int32 × (Nat → Int32))) (v_party_known : Nat → Int32) (s0 : Int32) (y1 : Int32) (y2 : Int32) (y3 : Int32) : Option (Int32 × (Nat → Int32)) :=
  (if s0 = 0 then (
  fX4_cheapestFor_64 v_party_size v_party_kinds v_party_costs v_party_terms ag4 v_party_known y1 y2 y3)
  else (
  bR (fX0_everyone v_party_size) (fun r3 k3 =>
  bR (fX0_lastOf v_party_size v_party_kinds v_party_terms v_party_known y3 r3) (fun r4 k4 =>
  bR (fJ6_bitCount_0f7a4 r4) (fun r5 k5 =>
  (if r5 < y1 then (
  fX4_cheapestFor_64 v_party_size v_party_kinds v_party_costs v_party_terms ag4 k4 y1 y2 y3)
  else (
  fX4_cheapestFor_64 v_party_size v_party_kinds v_party_costs v_party_terms ag4 k4 y1 y3 y3)))))))
set_option maxRecDepth 100000 in
set_option maxHeartbeats 4000000 in
theorem LX4_cheapestFor_33 {p : Program} {l : Launch} {e : Env} {s : State} {m : MethodId} {args : Array Value} {below : List Frame} {meth : Method} {c : Code} {D : va_G} {cI cJ cZ cS : ClassId} {tb : Nat} {A : Nat → Prop} {a_t a_party a_party_kinds a_party_costs a_party_terms a_party_known a_kept a_tape a_telephone a_sheets a_findings : Nat} {v_isKept : Int32} {v_party_size : Int32} {v_party_list : Int32} {v_party_told : Int32} {v_party_kinds : Nat → Int32} {v_party_costs : Nat → Int32} {v_party_terms : Nat → Int64} {rr : Int32} {kk' : (Nat → Int32)} (fx : q_Fx p s m args meth c cX4_cheapestFor 5 RX4 (some .int) D cI cJ cZ cS tb A) {ag4 : (Nat → Int32) → Int32 → Int32 → Int32 → Option (Int32 × (Nat → Int32))} (hag4 : ∀ {v_party_known : Nat → Int32} {y1 : Int32} {y2 : Int32} {y3 : Int32} {H : Heap} {locs : List Loc} {ls : Array Slot}, q_H D A s (wX4_cheapestFor cI cJ cZ cS a_t a_party a_party_kinds a_party_costs a_party_terms a_party_known a_kept a_tape a_telephone a_sheets a_findings v_isKept v_party_size v_party_list v_party_told v_party_kinds v_party_costs v_party_terms v_party_known) H locs → lv_has ls 5 [(0, .ref a_t), (1, .int y1), (2, .int y2), (3, .int y3)] → ag4 v_party_known y1 y2 y3 = some (rr, kk') → W p l e rX4_cheapestFor s m args below meth c H locs 0 0 (MQ below (q_Ri D rr A ((fun k : (Nat → Int32) => (wX4_cheapestFor cI cJ cZ cS a_t a_party a_party_kinds a_party_costs a_party_terms a_party_known a_kept a_tape a_telephone a_sheets a_findings v_isKept v_party_size v_party_list v_party_told v_party_kinds v_party_costs v_party_terms k)) kk')) args s 0 0 A) (F0 m 4 ls [])) : ∀ {v_party_known : Nat → Int32} {s0 : Int32} {y1 : Int32} {y2 : Int32} {y3 : Int32} {H : Heap} {locs : List Loc} {ls : Array Slot}, q_H D A s (wX4_cheapestFor cI cJ cZ cS a_t a_party a_party_kinds a_party_costs a_party_terms a_party_known a_kept a_tape a_telephone a_sheets a_findings v_isKept v_party_size v_party_list v_party_told v_party_kinds v_party_costs v_party_terms v_party_known) H locs → lv_has ls 5 [(0, .ref a_t), (1, .int y1), (2, .int y2), (3, .int y3)] → fX4_cheapestFor_33 v_party_size v_party_kinds v_party_costs v_party_terms ag4 v_party_known s0 y1 y2 y3 = some (rr, kk') → W p l e rX4_cheapestFor s m args below meth c H locs 0 0 (MQ below (q_Ri D rr A ((fun k : (Nat → Int32) => (wX4_cheapestFor cI cJ cZ cS a_t a_party a_party_kinds a_party_costs a_party_terms a_party_known a_kept a_tape a_telephone a_sheets a_findings v_isKept v_party_size v_party_list v_party_told v_party_kinds v_party_costs v_party_terms k)) kk')) args s 0 0 A) (F0 m 33 ls [.int s0]) := by
  intro v_party_known s0 y1 y2 y3 H locs ls h hl hf
  have hx := fx.1
  have hb := fx.2.1
  unfold fX4_cheapestFor_33 at hf
  refine lv_istore (lv' := [(4, .int s0), (0, .ref a_t), (1, .int y1), (2, .int y2), (3, .int y3)]) hx hb dX4_cheapestFor_33 hl (by decide) rfl (fun ls hl => ?_)
  refine lv_iload hx hb dX4_cheapestFor_35 (lv_at hl 0 rfl) ?_
  refine lv_if_eq (tgt := 64) hx hb dX4_cheapestFor_37 (by decide) (fun c2 => ?_) (fun c2 => ?_)
  · have hf := it_t c2 hf
    exact LX4_cheapestFor_64 fx hag4 h (lv_sub hl [1, 2, 3, 4] rfl) hf
  have hf := it_f c2 hf
  refine lv_aload_n hx hb dX4_cheapestFor_40 rfl (lv_at hl 1 rfl) ?_
  refine q_get (v := .ref a_party) fx inX4 h 0 rfl rfl 0 (by decide) k_174 rfl dX4_cheapestFor_41 ?_
  refine lv_iload_n hx hb dX4_cheapestFor_44 rfl (lv_at hl 4 rfl) ?_
  refine lv_aload_n hx hb dX4_cheapestFor_45 rfl (lv_at hl 1 rfl) ?_
  refine q_get (v := .ref a_party) fx inX4 h 0 rfl rfl 0 (by decide) k_174 rfl dX4_cheapestFor_46 ?_
  obtain ⟨r3, k3, hg, hf⟩ := bR_inv hf
  refine q_ci (rest := [.int y3, .ref a_party]) (ws' := (wX4_cheapestFor cI cJ cZ cS a_t a_party a_party_kinds a_party_costs a_party_terms a_party_known a_kept a_tape a_telephone a_sheets a_findings v_isKept v_party_size v_party_list v_party_told v_party_kinds v_party_costs v_party_terms v_party_known)) (w1 := (wX0_everyone cI cJ cZ cS a_party a_party_kinds a_party_costs a_party_terms a_party_known v_party_size v_party_list v_party_told)) fx h [1] rfl rfl rfl rfl (q_runV fx h hl.1 [1] rfl rfl (tX0_everyone l D cI cJ cZ cS tb a_party a_party_kinds a_party_costs a_party_terms a_party_known H.size v_party_size v_party_list v_party_told r3 k3 hg) mvX0_everyone k_456 ⟨rfl, rfl⟩ ⟨Nat.le_of_ble_eq_true rfl, Nat.le_of_ble_eq_true rfl⟩ rfl rfl rfl rfl (Nat.le_of_ble_eq_true rfl) dX4_cheapestFor_49 ⟨Nat.le_of_ble_eq_true rfl, Nat.le_of_ble_eq_true rfl⟩) (fun H locs h => ?_)
  obtain ⟨r4, k4, hg, hf⟩ := bR_inv hf
  refine q_ci (rest := []) (ws' := (wX4_cheapestFor cI cJ cZ cS a_t a_party a_party_kinds a_party_costs a_party_terms a_party_known a_kept a_tape a_telephone a_sheets a_findings v_isKept v_party_size v_party_list v_party_told v_party_kinds v_party_costs v_party_terms k4)) (w1 := (wX0_lastOf cI cJ cZ cS a_party a_party_kinds a_party_costs a_party_terms a_party_known v_party_size v_party_list v_party_told v_party_kinds v_party_terms k4)) fx h [1, 2, 4, 5] rfl rfl rfl rfl (q_runV fx h hl.1 [1, 2, 4, 5] rfl rfl (tX0_lastOf l D cI cJ cZ cS tb a_party a_party_kinds a_party_costs a_party_terms a_party_known H.size v_party_size v_party_list v_party_told v_party_kinds v_party_terms v_party_known y3 r3 r4 k4 hg) mvX0_lastOf k_479 ⟨rfl, rfl⟩ ⟨Nat.le_of_ble_eq_true rfl, Nat.le_of_ble_eq_true rfl⟩ rfl rfl rfl rfl (Nat.le_of_ble_eq_true rfl) dX4_cheapestFor_52 ⟨Nat.le_of_ble_eq_true rfl, Nat.le_of_ble_eq_true rfl⟩) (fun H locs h => ?_)
  obtain ⟨r5, k5, hg, hf⟩ := bR_inv hf
  refine q_ci (rest := []) (ws' := (wX4_cheapestFor cI cJ cZ cS a_t a_party a_party_kinds a_party_costs a_party_terms a_party_known a_kept a_tape a_telephone a_sheets a_findings v_isKept v_party_size v_party_list v_party_told v_party_kinds v_party_costs v_party_terms k4)) (w1 := (wJ6_bitCount_0f7a4 cI cJ cZ cS)) fx h [] rfl rfl rfl rfl (q_runS fx h hl.1 [] rfl rfl (tJ6_bitCount_0f7a4 l D cI cJ cZ cS tb H.size r4 r5 k5 hg) msJ6_bitCount_0f7a4 k_239 ⟨rfl, rfl⟩ ⟨Nat.le_of_ble_eq_true rfl, Nat.le_of_ble_eq_true rfl⟩ rfl rfl (Nat.le_of_ble_eq_true rfl) dX4_cheapestFor_55 ⟨Nat.le_of_ble_eq_true rfl, Nat.le_of_ble_eq_true rfl⟩) (fun H locs h => ?_)
  refine lv_iload_n hx hb dX4_cheapestFor_58 rfl (lv_at hl 2 rfl) ?_
  refine lv_icmp_lt (tgt := 64) hx hb dX4_cheapestFor_59 (by decide) (fun c6 => ?_) (fun c6 => ?_)
  · have hf := it_t c6 hf
    exact LX4_cheapestFor_64 fx hag4 h (lv_sub hl [1, 2, 3, 4] rfl) hf
  have hf := it_f c6 hf
  refine lv_iload_n hx hb dX4_cheapestFor_62 rfl (lv_at hl 4 rfl) ?_
  refine lv_istore_n (lv' := [(2, .int y3), (4, .int s0), (0, .ref a_t), (1, .int y1), (3, .int y3)]) hx hb dX4_cheapestFor_63 rfl hl (by decide) rfl (fun ls hl => ?_)
  exact LX4_cheapestFor_64 fx hag4 h (lv_sub hl [2, 3, 0, 4] rfl) hf
def fX4_cheapestFor_28 (v_party_size : Int32) (v_party_kinds : Nat → Int32) (v_party_costs : Nat → Int32) (v_party_terms : Nat → Int64) (ag4 : (Nat → Int32) → Int32 → Int32 → Int32 → Option (Int32 × (Nat → Int32))) (v_party_known : Nat → Int32) (y1 : Int32) (y2 : Int32) (y3 : Int32) : Option (Int32 × (Nat → Int32)) :=
  fX4_cheapestFor_33 v_party_size v_party_kinds v_party_costs v_party_terms ag4 v_party_known 1 y1 y2 y3
set_option maxRecDepth 100000 in
set_option maxHeartbeats 4000000 in
theorem LX4_cheapestFor_28 {p : Program} {l : Launch} {e : Env} {s : State} {m : MethodId} {args : Array Value} {below : List Frame} {meth : Method} {c : Code} {D : va_G} {cI cJ cZ cS : ClassId} {tb : Nat} {A : Nat → Prop} {a_t a_party a_party_kinds a_party_costs a_party_terms a_party_known a_kept a_tape a_telephone a_sheets a_findings : Nat} {v_isKept : Int32} {v_party_size : Int32} {v_party_list : Int32} {v_party_told : Int32} {v_party_kinds : Nat → Int32} {v_party_costs : Nat → Int32} {v_party_terms : Nat → Int64} {rr : Int32} {kk' : (Nat → Int32)} (fx : q_Fx p s m args meth c cX4_cheapestFor 5 RX4 (some .int) D cI cJ cZ cS tb A) {ag4 : (Nat → Int32) → Int32 → Int32 → Int32 → Option (Int32 × (Nat → Int32))} (hag4 : ∀ {v_party_known : Nat → Int32} {y1 : Int32} {y2 : Int32} {y3 : Int32} {H : Heap} {locs : List Loc} {ls : Array Slot}, q_H D A s (wX4_cheapestFor cI cJ cZ cS a_t a_party a_party_kinds a_party_costs a_party_terms a_party_known a_kept a_tape a_telephone a_sheets a_findings v_isKept v_party_size v_party_list v_party_told v_party_kinds v_party_costs v_party_terms v_party_known) H locs → lv_has ls 5 [(0, .ref a_t), (1, .int y1), (2, .int y2), (3, .int y3)] → ag4 v_party_known y1 y2 y3 = some (rr, kk') → W p l e rX4_cheapestFor s m args below meth c H locs 0 0 (MQ below (q_Ri D rr A ((fun k : (Nat → Int32) => (wX4_cheapestFor cI cJ cZ cS a_t a_party a_party_kinds a_party_costs a_party_terms a_party_known a_kept a_tape a_telephone a_sheets a_findings v_isKept v_party_size v_party_list v_party_told v_party_kinds v_party_costs v_party_terms k)) kk')) args s 0 0 A) (F0 m 4 ls [])) : ∀ {v_party_known : Nat → Int32} {y1 : Int32} {y2 : Int32} {y3 : Int32} {H : Heap} {locs : List Loc} {ls : Array Slot}, q_H D A s (wX4_cheapestFor cI cJ cZ cS a_t a_party a_party_kinds a_party_costs a_party_terms a_party_known a_kept a_tape a_telephone a_sheets a_findings v_isKept v_party_size v_party_list v_party_told v_party_kinds v_party_costs v_party_terms v_party_known) H locs → lv_has ls 5 [(0, .ref a_t), (1, .int y1), (2, .int y2), (3, .int y3)] → fX4_cheapestFor_28 v_party_size v_party_kinds v_party_costs v_party_terms ag4 v_party_known y1 y2 y3 = some (rr, kk') → W p l e rX4_cheapestFor s m args below meth c H locs 0 0 (MQ below (q_Ri D rr A ((fun k : (Nat → Int32) => (wX4_cheapestFor cI cJ cZ cS a_t a_party a_party_kinds a_party_costs a_party_terms a_party_known a_kept a_tape a_telephone a_sheets a_findings v_isKept v_party_size v_party_list v_party_told v_party_kinds v_party_costs v_party_terms k)) kk')) args s 0 0 A) (F0 m 28 ls []) := by
  intro v_party_known y1 y2 y3 H locs ls h hl hf
  have hx := fx.1
  have hb := fx.2.1
  unfold fX4_cheapestFor_28 at hf
  refine lv_iconst (v := 1) hx hb dX4_cheapestFor_28 (by decide) ?_
  refine lv_goto (tgt := 33) hx hb dX4_cheapestFor_29 (by decide) ?_
  exact LX4_cheapestFor_33 fx hag4 h (lv_sub hl [0, 1, 2, 3] rfl) hf
def fX4_cheapestFor_4 (v_party_size : Int32) (v_party_kinds : Nat → Int32) (v_party_costs : Nat → Int32) (v_party_terms : Nat → Int64) (ag4 : (Nat → Int32) → Int32 → Int32 → Int32 → Option (Int32 × (Nat → Int32))) (v_party_known : Nat → Int32) (y1 : Int32) (y2 : Int32) (y3 : Int32) : Option (Int32 × (Nat → Int32)) :=
  bR (fX0_lists v_party_size) (fun r7 k7 =>
  (if r7 ≤ y3 then (
  some (y2, v_party_known))
  else (
  (if y2 < 0 then (
  fX4_cheapestFor_28 v_party_size v_party_kinds v_party_costs v_party_terms ag4 v_party_known y1 y2 y3)
  else (
  bR (fX4_isCheaper v_party_size v_party_costs y3 y2) (fun r10 k10 =>
  (if r10 = 0 then (
  fX4_cheapestFor_33 v_party_size v_party_kinds v_party_costs v_party_terms ag4 v_party_known 0 y1 y2 y3)
  else (
  fX4_cheapestFor_28 v_party_size v_party_kinds v_party_costs v_party_terms ag4 v_party_known y1 y2 y3))))))))
set_option maxRecDepth 100000 in
set_option maxHeartbeats 4000000 in
theorem LX4_cheapestFor_4 {p : Program} {l : Launch} {e : Env} {s : State} {m : MethodId} {args : Array Value} {below : List Frame} {meth : Method} {c : Code} {D : va_G} {cI cJ cZ cS : ClassId} {tb : Nat} {A : Nat → Prop} {a_t a_party a_party_kinds a_party_costs a_party_terms a_party_known a_kept a_tape a_telephone a_sheets a_findings : Nat} {v_isKept : Int32} {v_party_size : Int32} {v_party_list : Int32} {v_party_told : Int32} {v_party_kinds : Nat → Int32} {v_party_costs : Nat → Int32} {v_party_terms : Nat → Int64} {rr : Int32} {kk' : (Nat → Int32)} (fx : q_Fx p s m args meth c cX4_cheapestFor 5 RX4 (some .int) D cI cJ cZ cS tb A) {ag4 : (Nat → Int32) → Int32 → Int32 → Int32 → Option (Int32 × (Nat → Int32))} (hag4 : ∀ {v_party_known : Nat → Int32} {y1 : Int32} {y2 : Int32} {y3 : Int32} {H : Heap} {locs : List Loc} {ls : Array Slot}, q_H D A s (wX4_cheapestFor cI cJ cZ cS a_t a_party a_party_kinds a_party_costs a_party_terms a_party_known a_kept a_tape a_telephone a_sheets a_findings v_isKept v_party_size v_party_list v_party_told v_party_kinds v_party_costs v_party_terms v_party_known) H locs → lv_has ls 5 [(0, .ref a_t), (1, .int y1), (2, .int y2), (3, .int y3)] → ag4 v_party_known y1 y2 y3 = some (rr, kk') → W p l e rX4_cheapestFor s m args below meth c H locs 0 0 (MQ below (q_Ri D rr A ((fun k : (Nat → Int32) => (wX4_cheapestFor cI cJ cZ cS a_t a_party a_party_kinds a_party_costs a_party_terms a_party_known a_kept a_tape a_telephone a_sheets a_findings v_isKept v_party_size v_party_list v_party_told v_party_kinds v_party_costs v_party_terms k)) kk')) args s 0 0 A) (F0 m 4 ls [])) : ∀ {v_party_known : Nat → Int32} {y1 : Int32} {y2 : Int32} {y3 : Int32} {H : Heap} {locs : List Loc} {ls : Array Slot}, q_H D A s (wX4_cheapestFor cI cJ cZ cS a_t a_party a_party_kinds a_party_costs a_party_terms a_party_known a_kept a_tape a_telephone a_sheets a_findings v_isKept v_party_size v_party_list v_party_told v_party_kinds v_party_costs v_party_terms v_party_known) H locs → lv_has ls 5 [(0, .ref a_t), (1, .int y1), (2, .int y2), (3, .int y3)] → fX4_cheapestFor_4 v_party_size v_party_kinds v_party_costs v_party_terms ag4 v_party_known y1 y2 y3 = some (rr, kk') → W p l e rX4_cheapestFor s m args below meth c H locs 0 0 (MQ below (q_Ri D rr A ((fun k : (Nat → Int32) => (wX4_cheapestFor cI cJ cZ cS a_t a_party a_party_kinds a_party_costs a_party_terms a_party_known a_kept a_tape a_telephone a_sheets a_findings v_isKept v_party_size v_party_list v_party_told v_party_kinds v_party_costs v_party_terms k)) kk')) args s 0 0 A) (F0 m 4 ls []) := by
  intro v_party_known y1 y2 y3 H locs ls h hl hf
  have hx := fx.1
  have hb := fx.2.1
  unfold fX4_cheapestFor_4 at hf
  refine lv_iload_n hx hb dX4_cheapestFor_4 rfl (lv_at hl 3 rfl) ?_
  refine lv_aload_n hx hb dX4_cheapestFor_5 rfl (lv_at hl 0 rfl) ?_
  refine q_get (v := .ref a_party) fx inX4 h 0 rfl rfl 0 (by decide) k_174 rfl dX4_cheapestFor_6 ?_
  obtain ⟨r7, k7, hg, hf⟩ := bR_inv hf
  refine q_ci (rest := [.int y3]) (ws' := (wX4_cheapestFor cI cJ cZ cS a_t a_party a_party_kinds a_party_costs a_party_terms a_party_known a_kept a_tape a_telephone a_sheets a_findings v_isKept v_party_size v_party_list v_party_told v_party_kinds v_party_costs v_party_terms v_party_known)) (w1 := (wX0_lists cI cJ cZ cS a_party a_party_kinds a_party_costs a_party_terms a_party_known v_party_size v_party_list v_party_told)) fx h [1] rfl rfl rfl rfl (q_runV fx h hl.1 [1] rfl rfl (tX0_lists l D cI cJ cZ cS tb a_party a_party_kinds a_party_costs a_party_terms a_party_known H.size v_party_size v_party_list v_party_told r7 k7 hg) mvX0_lists k_447 ⟨rfl, rfl⟩ ⟨Nat.le_of_ble_eq_true rfl, Nat.le_of_ble_eq_true rfl⟩ rfl rfl rfl rfl (Nat.le_of_ble_eq_true rfl) dX4_cheapestFor_9 ⟨Nat.le_of_ble_eq_true rfl, Nat.le_of_ble_eq_true rfl⟩) (fun H locs h => ?_)
  refine lv_icmp_ge (tgt := 70) hx hb dX4_cheapestFor_12 (by decide) (fun c8 => ?_) (fun c8 => ?_)
  · have hf := it_t c8 hf
    refine lv_iload_n hx hb dX4_cheapestFor_70 rfl (lv_at hl 2 rfl) ?_
    exact q_reti (fun k : (Nat → Int32) => (wX4_cheapestFor cI cJ cZ cS a_t a_party a_party_kinds a_party_costs a_party_terms a_party_known a_kept a_tape a_telephone a_sheets a_findings v_isKept v_party_size v_party_list v_party_told v_party_kinds v_party_costs v_party_terms k)) fx hf h dX4_cheapestFor_71
  have hf := it_f c8 hf
  refine lv_iload_n hx hb dX4_cheapestFor_15 rfl (lv_at hl 2 rfl) ?_
  refine lv_if_lt (tgt := 28) hx hb dX4_cheapestFor_16 (by decide) (fun c9 => ?_) (fun c9 => ?_)
  · have hf := it_t c9 hf
    exact LX4_cheapestFor_28 fx hag4 h (lv_sub hl [0, 1, 2, 3] rfl) hf
  have hf := it_f c9 hf
  refine lv_aload_n hx hb dX4_cheapestFor_19 rfl (lv_at hl 0 rfl) ?_
  refine lv_iload_n hx hb dX4_cheapestFor_20 rfl (lv_at hl 3 rfl) ?_
  refine lv_iload_n hx hb dX4_cheapestFor_21 rfl (lv_at hl 2 rfl) ?_
  obtain ⟨r10, k10, hg, hf⟩ := bR_inv hf
  refine q_ci (rest := []) (ws' := (wX4_cheapestFor cI cJ cZ cS a_t a_party a_party_kinds a_party_costs a_party_terms a_party_known a_kept a_tape a_telephone a_sheets a_findings v_isKept v_party_size v_party_list v_party_told v_party_kinds v_party_costs v_party_terms v_party_known)) (w1 := (wX4_isCheaper cI cJ cZ cS a_t a_party a_party_kinds a_party_costs a_party_terms a_party_known a_kept a_tape a_telephone a_sheets a_findings v_isKept v_party_size v_party_list v_party_told v_party_costs)) fx h [0, 1, 3] rfl rfl rfl rfl (q_runV fx h hl.1 [0, 1, 3] rfl rfl (tX4_isCheaper l D cI cJ cZ cS tb a_t a_party a_party_kinds a_party_costs a_party_terms a_party_known a_kept a_tape a_telephone a_sheets a_findings H.size v_isKept v_party_size v_party_list v_party_told v_party_costs y3 y2 r10 k10 hg) mvX4_isCheaper k_491 ⟨rfl, rfl⟩ ⟨Nat.le_of_ble_eq_true rfl, Nat.le_of_ble_eq_true rfl⟩ rfl rfl rfl rfl (Nat.le_of_ble_eq_true rfl) dX4_cheapestFor_22 ⟨Nat.le_of_ble_eq_true rfl, Nat.le_of_ble_eq_true rfl⟩) (fun H locs h => ?_)
  refine lv_if_eq (tgt := 32) hx hb dX4_cheapestFor_25 (by decide) (fun c11 => ?_) (fun c11 => ?_)
  · have hf := it_t c11 hf
    refine lv_iconst (v := 0) hx hb dX4_cheapestFor_32 (by decide) ?_
    exact LX4_cheapestFor_33 fx hag4 h (lv_sub hl [0, 1, 2, 3] rfl) hf
  have hf := it_f c11 hf
  exact LX4_cheapestFor_28 fx hag4 h (lv_sub hl [0, 1, 2, 3] rfl) hf
set_option maxRecDepth 100000 in
theorem EX4_cheapestFor_4 {p : Program} {l : Launch} {e : Env} {s : State} {m : MethodId} {args : Array Value} {below : List Frame} {meth : Method} {c : Code} {D : va_G} {cI cJ cZ cS : ClassId} {tb : Nat} {A : Nat → Prop} {a_t a_party a_party_kinds a_party_costs a_party_terms a_party_known a_kept a_tape a_telephone a_sheets a_findings : Nat} {v_isKept : Int32} {v_party_size : Int32} {v_party_list : Int32} {v_party_told : Int32} {v_party_kinds : Nat → Int32} {v_party_costs : Nat → Int32} {v_party_terms : Nat → Int64} {rr : Int32} {kk' : (Nat → Int32)} (fx : q_Fx p s m args meth c cX4_cheapestFor 5 RX4 (some .int) D cI cJ cZ cS tb A) : ∀ (n : Nat), ∀ {v_party_known : Nat → Int32} {y1 : Int32} {y2 : Int32} {y3 : Int32} {H : Heap} {locs : List Loc} {ls : Array Slot}, q_H D A s (wX4_cheapestFor cI cJ cZ cS a_t a_party a_party_kinds a_party_costs a_party_terms a_party_known a_kept a_tape a_telephone a_sheets a_findings v_isKept v_party_size v_party_list v_party_told v_party_kinds v_party_costs v_party_terms v_party_known) H locs → lv_has ls 5 [(0, .ref a_t), (1, .int y1), (2, .int y2), (3, .int y3)] → ll4 (fX4_cheapestFor_4 v_party_size v_party_kinds v_party_costs v_party_terms) n v_party_known y1 y2 y3 = some (rr, kk') → W p l e rX4_cheapestFor s m args below meth c H locs 0 0 (MQ below (q_Ri D rr A ((fun k : (Nat → Int32) => (wX4_cheapestFor cI cJ cZ cS a_t a_party a_party_kinds a_party_costs a_party_terms a_party_known a_kept a_tape a_telephone a_sheets a_findings v_isKept v_party_size v_party_list v_party_told v_party_kinds v_party_costs v_party_terms k)) kk')) args s 0 0 A) (F0 m 4 ls []) := by
  intro n
  induction n with
  | zero => intro v_party_known y1 y2 y3 H locs ls h hl hf; exact (ll4_z hf).elim
  | succ n ih => intro v_party_known y1 y2 y3 H locs ls h hl hf; exact LX4_cheapestFor_4 fx ih h hl (ll4_s hf)
def fX4_cheapestFor (v_party_size : Int32) (v_party_kinds : Nat → Int32) (v_party_costs : Nat → Int32) (v_party_terms : Nat → Int64) (v_party_known : Nat → Int32) (x1 : Int32) : Option (Int32 × (Nat → Int32)) :=
  ll4 (fX4_cheapestFor_4 v_party_size v_party_kinds v_party_costs v_party_terms) qF v_party_known x1 (-1) 0
set_option maxRecDepth 100000 in
set_option maxHeartbeats 4000000 in
theorem tX4_cheapestFor (l : Launch) (D : va_G) (cI cJ cZ cS : ClassId) (tb : Nat) (a_t a_party a_party_kinds a_party_costs a_party_terms a_party_known a_kept a_tape a_telephone a_sheets a_findings : Nat) (sz : Nat) (v_isKept : Int32) (v_party_size : Int32) (v_party_list : Int32) (v_party_told : Int32) (v_party_kinds : Nat → Int32) (v_party_costs : Nat → Int32) (v_party_terms : Nat → Int64) (v_party_known : Nat → Int32) (x1 : Int32) (rr : Int32) (kk' : (Nat → Int32)) (hf : fX4_cheapestFor v_party_size v_party_kinds v_party_costs v_party_terms v_party_known x1 = some (rr, kk')) : Met l yX4_cheapestFor (Cond.code yX4_cheapestFor cX4_cheapestFor 5 (some .int) :: wA) rX4_cheapestFor (q_Pre D cI cJ cZ cS tb [.ref a_t, .int x1] sz (wX4_cheapestFor cI cJ cZ cS a_t a_party a_party_kinds a_party_costs a_party_terms a_party_known a_kept a_tape a_telephone a_sheets a_findings v_isKept v_party_size v_party_list v_party_told v_party_kinds v_party_costs v_party_terms v_party_known)) (q_Ri D rr (va_A (wX4_cheapestFor cI cJ cZ cS a_t a_party a_party_kinds a_party_costs a_party_terms a_party_known a_kept a_tape a_telephone a_sheets a_findings v_isKept v_party_size v_party_list v_party_told v_party_kinds v_party_costs v_party_terms v_party_known) sz) ((fun k : (Nat → Int32) => (wX4_cheapestFor cI cJ cZ cS a_t a_party a_party_kinds a_party_costs a_party_terms a_party_known a_kept a_tape a_telephone a_sheets a_findings v_isKept v_party_size v_party_list v_party_told v_party_kinds v_party_costs v_party_terms k)) kk')) 0 0 (va_A (wX4_cheapestFor cI cJ cZ cS a_t a_party a_party_kinds a_party_costs a_party_terms a_party_known a_kept a_tape a_telephone a_sheets a_findings v_isKept v_party_size v_party_list v_party_told v_party_kinds v_party_costs v_party_terms v_party_known) sz) := by
  refine q_enter (Qf := fun A => (q_Ri D rr A ((fun k : (Nat → Int32) => (wX4_cheapestFor cI cJ cZ cS a_t a_party a_party_kinds a_party_costs a_party_terms a_party_known a_kept a_tape a_telephone a_sheets a_findings v_isKept v_party_size v_party_list v_party_told v_party_kinds v_party_costs v_party_terms k)) kk'))) (by decide) rfl (Nat.le_of_ble_eq_true rfl) ?_
  intro p e s m below meth c A ls fx hname h hl
  have hx := fx.1
  have hb := fx.2.1
  have hl : lv_has ls 5 [(0, .ref a_t), (1, .int x1)] := hl
  generalize h9 : s.heap = H at h ⊢
  clear h9
  generalize h9 : ([] : List Loc) = locs at h ⊢
  clear h9
  unfold fX4_cheapestFor at hf
  refine lv_iconst (v := -1) hx hb dX4_cheapestFor_0 (by decide) ?_
  refine lv_istore_n (lv' := [(2, .int (-1)), (0, .ref a_t), (1, .int x1)]) hx hb dX4_cheapestFor_1 rfl hl (by decide) rfl (fun ls hl => ?_)
  refine lv_iconst (v := 0) hx hb dX4_cheapestFor_2 (by decide) ?_
  refine lv_istore_n (lv' := [(3, .int 0), (2, .int (-1)), (0, .ref a_t), (1, .int x1)]) hx hb dX4_cheapestFor_3 rfl hl (by decide) rfl (fun ls hl => ?_)
  exact EX4_cheapestFor_4 fx qF h (lv_sub hl [2, 3, 1, 0] rfl) hf
/-! X4_buys -/
abbrev wX4_buys (cI cJ cZ cS : ClassId) (a_t a_party a_party_kinds a_party_costs a_party_terms a_party_known a_kept a_tape a_telephone a_sheets a_findings : Nat) (v_isKept : Int32) (v_party_size : Int32) (v_party_list : Int32) (v_party_told : Int32) (v_party_kinds : Nat → Int32) (v_party_costs : Nat → Int32) (v_party_terms : Nat → Int64) (v_party_known : Nat → Int32) (v_findings : Nat → Int32) : va_W := [(a_t, .inr (4, [.ref a_party, .ref a_kept, .int v_isKept, .ref a_tape, .ref a_telephone, .ref a_sheets, .ref a_findings])), (a_party, .inr (0, [.int v_party_size, .int v_party_list, .int v_party_told, .ref a_party_kinds, .ref a_party_costs, .ref a_party_terms, .ref a_party_known])), (a_party_kinds, .inl (cI, 8, .inl v_party_kinds)), (a_party_costs, .inl (cI, 8, .inl v_party_costs)), (a_party_terms, .inl (cJ, 32, .inr (.inl v_party_terms))), (a_party_known, .inl (cI, 256, .inl v_party_known)), (a_findings, .inl (cI, 7, .inl v_findings))]
abbrev rX4_buys : Room := { frames := 6, cells := 0, slots := 0, locals := 139 }
def fX4_buys_10 (v_party_size : Int32) (v_party_kinds : Nat → Int32) (v_party_costs : Nat → Int32) (v_party_terms : Nat → Int64) (v_party_known : Nat → Int32) (v_findings : Nat → Int32) : Option (Int32 × (Nat → Int32) × (Nat → Int32)) :=
  bR (fX4_found v_findings (-1000000001)) (fun r1 k1 =>
  some (r1, (v_party_known, k1)))
set_option maxRecDepth 100000 in
set_option maxHeartbeats 4000000 in
theorem LX4_buys_10 {p : Program} {l : Launch} {e : Env} {s : State} {m : MethodId} {args : Array Value} {below : List Frame} {meth : Method} {c : Code} {D : va_G} {cI cJ cZ cS : ClassId} {tb : Nat} {A : Nat → Prop} {a_t a_party a_party_kinds a_party_costs a_party_terms a_party_known a_kept a_tape a_telephone a_sheets a_findings : Nat} {v_isKept : Int32} {v_party_size : Int32} {v_party_list : Int32} {v_party_told : Int32} {v_party_kinds : Nat → Int32} {v_party_costs : Nat → Int32} {v_party_terms : Nat → Int64} {rr : Int32} {kk' : (Nat → Int32) × (Nat → Int32)} (fx : q_Fx p s m args meth c cX4_buys 3 RX4 (some .int) D cI cJ cZ cS tb A) : ∀ {v_party_known : Nat → Int32} {v_findings : Nat → Int32} {H : Heap} {locs : List Loc} {ls : Array Slot}, q_H D A s (wX4_buys cI cJ cZ cS a_t a_party a_party_kinds a_party_costs a_party_terms a_party_known a_kept a_tape a_telephone a_sheets a_findings v_isKept v_party_size v_party_list v_party_told v_party_kinds v_party_costs v_party_terms v_party_known v_findings) H locs → lv_has ls 3 [(0, .ref a_t)] → fX4_buys_10 v_party_size v_party_kinds v_party_costs v_party_terms v_party_known v_findings = some (rr, kk') → W p l e rX4_buys s m args below meth c H locs 0 0 (MQ below (q_Ri D rr A ((fun k : (Nat → Int32) × (Nat → Int32) => (wX4_buys cI cJ cZ cS a_t a_party a_party_kinds a_party_costs a_party_terms a_party_known a_kept a_tape a_telephone a_sheets a_findings v_isKept v_party_size v_party_list v_party_told v_party_kinds v_party_costs v_party_terms k.1 k.2)) kk')) args s 0 0 A) (F0 m 10 ls []) := by
  intro v_party_known v_findings H locs ls h hl hf
  have hx := fx.1
  have hb := fx.2.1
  unfold fX4_buys_10 at hf
  refine lv_aload_n hx hb dX4_buys_10 rfl (lv_at hl 0 rfl) ?_
  refine q_ldc fx k_206 dX4_buys_11 ?_
  obtain ⟨r1, k1, hg, hf⟩ := bR_inv hf
  refine q_ci (rest := []) (ws' := (wX4_buys cI cJ cZ cS a_t a_party a_party_kinds a_party_costs a_party_terms a_party_known a_kept a_tape a_telephone a_sheets a_findings v_isKept v_party_size v_party_list v_party_told v_party_kinds v_party_costs v_party_terms v_party_known k1)) (w1 := (wX4_found cI cJ cZ cS a_t a_party a_kept a_tape a_telephone a_sheets a_findings v_isKept k1)) fx h [0, 6] rfl rfl rfl rfl (q_runV fx h hl.1 [0, 6] rfl rfl (tX4_found l D cI cJ cZ cS tb a_t a_party a_kept a_tape a_telephone a_sheets a_findings H.size v_isKept v_findings (-1000000001) r1 k1 hg) mvX4_found k_207 ⟨rfl, rfl⟩ ⟨Nat.le_of_ble_eq_true rfl, Nat.le_of_ble_eq_true rfl⟩ rfl rfl rfl rfl (Nat.le_of_ble_eq_true rfl) dX4_buys_13 ⟨Nat.le_of_ble_eq_true rfl, Nat.le_of_ble_eq_true rfl⟩) (fun H locs h => ?_)
  exact q_reti (fun k : (Nat → Int32) × (Nat → Int32) => (wX4_buys cI cJ cZ cS a_t a_party a_party_kinds a_party_costs a_party_terms a_party_known a_kept a_tape a_telephone a_sheets a_findings v_isKept v_party_size v_party_list v_party_told v_party_kinds v_party_costs v_party_terms k.1 k.2)) fx hf h dX4_buys_16
def fX4_buys (v_party_size : Int32) (v_party_kinds : Nat → Int32) (v_party_costs : Nat → Int32) (v_party_terms : Nat → Int64) (v_party_known : Nat → Int32) (v_findings : Nat → Int32) (x1 : Int32) : Option (Int32 × (Nat → Int32) × (Nat → Int32)) :=
  (if x1 < 0 then (
  fX4_buys_10 v_party_size v_party_kinds v_party_costs v_party_terms v_party_known v_findings)
  else (
  (if x1 ≤ 8 then (
  bR (fX4_cheapestFor v_party_size v_party_kinds v_party_costs v_party_terms v_party_known x1) (fun r4 k4 =>
  (if (0 : Int32) ≤ r4 then (
  some (r4, (k4, v_findings)))
  else (
  bR (fX4_found v_findings (-1000000004)) (fun r6 k6 =>
  some (r6, (k4, k6)))))))
  else (
  fX4_buys_10 v_party_size v_party_kinds v_party_costs v_party_terms v_party_known v_findings))))
set_option maxRecDepth 100000 in
set_option maxHeartbeats 4000000 in
theorem tX4_buys (l : Launch) (D : va_G) (cI cJ cZ cS : ClassId) (tb : Nat) (a_t a_party a_party_kinds a_party_costs a_party_terms a_party_known a_kept a_tape a_telephone a_sheets a_findings : Nat) (sz : Nat) (v_isKept : Int32) (v_party_size : Int32) (v_party_list : Int32) (v_party_told : Int32) (v_party_kinds : Nat → Int32) (v_party_costs : Nat → Int32) (v_party_terms : Nat → Int64) (v_party_known : Nat → Int32) (v_findings : Nat → Int32) (x1 : Int32) (rr : Int32) (kk' : (Nat → Int32) × (Nat → Int32)) (hf : fX4_buys v_party_size v_party_kinds v_party_costs v_party_terms v_party_known v_findings x1 = some (rr, kk')) : Met l yX4_buys (Cond.code yX4_buys cX4_buys 3 (some .int) :: wA) rX4_buys (q_Pre D cI cJ cZ cS tb [.ref a_t, .int x1] sz (wX4_buys cI cJ cZ cS a_t a_party a_party_kinds a_party_costs a_party_terms a_party_known a_kept a_tape a_telephone a_sheets a_findings v_isKept v_party_size v_party_list v_party_told v_party_kinds v_party_costs v_party_terms v_party_known v_findings)) (q_Ri D rr (va_A (wX4_buys cI cJ cZ cS a_t a_party a_party_kinds a_party_costs a_party_terms a_party_known a_kept a_tape a_telephone a_sheets a_findings v_isKept v_party_size v_party_list v_party_told v_party_kinds v_party_costs v_party_terms v_party_known v_findings) sz) ((fun k : (Nat → Int32) × (Nat → Int32) => (wX4_buys cI cJ cZ cS a_t a_party a_party_kinds a_party_costs a_party_terms a_party_known a_kept a_tape a_telephone a_sheets a_findings v_isKept v_party_size v_party_list v_party_told v_party_kinds v_party_costs v_party_terms k.1 k.2)) kk')) 0 0 (va_A (wX4_buys cI cJ cZ cS a_t a_party a_party_kinds a_party_costs a_party_terms a_party_known a_kept a_tape a_telephone a_sheets a_findings v_isKept v_party_size v_party_list v_party_told v_party_kinds v_party_costs v_party_terms v_party_known v_findings) sz) := by
  refine q_enter (Qf := fun A => (q_Ri D rr A ((fun k : (Nat → Int32) × (Nat → Int32) => (wX4_buys cI cJ cZ cS a_t a_party a_party_kinds a_party_costs a_party_terms a_party_known a_kept a_tape a_telephone a_sheets a_findings v_isKept v_party_size v_party_list v_party_told v_party_kinds v_party_costs v_party_terms k.1 k.2)) kk'))) (by decide) rfl (Nat.le_of_ble_eq_true rfl) ?_
  intro p e s m below meth c A ls fx hname h hl
  have hx := fx.1
  have hb := fx.2.1
  have hl : lv_has ls 3 [(0, .ref a_t), (1, .int x1)] := hl
  generalize h9 : s.heap = H at h ⊢
  clear h9
  generalize h9 : ([] : List Loc) = locs at h ⊢
  clear h9
  unfold fX4_buys at hf
  refine lv_iload_n hx hb dX4_buys_0 rfl (lv_at hl 1 rfl) ?_
  refine lv_if_lt (tgt := 10) hx hb dX4_buys_1 (by decide) (fun c2 => ?_) (fun c2 => ?_)
  · have hf := it_t c2 hf
    exact LX4_buys_10 fx h (lv_sub hl [0] rfl) hf
  have hf := it_f c2 hf
  refine lv_iload_n hx hb dX4_buys_4 rfl (lv_at hl 1 rfl) ?_
  refine lv_bipush (v := 8) hx hb dX4_buys_5 (by decide) ?_
  refine lv_icmp_le (tgt := 17) hx hb dX4_buys_7 (by decide) (fun c3 => ?_) (fun c3 => ?_)
  · have hf := it_t c3 hf
    refine lv_aload_n hx hb dX4_buys_17 rfl (lv_at hl 0 rfl) ?_
    refine lv_iload_n hx hb dX4_buys_18 rfl (lv_at hl 1 rfl) ?_
    obtain ⟨r4, k4, hg, hf⟩ := bR_inv hf
    refine q_ci (rest := []) (ws' := (wX4_buys cI cJ cZ cS a_t a_party a_party_kinds a_party_costs a_party_terms a_party_known a_kept a_tape a_telephone a_sheets a_findings v_isKept v_party_size v_party_list v_party_told v_party_kinds v_party_costs v_party_terms k4 v_findings)) (w1 := (wX4_cheapestFor cI cJ cZ cS a_t a_party a_party_kinds a_party_costs a_party_terms a_party_known a_kept a_tape a_telephone a_sheets a_findings v_isKept v_party_size v_party_list v_party_told v_party_kinds v_party_costs v_party_terms k4)) fx h [0, 1, 2, 3, 4, 5] rfl rfl rfl rfl (q_runV fx h hl.1 [0, 1, 2, 3, 4, 5] rfl rfl (tX4_cheapestFor l D cI cJ cZ cS tb a_t a_party a_party_kinds a_party_costs a_party_terms a_party_known a_kept a_tape a_telephone a_sheets a_findings H.size v_isKept v_party_size v_party_list v_party_told v_party_kinds v_party_costs v_party_terms v_party_known x1 r4 k4 hg) mvX4_cheapestFor k_487 ⟨rfl, rfl⟩ ⟨Nat.le_of_ble_eq_true rfl, Nat.le_of_ble_eq_true rfl⟩ rfl rfl rfl rfl (Nat.le_of_ble_eq_true rfl) dX4_buys_19 ⟨Nat.le_of_ble_eq_true rfl, Nat.le_of_ble_eq_true rfl⟩) (fun H locs h => ?_)
    refine lv_istore_n (lv' := [(2, .int r4), (0, .ref a_t), (1, .int x1)]) hx hb dX4_buys_22 rfl hl (by decide) rfl (fun ls hl => ?_)
    refine lv_iload_n hx hb dX4_buys_23 rfl (lv_at hl 0 rfl) ?_
    refine lv_if_ge (tgt := 36) hx hb dX4_buys_24 (by decide) (fun c5 => ?_) (fun c5 => ?_)
    · have hf := it_t c5 hf
      refine lv_iload_n hx hb dX4_buys_36 rfl (lv_at hl 0 rfl) ?_
      exact q_reti (fun k : (Nat → Int32) × (Nat → Int32) => (wX4_buys cI cJ cZ cS a_t a_party a_party_kinds a_party_costs a_party_terms a_party_known a_kept a_tape a_telephone a_sheets a_findings v_isKept v_party_size v_party_list v_party_told v_party_kinds v_party_costs v_party_terms k.1 k.2)) fx hf h dX4_buys_37
    have hf := it_f c5 hf
    refine lv_aload_n hx hb dX4_buys_27 rfl (lv_at hl 1 rfl) ?_
    refine q_ldc fx k_402 dX4_buys_28 ?_
    obtain ⟨r6, k6, hg, hf⟩ := bR_inv hf
    refine q_ci (rest := []) (ws' := (wX4_buys cI cJ cZ cS a_t a_party a_party_kinds a_party_costs a_party_terms a_party_known a_kept a_tape a_telephone a_sheets a_findings v_isKept v_party_size v_party_list v_party_told v_party_kinds v_party_costs v_party_terms k4 k6)) (w1 := (wX4_found cI cJ cZ cS a_t a_party a_kept a_tape a_telephone a_sheets a_findings v_isKept k6)) fx h [0, 6] rfl rfl rfl rfl (q_runV fx h hl.1 [0, 6] rfl rfl (tX4_found l D cI cJ cZ cS tb a_t a_party a_kept a_tape a_telephone a_sheets a_findings H.size v_isKept v_findings (-1000000004) r6 k6 hg) mvX4_found k_207 ⟨rfl, rfl⟩ ⟨Nat.le_of_ble_eq_true rfl, Nat.le_of_ble_eq_true rfl⟩ rfl rfl rfl rfl (Nat.le_of_ble_eq_true rfl) dX4_buys_30 ⟨Nat.le_of_ble_eq_true rfl, Nat.le_of_ble_eq_true rfl⟩) (fun H locs h => ?_)
    refine lv_goto (tgt := 37) hx hb dX4_buys_33 (by decide) ?_
    exact q_reti (fun k : (Nat → Int32) × (Nat → Int32) => (wX4_buys cI cJ cZ cS a_t a_party a_party_kinds a_party_costs a_party_terms a_party_known a_kept a_tape a_telephone a_sheets a_findings v_isKept v_party_size v_party_list v_party_told v_party_kinds v_party_costs v_party_terms k.1 k.2)) fx hf h dX4_buys_37
  have hf := it_f c3 hf
  exact LX4_buys_10 fx h (lv_sub hl [0] rfl) hf
/-! X4_price -/
abbrev wX4_price (cI cJ cZ cS : ClassId) (a_t a_party a_party_kinds a_party_costs a_party_terms a_party_known a_kept a_tape a_telephone a_sheets a_findings : Nat) (v_isKept : Int32) (v_party_size : Int32) (v_party_list : Int32) (v_party_told : Int32) (v_party_kinds : Nat → Int32) (v_party_costs : Nat → Int32) (v_party_terms : Nat → Int64) (v_party_known : Nat → Int32) (v_findings : Nat → Int32) : va_W := [(a_t, .inr (4, [.ref a_party, .ref a_kept, .int v_isKept, .ref a_tape, .ref a_telephone, .ref a_sheets, .ref a_findings])), (a_party, .inr (0, [.int v_party_size, .int v_party_list, .int v_party_told, .ref a_party_kinds, .ref a_party_costs, .ref a_party_terms, .ref a_party_known])), (a_party_kinds, .inl (cI, 8, .inl v_party_kinds)), (a_party_costs, .inl (cI, 8, .inl v_party_costs)), (a_party_terms, .inl (cJ, 32, .inr (.inl v_party_terms))), (a_party_known, .inl (cI, 256, .inl v_party_known)), (a_findings, .inl (cI, 7, .inl v_findings))]
abbrev rX4_price : Room := { frames := 6, cells := 0, slots := 0, locals := 139 }
def fX4_price_10 (v_party_size : Int32) (v_party_kinds : Nat → Int32) (v_party_costs : Nat → Int32) (v_party_terms : Nat → Int64) (v_party_known : Nat → Int32) (v_findings : Nat → Int32) : Option (Int32 × (Nat → Int32) × (Nat → Int32)) :=
  bR (fX4_found v_findings (-1000000001)) (fun r1 k1 =>
  some (r1, (v_party_known, k1)))
set_option maxRecDepth 100000 in
set_option maxHeartbeats 4000000 in
theorem LX4_price_10 {p : Program} {l : Launch} {e : Env} {s : State} {m : MethodId} {args : Array Value} {below : List Frame} {meth : Method} {c : Code} {D : va_G} {cI cJ cZ cS : ClassId} {tb : Nat} {A : Nat → Prop} {a_t a_party a_party_kinds a_party_costs a_party_terms a_party_known a_kept a_tape a_telephone a_sheets a_findings : Nat} {v_isKept : Int32} {v_party_size : Int32} {v_party_list : Int32} {v_party_told : Int32} {v_party_kinds : Nat → Int32} {v_party_costs : Nat → Int32} {v_party_terms : Nat → Int64} {rr : Int32} {kk' : (Nat → Int32) × (Nat → Int32)} (fx : q_Fx p s m args meth c cX4_price 3 RX4 (some .int) D cI cJ cZ cS tb A) : ∀ {v_party_known : Nat → Int32} {v_findings : Nat → Int32} {H : Heap} {locs : List Loc} {ls : Array Slot}, q_H D A s (wX4_price cI cJ cZ cS a_t a_party a_party_kinds a_party_costs a_party_terms a_party_known a_kept a_tape a_telephone a_sheets a_findings v_isKept v_party_size v_party_list v_party_told v_party_kinds v_party_costs v_party_terms v_party_known v_findings) H locs → lv_has ls 3 [(0, .ref a_t)] → fX4_price_10 v_party_size v_party_kinds v_party_costs v_party_terms v_party_known v_findings = some (rr, kk') → W p l e rX4_price s m args below meth c H locs 0 0 (MQ below (q_Ri D rr A ((fun k : (Nat → Int32) × (Nat → Int32) => (wX4_price cI cJ cZ cS a_t a_party a_party_kinds a_party_costs a_party_terms a_party_known a_kept a_tape a_telephone a_sheets a_findings v_isKept v_party_size v_party_list v_party_told v_party_kinds v_party_costs v_party_terms k.1 k.2)) kk')) args s 0 0 A) (F0 m 10 ls []) := by
  intro v_party_known v_findings H locs ls h hl hf
  have hx := fx.1
  have hb := fx.2.1
  unfold fX4_price_10 at hf
  refine lv_aload_n hx hb dX4_price_10 rfl (lv_at hl 0 rfl) ?_
  refine q_ldc fx k_206 dX4_price_11 ?_
  obtain ⟨r1, k1, hg, hf⟩ := bR_inv hf
  refine q_ci (rest := []) (ws' := (wX4_price cI cJ cZ cS a_t a_party a_party_kinds a_party_costs a_party_terms a_party_known a_kept a_tape a_telephone a_sheets a_findings v_isKept v_party_size v_party_list v_party_told v_party_kinds v_party_costs v_party_terms v_party_known k1)) (w1 := (wX4_found cI cJ cZ cS a_t a_party a_kept a_tape a_telephone a_sheets a_findings v_isKept k1)) fx h [0, 6] rfl rfl rfl rfl (q_runV fx h hl.1 [0, 6] rfl rfl (tX4_found l D cI cJ cZ cS tb a_t a_party a_kept a_tape a_telephone a_sheets a_findings H.size v_isKept v_findings (-1000000001) r1 k1 hg) mvX4_found k_207 ⟨rfl, rfl⟩ ⟨Nat.le_of_ble_eq_true rfl, Nat.le_of_ble_eq_true rfl⟩ rfl rfl rfl rfl (Nat.le_of_ble_eq_true rfl) dX4_price_13 ⟨Nat.le_of_ble_eq_true rfl, Nat.le_of_ble_eq_true rfl⟩) (fun H locs h => ?_)
  exact q_reti (fun k : (Nat → Int32) × (Nat → Int32) => (wX4_price cI cJ cZ cS a_t a_party a_party_kinds a_party_costs a_party_terms a_party_known a_kept a_tape a_telephone a_sheets a_findings v_isKept v_party_size v_party_list v_party_told v_party_kinds v_party_costs v_party_terms k.1 k.2)) fx hf h dX4_price_16
def fX4_price (v_party_size : Int32) (v_party_kinds : Nat → Int32) (v_party_costs : Nat → Int32) (v_party_terms : Nat → Int64) (v_party_known : Nat → Int32) (v_findings : Nat → Int32) (x1 : Int32) : Option (Int32 × (Nat → Int32) × (Nat → Int32)) :=
  (if x1 < 0 then (
  fX4_price_10 v_party_size v_party_kinds v_party_costs v_party_terms v_party_known v_findings)
  else (
  (if x1 ≤ 8 then (
  bR (fX4_cheapestFor v_party_size v_party_kinds v_party_costs v_party_terms v_party_known x1) (fun r4 k4 =>
  (if (0 : Int32) ≤ r4 then (
  bR (fX0_costsOf v_party_size v_party_costs r4) (fun r6 k6 =>
  some (r6, (k4, v_findings))))
  else (
  bR (fX4_found v_findings (-1000000004)) (fun r7 k7 =>
  some (r7, (k4, k7)))))))
  else (
  fX4_price_10 v_party_size v_party_kinds v_party_costs v_party_terms v_party_known v_findings))))
set_option maxRecDepth 100000 in
set_option maxHeartbeats 4000000 in
theorem tX4_price (l : Launch) (D : va_G) (cI cJ cZ cS : ClassId) (tb : Nat) (a_t a_party a_party_kinds a_party_costs a_party_terms a_party_known a_kept a_tape a_telephone a_sheets a_findings : Nat) (sz : Nat) (v_isKept : Int32) (v_party_size : Int32) (v_party_list : Int32) (v_party_told : Int32) (v_party_kinds : Nat → Int32) (v_party_costs : Nat → Int32) (v_party_terms : Nat → Int64) (v_party_known : Nat → Int32) (v_findings : Nat → Int32) (x1 : Int32) (rr : Int32) (kk' : (Nat → Int32) × (Nat → Int32)) (hf : fX4_price v_party_size v_party_kinds v_party_costs v_party_terms v_party_known v_findings x1 = some (rr, kk')) : Met l yX4_price (Cond.code yX4_price cX4_price 3 (some .int) :: wA) rX4_price (q_Pre D cI cJ cZ cS tb [.ref a_t, .int x1] sz (wX4_price cI cJ cZ cS a_t a_party a_party_kinds a_party_costs a_party_terms a_party_known a_kept a_tape a_telephone a_sheets a_findings v_isKept v_party_size v_party_list v_party_told v_party_kinds v_party_costs v_party_terms v_party_known v_findings)) (q_Ri D rr (va_A (wX4_price cI cJ cZ cS a_t a_party a_party_kinds a_party_costs a_party_terms a_party_known a_kept a_tape a_telephone a_sheets a_findings v_isKept v_party_size v_party_list v_party_told v_party_kinds v_party_costs v_party_terms v_party_known v_findings) sz) ((fun k : (Nat → Int32) × (Nat → Int32) => (wX4_price cI cJ cZ cS a_t a_party a_party_kinds a_party_costs a_party_terms a_party_known a_kept a_tape a_telephone a_sheets a_findings v_isKept v_party_size v_party_list v_party_told v_party_kinds v_party_costs v_party_terms k.1 k.2)) kk')) 0 0 (va_A (wX4_price cI cJ cZ cS a_t a_party a_party_kinds a_party_costs a_party_terms a_party_known a_kept a_tape a_telephone a_sheets a_findings v_isKept v_party_size v_party_list v_party_told v_party_kinds v_party_costs v_party_terms v_party_known v_findings) sz) := by
  refine q_enter (Qf := fun A => (q_Ri D rr A ((fun k : (Nat → Int32) × (Nat → Int32) => (wX4_price cI cJ cZ cS a_t a_party a_party_kinds a_party_costs a_party_terms a_party_known a_kept a_tape a_telephone a_sheets a_findings v_isKept v_party_size v_party_list v_party_told v_party_kinds v_party_costs v_party_terms k.1 k.2)) kk'))) (by decide) rfl (Nat.le_of_ble_eq_true rfl) ?_
  intro p e s m below meth c A ls fx hname h hl
  have hx := fx.1
  have hb := fx.2.1
  have hl : lv_has ls 3 [(0, .ref a_t), (1, .int x1)] := hl
  generalize h9 : s.heap = H at h ⊢
  clear h9
  generalize h9 : ([] : List Loc) = locs at h ⊢
  clear h9
  unfold fX4_price at hf
  refine lv_iload_n hx hb dX4_price_0 rfl (lv_at hl 1 rfl) ?_
  refine lv_if_lt (tgt := 10) hx hb dX4_price_1 (by decide) (fun c2 => ?_) (fun c2 => ?_)
  · have hf := it_t c2 hf
    exact LX4_price_10 fx h (lv_sub hl [0] rfl) hf
  have hf := it_f c2 hf
  refine lv_iload_n hx hb dX4_price_4 rfl (lv_at hl 1 rfl) ?_
  refine lv_bipush (v := 8) hx hb dX4_price_5 (by decide) ?_
  refine lv_icmp_le (tgt := 17) hx hb dX4_price_7 (by decide) (fun c3 => ?_) (fun c3 => ?_)
  · have hf := it_t c3 hf
    refine lv_aload_n hx hb dX4_price_17 rfl (lv_at hl 0 rfl) ?_
    refine lv_iload_n hx hb dX4_price_18 rfl (lv_at hl 1 rfl) ?_
    obtain ⟨r4, k4, hg, hf⟩ := bR_inv hf
    refine q_ci (rest := []) (ws' := (wX4_price cI cJ cZ cS a_t a_party a_party_kinds a_party_costs a_party_terms a_party_known a_kept a_tape a_telephone a_sheets a_findings v_isKept v_party_size v_party_list v_party_told v_party_kinds v_party_costs v_party_terms k4 v_findings)) (w1 := (wX4_cheapestFor cI cJ cZ cS a_t a_party a_party_kinds a_party_costs a_party_terms a_party_known a_kept a_tape a_telephone a_sheets a_findings v_isKept v_party_size v_party_list v_party_told v_party_kinds v_party_costs v_party_terms k4)) fx h [0, 1, 2, 3, 4, 5] rfl rfl rfl rfl (q_runV fx h hl.1 [0, 1, 2, 3, 4, 5] rfl rfl (tX4_cheapestFor l D cI cJ cZ cS tb a_t a_party a_party_kinds a_party_costs a_party_terms a_party_known a_kept a_tape a_telephone a_sheets a_findings H.size v_isKept v_party_size v_party_list v_party_told v_party_kinds v_party_costs v_party_terms v_party_known x1 r4 k4 hg) mvX4_cheapestFor k_487 ⟨rfl, rfl⟩ ⟨Nat.le_of_ble_eq_true rfl, Nat.le_of_ble_eq_true rfl⟩ rfl rfl rfl rfl (Nat.le_of_ble_eq_true rfl) dX4_price_19 ⟨Nat.le_of_ble_eq_true rfl, Nat.le_of_ble_eq_true rfl⟩) (fun H locs h => ?_)
    refine lv_istore_n (lv' := [(2, .int r4), (0, .ref a_t), (1, .int x1)]) hx hb dX4_price_22 rfl hl (by decide) rfl (fun ls hl => ?_)
    refine lv_iload_n hx hb dX4_price_23 rfl (lv_at hl 0 rfl) ?_
    refine lv_if_ge (tgt := 36) hx hb dX4_price_24 (by decide) (fun c5 => ?_) (fun c5 => ?_)
    · have hf := it_t c5 hf
      refine lv_aload_n hx hb dX4_price_36 rfl (lv_at hl 1 rfl) ?_
      refine q_get (v := .ref a_party) fx inX4 h 0 rfl rfl 0 (by decide) k_174 rfl dX4_price_37 ?_
      refine lv_iload_n hx hb dX4_price_40 rfl (lv_at hl 0 rfl) ?_
      obtain ⟨r6, k6, hg, hf⟩ := bR_inv hf
      refine q_ci (rest := []) (ws' := (wX4_price cI cJ cZ cS a_t a_party a_party_kinds a_party_costs a_party_terms a_party_known a_kept a_tape a_telephone a_sheets a_findings v_isKept v_party_size v_party_list v_party_told v_party_kinds v_party_costs v_party_terms k4 v_findings)) (w1 := (wX0_costsOf cI cJ cZ cS a_party a_party_kinds a_party_costs a_party_terms a_party_known v_party_size v_party_list v_party_told v_party_costs)) fx h [1, 3] rfl rfl rfl rfl (q_runV fx h hl.1 [1, 3] rfl rfl (tX0_costsOf l D cI cJ cZ cS tb a_party a_party_kinds a_party_costs a_party_terms a_party_known H.size v_party_size v_party_list v_party_told v_party_costs r4 r6 k6 hg) mvX0_costsOf k_363 ⟨rfl, rfl⟩ ⟨Nat.le_of_ble_eq_true rfl, Nat.le_of_ble_eq_true rfl⟩ rfl rfl rfl rfl (Nat.le_of_ble_eq_true rfl) dX4_price_41 ⟨Nat.le_of_ble_eq_true rfl, Nat.le_of_ble_eq_true rfl⟩) (fun H locs h => ?_)
      exact q_reti (fun k : (Nat → Int32) × (Nat → Int32) => (wX4_price cI cJ cZ cS a_t a_party a_party_kinds a_party_costs a_party_terms a_party_known a_kept a_tape a_telephone a_sheets a_findings v_isKept v_party_size v_party_list v_party_told v_party_kinds v_party_costs v_party_terms k.1 k.2)) fx hf h dX4_price_44
    have hf := it_f c5 hf
    refine lv_aload_n hx hb dX4_price_27 rfl (lv_at hl 1 rfl) ?_
    refine q_ldc fx k_402 dX4_price_28 ?_
    obtain ⟨r7, k7, hg, hf⟩ := bR_inv hf
    refine q_ci (rest := []) (ws' := (wX4_price cI cJ cZ cS a_t a_party a_party_kinds a_party_costs a_party_terms a_party_known a_kept a_tape a_telephone a_sheets a_findings v_isKept v_party_size v_party_list v_party_told v_party_kinds v_party_costs v_party_terms k4 k7)) (w1 := (wX4_found cI cJ cZ cS a_t a_party a_kept a_tape a_telephone a_sheets a_findings v_isKept k7)) fx h [0, 6] rfl rfl rfl rfl (q_runV fx h hl.1 [0, 6] rfl rfl (tX4_found l D cI cJ cZ cS tb a_t a_party a_kept a_tape a_telephone a_sheets a_findings H.size v_isKept v_findings (-1000000004) r7 k7 hg) mvX4_found k_207 ⟨rfl, rfl⟩ ⟨Nat.le_of_ble_eq_true rfl, Nat.le_of_ble_eq_true rfl⟩ rfl rfl rfl rfl (Nat.le_of_ble_eq_true rfl) dX4_price_30 ⟨Nat.le_of_ble_eq_true rfl, Nat.le_of_ble_eq_true rfl⟩) (fun H locs h => ?_)
    refine lv_goto (tgt := 44) hx hb dX4_price_33 (by decide) ?_
    exact q_reti (fun k : (Nat → Int32) × (Nat → Int32) => (wX4_price cI cJ cZ cS a_t a_party a_party_kinds a_party_costs a_party_terms a_party_known a_kept a_tape a_telephone a_sheets a_findings v_isKept v_party_size v_party_list v_party_told v_party_kinds v_party_costs v_party_terms k.1 k.2)) fx hf h dX4_price_44
  have hf := it_f c3 hf
  exact LX4_price_10 fx h (lv_sub hl [0] rfl) hf
/-! X4_spoils -/
abbrev wX4_spoils (cI cJ cZ cS : ClassId) (a_t a_party a_party_kinds a_party_costs a_party_terms a_party_known a_kept a_tape a_telephone a_sheets a_findings : Nat) (v_isKept : Int32) (v_party_size : Int32) (v_party_list : Int32) (v_party_told : Int32) (v_party_kinds : Nat → Int32) (v_party_terms : Nat → Int64) (v_party_known : Nat → Int32) (v_findings : Nat → Int32) : va_W := [(a_t, .inr (4, [.ref a_party, .ref a_kept, .int v_isKept, .ref a_tape, .ref a_telephone, .ref a_sheets, .ref a_findings])), (a_party, .inr (0, [.int v_party_size, .int v_party_list, .int v_party_told, .ref a_party_kinds, .ref a_party_costs, .ref a_party_terms, .ref a_party_known])), (a_party_kinds, .inl (cI, 8, .inl v_party_kinds)), (a_party_terms, .inl (cJ, 32, .inr (.inl v_party_terms))), (a_party_known, .inl (cI, 256, .inl v_party_known)), (a_findings, .inl (cI, 7, .inl v_findings))]
abbrev rX4_spoils : Room := { frames := 5, cells := 0, slots := 0, locals := 115 }
def fX4_spoils_55 (v_party_size : Int32) (v_party_kinds : Nat → Int32) (v_party_terms : Nat → Int64) (ag7 : (Nat → Int32) → (Nat → Int32) → Int32 → Int32 → Int32 → Option (Int32 × (Nat → Int32) × (Nat → Int32))) (v_party_known : Nat → Int32) (v_findings : Nat → Int32) (y1 : Int32) (y2 : Int32) (y3 : Int32) : Option (Int32 × (Nat → Int32) × (Nat → Int32)) :=
  nm (y3 + 1) (fun u1 =>
  ag7 v_party_known v_findings y1 y2 u1)
set_option maxRecDepth 100000 in
set_option maxHeartbeats 4000000 in
theorem LX4_spoils_55 {p : Program} {l : Launch} {e : Env} {s : State} {m : MethodId} {args : Array Value} {below : List Frame} {meth : Method} {c : Code} {D : va_G} {cI cJ cZ cS : ClassId} {tb : Nat} {A : Nat → Prop} {a_t a_party a_party_kinds a_party_costs a_party_terms a_party_known a_kept a_tape a_telephone a_sheets a_findings : Nat} {v_isKept : Int32} {v_party_size : Int32} {v_party_list : Int32} {v_party_told : Int32} {v_party_kinds : Nat → Int32} {v_party_terms : Nat → Int64} {rr : Int32} {kk' : (Nat → Int32) × (Nat → Int32)} (fx : q_Fx p s m args meth c cX4_spoils 5 RX4 (some .int) D cI cJ cZ cS tb A) {ag7 : (Nat → Int32) → (Nat → Int32) → Int32 → Int32 → Int32 → Option (Int32 × (Nat → Int32) × (Nat → Int32))} (hag7 : ∀ {v_party_known : Nat → Int32} {v_findings : Nat → Int32} {y1 : Int32} {y2 : Int32} {y3 : Int32} {H : Heap} {locs : List Loc} {ls : Array Slot}, q_H D A s (wX4_spoils cI cJ cZ cS a_t a_party a_party_kinds a_party_costs a_party_terms a_party_known a_kept a_tape a_telephone a_sheets a_findings v_isKept v_party_size v_party_list v_party_told v_party_kinds v_party_terms v_party_known v_findings) H locs → lv_has ls 5 [(0, .ref a_t), (1, .int y1), (2, .int y2), (3, .int y3)] → ag7 v_party_known v_findings y1 y2 y3 = some (rr, kk') → W p l e rX4_spoils s m args below meth c H locs 0 0 (MQ below (q_Ri D rr A ((fun k : (Nat → Int32) × (Nat → Int32) => (wX4_spoils cI cJ cZ cS a_t a_party a_party_kinds a_party_costs a_party_terms a_party_known a_kept a_tape a_telephone a_sheets a_findings v_isKept v_party_size v_party_list v_party_told v_party_kinds v_party_terms k.1 k.2)) kk')) args s 0 0 A) (F0 m 7 ls [])) : ∀ {v_party_known : Nat → Int32} {v_findings : Nat → Int32} {y1 : Int32} {y2 : Int32} {y3 : Int32} {H : Heap} {locs : List Loc} {ls : Array Slot}, q_H D A s (wX4_spoils cI cJ cZ cS a_t a_party a_party_kinds a_party_costs a_party_terms a_party_known a_kept a_tape a_telephone a_sheets a_findings v_isKept v_party_size v_party_list v_party_told v_party_kinds v_party_terms v_party_known v_findings) H locs → lv_has ls 5 [(0, .ref a_t), (1, .int y1), (2, .int y2), (3, .int y3)] → fX4_spoils_55 v_party_size v_party_kinds v_party_terms ag7 v_party_known v_findings y1 y2 y3 = some (rr, kk') → W p l e rX4_spoils s m args below meth c H locs 0 0 (MQ below (q_Ri D rr A ((fun k : (Nat → Int32) × (Nat → Int32) => (wX4_spoils cI cJ cZ cS a_t a_party a_party_kinds a_party_costs a_party_terms a_party_known a_kept a_tape a_telephone a_sheets a_findings v_isKept v_party_size v_party_list v_party_told v_party_kinds v_party_terms k.1 k.2)) kk')) args s 0 0 A) (F0 m 55 ls []) := by
  intro v_party_known v_findings y1 y2 y3 H locs ls h hl hf
  have hx := fx.1
  have hb := fx.2.1
  unfold fX4_spoils_55 at hf
  obtain ⟨u1, eu1, hf⟩ := nm_inv hf
  refine lv_iinc (v := u1) (lv' := [(3, .int u1), (0, .ref a_t), (1, .int y1), (2, .int y2)]) hx hb dX4_spoils_55 hl (k := 3) rfl (by rw [eu1]; rfl) (by decide) rfl (fun ls hl => ?_)
  refine lv_goto (tgt := 7) hx hb dX4_spoils_58 (by decide) ?_
  exact hag7 h (lv_sub hl [1, 2, 3, 0] rfl) hf
def fX4_spoils_7 (v_party_size : Int32) (v_party_kinds : Nat → Int32) (v_party_terms : Nat → Int64) (ag7 : (Nat → Int32) → (Nat → Int32) → Int32 → Int32 → Int32 → Option (Int32 × (Nat → Int32) × (Nat → Int32))) (v_party_known : Nat → Int32) (v_findings : Nat → Int32) (y1 : Int32) (y2 : Int32) (y3 : Int32) : Option (Int32 × (Nat → Int32) × (Nat → Int32)) :=
  (if v_party_size ≤ y3 then (
  (if (0 : Int32) ≤ y1 then (
  some (y1, (v_party_known, v_findings)))
  else (
  bR (fX4_found v_findings (-1000000004)) (fun r4 k4 =>
  some (r4, (v_party_known, k4))))))
  else (
  bR (fX0_everyone v_party_size) (fun r5 k5 =>
  bR (fX0_lastOf v_party_size v_party_kinds v_party_terms v_party_known 0 (r5 &&& ((jshl 1 y3) ^^^ (-1)))) (fun r6 k6 =>
  bR (fJ6_bitCount_0f7a4 r6) (fun r7 k7 =>
  (if y2 ≤ r7 then (
  fX4_spoils_55 v_party_size v_party_kinds v_party_terms ag7 k6 v_findings y1 y2 y3)
  else (
  fX4_spoils_55 v_party_size v_party_kinds v_party_terms ag7 k6 v_findings y3 r7 y3)))))))
set_option maxRecDepth 100000 in
set_option maxHeartbeats 4000000 in
theorem LX4_spoils_7 {p : Program} {l : Launch} {e : Env} {s : State} {m : MethodId} {args : Array Value} {below : List Frame} {meth : Method} {c : Code} {D : va_G} {cI cJ cZ cS : ClassId} {tb : Nat} {A : Nat → Prop} {a_t a_party a_party_kinds a_party_costs a_party_terms a_party_known a_kept a_tape a_telephone a_sheets a_findings : Nat} {v_isKept : Int32} {v_party_size : Int32} {v_party_list : Int32} {v_party_told : Int32} {v_party_kinds : Nat → Int32} {v_party_terms : Nat → Int64} {rr : Int32} {kk' : (Nat → Int32) × (Nat → Int32)} (fx : q_Fx p s m args meth c cX4_spoils 5 RX4 (some .int) D cI cJ cZ cS tb A) {ag7 : (Nat → Int32) → (Nat → Int32) → Int32 → Int32 → Int32 → Option (Int32 × (Nat → Int32) × (Nat → Int32))} (hag7 : ∀ {v_party_known : Nat → Int32} {v_findings : Nat → Int32} {y1 : Int32} {y2 : Int32} {y3 : Int32} {H : Heap} {locs : List Loc} {ls : Array Slot}, q_H D A s (wX4_spoils cI cJ cZ cS a_t a_party a_party_kinds a_party_costs a_party_terms a_party_known a_kept a_tape a_telephone a_sheets a_findings v_isKept v_party_size v_party_list v_party_told v_party_kinds v_party_terms v_party_known v_findings) H locs → lv_has ls 5 [(0, .ref a_t), (1, .int y1), (2, .int y2), (3, .int y3)] → ag7 v_party_known v_findings y1 y2 y3 = some (rr, kk') → W p l e rX4_spoils s m args below meth c H locs 0 0 (MQ below (q_Ri D rr A ((fun k : (Nat → Int32) × (Nat → Int32) => (wX4_spoils cI cJ cZ cS a_t a_party a_party_kinds a_party_costs a_party_terms a_party_known a_kept a_tape a_telephone a_sheets a_findings v_isKept v_party_size v_party_list v_party_told v_party_kinds v_party_terms k.1 k.2)) kk')) args s 0 0 A) (F0 m 7 ls [])) : ∀ {v_party_known : Nat → Int32} {v_findings : Nat → Int32} {y1 : Int32} {y2 : Int32} {y3 : Int32} {H : Heap} {locs : List Loc} {ls : Array Slot}, q_H D A s (wX4_spoils cI cJ cZ cS a_t a_party a_party_kinds a_party_costs a_party_terms a_party_known a_kept a_tape a_telephone a_sheets a_findings v_isKept v_party_size v_party_list v_party_told v_party_kinds v_party_terms v_party_known v_findings) H locs → lv_has ls 5 [(0, .ref a_t), (1, .int y1), (2, .int y2), (3, .int y3)] → fX4_spoils_7 v_party_size v_party_kinds v_party_terms ag7 v_party_known v_findings y1 y2 y3 = some (rr, kk') → W p l e rX4_spoils s m args below meth c H locs 0 0 (MQ below (q_Ri D rr A ((fun k : (Nat → Int32) × (Nat → Int32) => (wX4_spoils cI cJ cZ cS a_t a_party a_party_kinds a_party_costs a_party_terms a_party_known a_kept a_tape a_telephone a_sheets a_findings v_isKept v_party_size v_party_list v_party_told v_party_kinds v_party_terms k.1 k.2)) kk')) args s 0 0 A) (F0 m 7 ls []) := by
  intro v_party_known v_findings y1 y2 y3 H locs ls h hl hf
  have hx := fx.1
  have hb := fx.2.1
  unfold fX4_spoils_7 at hf
  refine lv_iload_n hx hb dX4_spoils_7 rfl (lv_at hl 3 rfl) ?_
  refine lv_aload_n hx hb dX4_spoils_8 rfl (lv_at hl 0 rfl) ?_
  refine q_get (v := .ref a_party) fx inX4 h 0 rfl rfl 0 (by decide) k_174 rfl dX4_spoils_9 ?_
  refine q_getN (v := .int v_party_size) fx inX0 h 1 rfl rfl 0 (by decide) nf_0 rfl dX4_spoils_12 ?_
  refine lv_icmp_ge (tgt := 61) hx hb dX4_spoils_15 (by decide) (fun c2 => ?_) (fun c2 => ?_)
  · have hf := it_t c2 hf
    refine lv_iload_n hx hb dX4_spoils_61 rfl (lv_at hl 1 rfl) ?_
    refine lv_if_ge (tgt := 74) hx hb dX4_spoils_62 (by decide) (fun c3 => ?_) (fun c3 => ?_)
    · have hf := it_t c3 hf
      refine lv_iload_n hx hb dX4_spoils_74 rfl (lv_at hl 1 rfl) ?_
      exact q_reti (fun k : (Nat → Int32) × (Nat → Int32) => (wX4_spoils cI cJ cZ cS a_t a_party a_party_kinds a_party_costs a_party_terms a_party_known a_kept a_tape a_telephone a_sheets a_findings v_isKept v_party_size v_party_list v_party_told v_party_kinds v_party_terms k.1 k.2)) fx hf h dX4_spoils_75
    have hf := it_f c3 hf
    refine lv_aload_n hx hb dX4_spoils_65 rfl (lv_at hl 0 rfl) ?_
    refine q_ldc fx k_402 dX4_spoils_66 ?_
    obtain ⟨r4, k4, hg, hf⟩ := bR_inv hf
    refine q_ci (rest := []) (ws' := (wX4_spoils cI cJ cZ cS a_t a_party a_party_kinds a_party_costs a_party_terms a_party_known a_kept a_tape a_telephone a_sheets a_findings v_isKept v_party_size v_party_list v_party_told v_party_kinds v_party_terms v_party_known k4)) (w1 := (wX4_found cI cJ cZ cS a_t a_party a_kept a_tape a_telephone a_sheets a_findings v_isKept k4)) fx h [0, 5] rfl rfl rfl rfl (q_runV fx h hl.1 [0, 5] rfl rfl (tX4_found l D cI cJ cZ cS tb a_t a_party a_kept a_tape a_telephone a_sheets a_findings H.size v_isKept v_findings (-1000000004) r4 k4 hg) mvX4_found k_207 ⟨rfl, rfl⟩ ⟨Nat.le_of_ble_eq_true rfl, Nat.le_of_ble_eq_true rfl⟩ rfl rfl rfl rfl (Nat.le_of_ble_eq_true rfl) dX4_spoils_68 ⟨Nat.le_of_ble_eq_true rfl, Nat.le_of_ble_eq_true rfl⟩) (fun H locs h => ?_)
    refine lv_goto (tgt := 75) hx hb dX4_spoils_71 (by decide) ?_
    exact q_reti (fun k : (Nat → Int32) × (Nat → Int32) => (wX4_spoils cI cJ cZ cS a_t a_party a_party_kinds a_party_costs a_party_terms a_party_known a_kept a_tape a_telephone a_sheets a_findings v_isKept v_party_size v_party_list v_party_told v_party_kinds v_party_terms k.1 k.2)) fx hf h dX4_spoils_75
  have hf := it_f c2 hf
  refine lv_aload_n hx hb dX4_spoils_18 rfl (lv_at hl 0 rfl) ?_
  refine q_get (v := .ref a_party) fx inX4 h 0 rfl rfl 0 (by decide) k_174 rfl dX4_spoils_19 ?_
  refine lv_iconst (v := 0) hx hb dX4_spoils_22 (by decide) ?_
  refine lv_aload_n hx hb dX4_spoils_23 rfl (lv_at hl 0 rfl) ?_
  refine q_get (v := .ref a_party) fx inX4 h 0 rfl rfl 0 (by decide) k_174 rfl dX4_spoils_24 ?_
  obtain ⟨r5, k5, hg, hf⟩ := bR_inv hf
  refine q_ci (rest := [.int 0, .ref a_party]) (ws' := (wX4_spoils cI cJ cZ cS a_t a_party a_party_kinds a_party_costs a_party_terms a_party_known a_kept a_tape a_telephone a_sheets a_findings v_isKept v_party_size v_party_list v_party_told v_party_kinds v_party_terms v_party_known v_findings)) (w1 := (wX0_everyone cI cJ cZ cS a_party a_party_kinds a_party_costs a_party_terms a_party_known v_party_size v_party_list v_party_told)) fx h [1] rfl rfl rfl rfl (q_runV fx h hl.1 [1] rfl rfl (tX0_everyone l D cI cJ cZ cS tb a_party a_party_kinds a_party_costs a_party_terms a_party_known H.size v_party_size v_party_list v_party_told r5 k5 hg) mvX0_everyone k_456 ⟨rfl, rfl⟩ ⟨Nat.le_of_ble_eq_true rfl, Nat.le_of_ble_eq_true rfl⟩ rfl rfl rfl rfl (Nat.le_of_ble_eq_true rfl) dX4_spoils_27 ⟨Nat.le_of_ble_eq_true rfl, Nat.le_of_ble_eq_true rfl⟩) (fun H locs h => ?_)
  refine lv_iconst (v := 1) hx hb dX4_spoils_30 (by decide) ?_
  refine lv_iload_n hx hb dX4_spoils_31 rfl (lv_at hl 3 rfl) ?_
  refine lv_ishl hx hb dX4_spoils_32 ?_
  refine lv_iconst (v := -1) hx hb dX4_spoils_33 (by decide) ?_
  refine lv_ixor hx hb dX4_spoils_34 ?_
  refine lv_iand hx hb dX4_spoils_35 ?_
  obtain ⟨r6, k6, hg, hf⟩ := bR_inv hf
  refine q_ci (rest := []) (ws' := (wX4_spoils cI cJ cZ cS a_t a_party a_party_kinds a_party_costs a_party_terms a_party_known a_kept a_tape a_telephone a_sheets a_findings v_isKept v_party_size v_party_list v_party_told v_party_kinds v_party_terms k6 v_findings)) (w1 := (wX0_lastOf cI cJ cZ cS a_party a_party_kinds a_party_costs a_party_terms a_party_known v_party_size v_party_list v_party_told v_party_kinds v_party_terms k6)) fx h [1, 2, 3, 4] rfl rfl rfl rfl (q_runV fx h hl.1 [1, 2, 3, 4] rfl rfl (tX0_lastOf l D cI cJ cZ cS tb a_party a_party_kinds a_party_costs a_party_terms a_party_known H.size v_party_size v_party_list v_party_told v_party_kinds v_party_terms v_party_known 0 (r5 &&& ((jshl 1 y3) ^^^ (-1))) r6 k6 hg) mvX0_lastOf k_479 ⟨rfl, rfl⟩ ⟨Nat.le_of_ble_eq_true rfl, Nat.le_of_ble_eq_true rfl⟩ rfl rfl rfl rfl (Nat.le_of_ble_eq_true rfl) dX4_spoils_36 ⟨Nat.le_of_ble_eq_true rfl, Nat.le_of_ble_eq_true rfl⟩) (fun H locs h => ?_)
  obtain ⟨r7, k7, hg, hf⟩ := bR_inv hf
  refine q_ci (rest := []) (ws' := (wX4_spoils cI cJ cZ cS a_t a_party a_party_kinds a_party_costs a_party_terms a_party_known a_kept a_tape a_telephone a_sheets a_findings v_isKept v_party_size v_party_list v_party_told v_party_kinds v_party_terms k6 v_findings)) (w1 := (wJ6_bitCount_0f7a4 cI cJ cZ cS)) fx h [] rfl rfl rfl rfl (q_runS fx h hl.1 [] rfl rfl (tJ6_bitCount_0f7a4 l D cI cJ cZ cS tb H.size r6 r7 k7 hg) msJ6_bitCount_0f7a4 k_239 ⟨rfl, rfl⟩ ⟨Nat.le_of_ble_eq_true rfl, Nat.le_of_ble_eq_true rfl⟩ rfl rfl (Nat.le_of_ble_eq_true rfl) dX4_spoils_39 ⟨Nat.le_of_ble_eq_true rfl, Nat.le_of_ble_eq_true rfl⟩) (fun H locs h => ?_)
  refine lv_istore (lv' := [(4, .int r7), (0, .ref a_t), (1, .int y1), (2, .int y2), (3, .int y3)]) hx hb dX4_spoils_42 hl (by decide) rfl (fun ls hl => ?_)
  refine lv_iload hx hb dX4_spoils_44 (lv_at hl 0 rfl) ?_
  refine lv_iload_n hx hb dX4_spoils_46 rfl (lv_at hl 3 rfl) ?_
  refine lv_icmp_ge (tgt := 55) hx hb dX4_spoils_47 (by decide) (fun c8 => ?_) (fun c8 => ?_)
  · have hf := it_t c8 hf
    exact LX4_spoils_55 fx hag7 h (lv_sub hl [1, 2, 3, 4] rfl) hf
  have hf := it_f c8 hf
  refine lv_iload hx hb dX4_spoils_50 (lv_at hl 0 rfl) ?_
  refine lv_istore_n (lv' := [(2, .int r7), (4, .int r7), (0, .ref a_t), (1, .int y1), (3, .int y3)]) hx hb dX4_spoils_52 rfl hl (by decide) rfl (fun ls hl => ?_)
  refine lv_iload_n hx hb dX4_spoils_53 rfl (lv_at hl 4 rfl) ?_
  refine lv_istore_n (lv' := [(1, .int y3), (2, .int r7), (4, .int r7), (0, .ref a_t), (3, .int y3)]) hx hb dX4_spoils_54 rfl hl (by decide) rfl (fun ls hl => ?_)
  exact LX4_spoils_55 fx hag7 h (lv_sub hl [3, 0, 1, 4] rfl) hf
set_option maxRecDepth 100000 in
theorem EX4_spoils_7 {p : Program} {l : Launch} {e : Env} {s : State} {m : MethodId} {args : Array Value} {below : List Frame} {meth : Method} {c : Code} {D : va_G} {cI cJ cZ cS : ClassId} {tb : Nat} {A : Nat → Prop} {a_t a_party a_party_kinds a_party_costs a_party_terms a_party_known a_kept a_tape a_telephone a_sheets a_findings : Nat} {v_isKept : Int32} {v_party_size : Int32} {v_party_list : Int32} {v_party_told : Int32} {v_party_kinds : Nat → Int32} {v_party_terms : Nat → Int64} {rr : Int32} {kk' : (Nat → Int32) × (Nat → Int32)} (fx : q_Fx p s m args meth c cX4_spoils 5 RX4 (some .int) D cI cJ cZ cS tb A) : ∀ (n : Nat), ∀ {v_party_known : Nat → Int32} {v_findings : Nat → Int32} {y1 : Int32} {y2 : Int32} {y3 : Int32} {H : Heap} {locs : List Loc} {ls : Array Slot}, q_H D A s (wX4_spoils cI cJ cZ cS a_t a_party a_party_kinds a_party_costs a_party_terms a_party_known a_kept a_tape a_telephone a_sheets a_findings v_isKept v_party_size v_party_list v_party_told v_party_kinds v_party_terms v_party_known v_findings) H locs → lv_has ls 5 [(0, .ref a_t), (1, .int y1), (2, .int y2), (3, .int y3)] → ll5 (fX4_spoils_7 v_party_size v_party_kinds v_party_terms) n v_party_known v_findings y1 y2 y3 = some (rr, kk') → W p l e rX4_spoils s m args below meth c H locs 0 0 (MQ below (q_Ri D rr A ((fun k : (Nat → Int32) × (Nat → Int32) => (wX4_spoils cI cJ cZ cS a_t a_party a_party_kinds a_party_costs a_party_terms a_party_known a_kept a_tape a_telephone a_sheets a_findings v_isKept v_party_size v_party_list v_party_told v_party_kinds v_party_terms k.1 k.2)) kk')) args s 0 0 A) (F0 m 7 ls []) := by
  intro n
  induction n with
  | zero => intro v_party_known v_findings y1 y2 y3 H locs ls h hl hf; exact (ll5_z hf).elim
  | succ n ih => intro v_party_known v_findings y1 y2 y3 H locs ls h hl hf; exact LX4_spoils_7 fx ih h hl (ll5_s hf)
def fX4_spoils (v_party_size : Int32) (v_party_kinds : Nat → Int32) (v_party_terms : Nat → Int64) (v_party_known : Nat → Int32) (v_findings : Nat → Int32) : Option (Int32 × (Nat → Int32) × (Nat → Int32)) :=
  ll5 (fX4_spoils_7 v_party_size v_party_kinds v_party_terms) qF v_party_known v_findings (-1) 9 0
set_option maxRecDepth 100000 in
set_option maxHeartbeats 4000000 in
theorem tX4_spoils (l : Launch) (D : va_G) (cI cJ cZ cS : ClassId) (tb : Nat) (a_t a_party a_party_kinds a_party_costs a_party_terms a_party_known a_kept a_tape a_telephone a_sheets a_findings : Nat) (sz : Nat) (v_isKept : Int32) (v_party_size : Int32) (v_party_list : Int32) (v_party_told : Int32) (v_party_kinds : Nat → Int32) (v_party_terms : Nat → Int64) (v_party_known : Nat → Int32) (v_findings : Nat → Int32) (rr : Int32) (kk' : (Nat → Int32) × (Nat → Int32)) (hf : fX4_spoils v_party_size v_party_kinds v_party_terms v_party_known v_findings = some (rr, kk')) : Met l yX4_spoils (Cond.code yX4_spoils cX4_spoils 5 (some .int) :: wA) rX4_spoils (q_Pre D cI cJ cZ cS tb [.ref a_t] sz (wX4_spoils cI cJ cZ cS a_t a_party a_party_kinds a_party_costs a_party_terms a_party_known a_kept a_tape a_telephone a_sheets a_findings v_isKept v_party_size v_party_list v_party_told v_party_kinds v_party_terms v_party_known v_findings)) (q_Ri D rr (va_A (wX4_spoils cI cJ cZ cS a_t a_party a_party_kinds a_party_costs a_party_terms a_party_known a_kept a_tape a_telephone a_sheets a_findings v_isKept v_party_size v_party_list v_party_told v_party_kinds v_party_terms v_party_known v_findings) sz) ((fun k : (Nat → Int32) × (Nat → Int32) => (wX4_spoils cI cJ cZ cS a_t a_party a_party_kinds a_party_costs a_party_terms a_party_known a_kept a_tape a_telephone a_sheets a_findings v_isKept v_party_size v_party_list v_party_told v_party_kinds v_party_terms k.1 k.2)) kk')) 0 0 (va_A (wX4_spoils cI cJ cZ cS a_t a_party a_party_kinds a_party_costs a_party_terms a_party_known a_kept a_tape a_telephone a_sheets a_findings v_isKept v_party_size v_party_list v_party_told v_party_kinds v_party_terms v_party_known v_findings) sz) := by
  refine q_enter (Qf := fun A => (q_Ri D rr A ((fun k : (Nat → Int32) × (Nat → Int32) => (wX4_spoils cI cJ cZ cS a_t a_party a_party_kinds a_party_costs a_party_terms a_party_known a_kept a_tape a_telephone a_sheets a_findings v_isKept v_party_size v_party_list v_party_told v_party_kinds v_party_terms k.1 k.2)) kk'))) (by decide) rfl (Nat.le_of_ble_eq_true rfl) ?_
  intro p e s m below meth c A ls fx hname h hl
  have hx := fx.1
  have hb := fx.2.1
  have hl : lv_has ls 5 [(0, .ref a_t)] := hl
  generalize h9 : s.heap = H at h ⊢
  clear h9
  generalize h9 : ([] : List Loc) = locs at h ⊢
  clear h9
  unfold fX4_spoils at hf
  refine lv_iconst (v := -1) hx hb dX4_spoils_0 (by decide) ?_
  refine lv_istore_n (lv' := [(1, .int (-1)), (0, .ref a_t)]) hx hb dX4_spoils_1 rfl hl (by decide) rfl (fun ls hl => ?_)
  refine lv_bipush (v := 9) hx hb dX4_spoils_2 (by decide) ?_
  refine lv_istore_n (lv' := [(2, .int 9), (1, .int (-1)), (0, .ref a_t)]) hx hb dX4_spoils_4 rfl hl (by decide) rfl (fun ls hl => ?_)
  refine lv_iconst (v := 0) hx hb dX4_spoils_5 (by decide) ?_
  refine lv_istore_n (lv' := [(3, .int 0), (2, .int 9), (1, .int (-1)), (0, .ref a_t)]) hx hb dX4_spoils_6 rfl hl (by decide) rfl (fun ls hl => ?_)
  exact EX4_spoils_7 fx qF h (lv_sub hl [3, 2, 1, 0] rfl) hf
/-! X4_isWellAsked -/
abbrev wX4_isWellAsked (cI cJ cZ cS : ClassId) (a_t a_party a_party_kinds a_party_costs a_party_terms a_party_known a_kept a_tape a_telephone a_sheets a_findings : Nat) (v_isKept : Int32) (v_party_size : Int32) (v_party_list : Int32) (v_party_told : Int32) (v_party_kinds : Nat → Int32) (v_party_terms : Nat → Int64) (v_party_known : Nat → Int32) : va_W := [(a_t, .inr (4, [.ref a_party, .ref a_kept, .int v_isKept, .ref a_tape, .ref a_telephone, .ref a_sheets, .ref a_findings])), (a_party, .inr (0, [.int v_party_size, .int v_party_list, .int v_party_told, .ref a_party_kinds, .ref a_party_costs, .ref a_party_terms, .ref a_party_known])), (a_party_kinds, .inl (cI, 8, .inl v_party_kinds)), (a_party_terms, .inl (cJ, 32, .inr (.inl v_party_terms))), (a_party_known, .inl (cI, 256, .inl v_party_known))]
abbrev rX4_isWellAsked : Room := { frames := 5, cells := 0, slots := 0, locals := 115 }
def fX4_isWellAsked (v_party_size : Int32) (v_party_kinds : Nat → Int32) (v_party_terms : Nat → Int64) (v_party_known : Nat → Int32) (x1 : Int32) (x2 : Int32) (x3 : Int32) : Option (Int32 × (Nat → Int32)) :=
  bR (fX0_lastOf v_party_size v_party_kinds v_party_terms v_party_known 0 x1) (fun r1 k1 =>
  bR (fJ6_bitCount_0f7a4 r1) (fun r2 k2 =>
  (if r2 < x2 then (
  some (0, k1))
  else (
  (if x3 < r2 then (
  some (0, k1))
  else (
  bR (fX0_comers v_party_size v_party_kinds v_party_terms k1 r1) (fun r5 k5 =>
  (if (r5 &&& x1) = r1 then (
  some (1, k5))
  else (
  some (0, k5))))))))))
set_option maxRecDepth 100000 in
set_option maxHeartbeats 4000000 in
theorem tX4_isWellAsked (l : Launch) (D : va_G) (cI cJ cZ cS : ClassId) (tb : Nat) (a_t a_party a_party_kinds a_party_costs a_party_terms a_party_known a_kept a_tape a_telephone a_sheets a_findings : Nat) (sz : Nat) (v_isKept : Int32) (v_party_size : Int32) (v_party_list : Int32) (v_party_told : Int32) (v_party_kinds : Nat → Int32) (v_party_terms : Nat → Int64) (v_party_known : Nat → Int32) (x1 : Int32) (x2 : Int32) (x3 : Int32) (rr : Int32) (kk' : (Nat → Int32)) (hf : fX4_isWellAsked v_party_size v_party_kinds v_party_terms v_party_known x1 x2 x3 = some (rr, kk')) : Met l yX4_isWellAsked (Cond.code yX4_isWellAsked cX4_isWellAsked 6 (some .boolean) :: wA) rX4_isWellAsked (q_Pre D cI cJ cZ cS tb [.ref a_t, .int x1, .int x2, .int x3] sz (wX4_isWellAsked cI cJ cZ cS a_t a_party a_party_kinds a_party_costs a_party_terms a_party_known a_kept a_tape a_telephone a_sheets a_findings v_isKept v_party_size v_party_list v_party_told v_party_kinds v_party_terms v_party_known)) (q_Ri D rr (va_A (wX4_isWellAsked cI cJ cZ cS a_t a_party a_party_kinds a_party_costs a_party_terms a_party_known a_kept a_tape a_telephone a_sheets a_findings v_isKept v_party_size v_party_list v_party_told v_party_kinds v_party_terms v_party_known) sz) ((fun k : (Nat → Int32) => (wX4_isWellAsked cI cJ cZ cS a_t a_party a_party_kinds a_party_costs a_party_terms a_party_known a_kept a_tape a_telephone a_sheets a_findings v_isKept v_party_size v_party_list v_party_told v_party_kinds v_party_terms k)) kk')) 0 0 (va_A (wX4_isWellAsked cI cJ cZ cS a_t a_party a_party_kinds a_party_costs a_party_terms a_party_known a_kept a_tape a_telephone a_sheets a_findings v_isKept v_party_size v_party_list v_party_told v_party_kinds v_party_terms v_party_known) sz) := by
  refine q_enter (Qf := fun A => (q_Ri D rr A ((fun k : (Nat → Int32) => (wX4_isWellAsked cI cJ cZ cS a_t a_party a_party_kinds a_party_costs a_party_terms a_party_known a_kept a_tape a_telephone a_sheets a_findings v_isKept v_party_size v_party_list v_party_told v_party_kinds v_party_terms k)) kk'))) (by decide) rfl (Nat.le_of_ble_eq_true rfl) ?_
  intro p e s m below meth c A ls fx hname h hl
  have hx := fx.1
  have hb := fx.2.1
  have hl : lv_has ls 6 [(0, .ref a_t), (1, .int x1), (2, .int x2), (3, .int x3)] := hl
  generalize h9 : s.heap = H at h ⊢
  clear h9
  generalize h9 : ([] : List Loc) = locs at h ⊢
  clear h9
  unfold fX4_isWellAsked at hf
  refine lv_aload_n hx hb dX4_isWellAsked_0 rfl (lv_at hl 0 rfl) ?_
  refine q_get (v := .ref a_party) fx inX4 h 0 rfl rfl 0 (by decide) k_174 rfl dX4_isWellAsked_1 ?_
  refine lv_iconst (v := 0) hx hb dX4_isWellAsked_4 (by decide) ?_
  refine lv_iload_n hx hb dX4_isWellAsked_5 rfl (lv_at hl 1 rfl) ?_
  obtain ⟨r1, k1, hg, hf⟩ := bR_inv hf
  refine q_ci (rest := []) (ws' := (wX4_isWellAsked cI cJ cZ cS a_t a_party a_party_kinds a_party_costs a_party_terms a_party_known a_kept a_tape a_telephone a_sheets a_findings v_isKept v_party_size v_party_list v_party_told v_party_kinds v_party_terms k1)) (w1 := (wX0_lastOf cI cJ cZ cS a_party a_party_kinds a_party_costs a_party_terms a_party_known v_party_size v_party_list v_party_told v_party_kinds v_party_terms k1)) fx h [1, 2, 3, 4] rfl rfl rfl rfl (q_runV fx h hl.1 [1, 2, 3, 4] rfl rfl (tX0_lastOf l D cI cJ cZ cS tb a_party a_party_kinds a_party_costs a_party_terms a_party_known H.size v_party_size v_party_list v_party_told v_party_kinds v_party_terms v_party_known 0 x1 r1 k1 hg) mvX0_lastOf k_479 ⟨rfl, rfl⟩ ⟨Nat.le_of_ble_eq_true rfl, Nat.le_of_ble_eq_true rfl⟩ rfl rfl rfl rfl (Nat.le_of_ble_eq_true rfl) dX4_isWellAsked_6 ⟨Nat.le_of_ble_eq_true rfl, Nat.le_of_ble_eq_true rfl⟩) (fun H locs h => ?_)
  refine lv_istore (lv' := [(4, .int r1), (0, .ref a_t), (1, .int x1), (2, .int x2), (3, .int x3)]) hx hb dX4_isWellAsked_9 hl (by decide) rfl (fun ls hl => ?_)
  refine lv_iload hx hb dX4_isWellAsked_11 (lv_at hl 0 rfl) ?_
  obtain ⟨r2, k2, hg, hf⟩ := bR_inv hf
  refine q_ci (rest := []) (ws' := (wX4_isWellAsked cI cJ cZ cS a_t a_party a_party_kinds a_party_costs a_party_terms a_party_known a_kept a_tape a_telephone a_sheets a_findings v_isKept v_party_size v_party_list v_party_told v_party_kinds v_party_terms k1)) (w1 := (wJ6_bitCount_0f7a4 cI cJ cZ cS)) fx h [] rfl rfl rfl rfl (q_runS fx h hl.1 [] rfl rfl (tJ6_bitCount_0f7a4 l D cI cJ cZ cS tb H.size r1 r2 k2 hg) msJ6_bitCount_0f7a4 k_239 ⟨rfl, rfl⟩ ⟨Nat.le_of_ble_eq_true rfl, Nat.le_of_ble_eq_true rfl⟩ rfl rfl (Nat.le_of_ble_eq_true rfl) dX4_isWellAsked_13 ⟨Nat.le_of_ble_eq_true rfl, Nat.le_of_ble_eq_true rfl⟩) (fun H locs h => ?_)
  refine lv_istore (lv' := [(5, .int r2), (4, .int r1), (0, .ref a_t), (1, .int x1), (2, .int x2), (3, .int x3)]) hx hb dX4_isWellAsked_16 hl (by decide) rfl (fun ls hl => ?_)
  refine lv_iload hx hb dX4_isWellAsked_18 (lv_at hl 0 rfl) ?_
  refine lv_iload_n hx hb dX4_isWellAsked_20 rfl (lv_at hl 4 rfl) ?_
  refine lv_icmp_lt (tgt := 50) hx hb dX4_isWellAsked_21 (by decide) (fun c3 => ?_) (fun c3 => ?_)
  · have hf := it_t c3 hf
    refine lv_iconst (v := 0) hx hb dX4_isWellAsked_50 (by decide) ?_
    exact q_retz (fun k : (Nat → Int32) => (wX4_isWellAsked cI cJ cZ cS a_t a_party a_party_kinds a_party_costs a_party_terms a_party_known a_kept a_tape a_telephone a_sheets a_findings v_isKept v_party_size v_party_list v_party_told v_party_kinds v_party_terms k)) fx rfl hf h dX4_isWellAsked_51
  have hf := it_f c3 hf
  refine lv_iload hx hb dX4_isWellAsked_24 (lv_at hl 0 rfl) ?_
  refine lv_iload_n hx hb dX4_isWellAsked_26 rfl (lv_at hl 5 rfl) ?_
  refine lv_icmp_gt (tgt := 50) hx hb dX4_isWellAsked_27 (by decide) (fun c4 => ?_) (fun c4 => ?_)
  · have hf := it_t c4 hf
    refine lv_iconst (v := 0) hx hb dX4_isWellAsked_50 (by decide) ?_
    exact q_retz (fun k : (Nat → Int32) => (wX4_isWellAsked cI cJ cZ cS a_t a_party a_party_kinds a_party_costs a_party_terms a_party_known a_kept a_tape a_telephone a_sheets a_findings v_isKept v_party_size v_party_list v_party_told v_party_kinds v_party_terms k)) fx rfl hf h dX4_isWellAsked_51
  have hf := it_f c4 hf
  refine lv_aload_n hx hb dX4_isWellAsked_30 rfl (lv_at hl 2 rfl) ?_
  refine q_get (v := .ref a_party) fx inX4 h 0 rfl rfl 0 (by decide) k_174 rfl dX4_isWellAsked_31 ?_
  refine lv_iload hx hb dX4_isWellAsked_34 (lv_at hl 1 rfl) ?_
  obtain ⟨r5, k5, hg, hf⟩ := bR_inv hf
  refine q_ci (rest := []) (ws' := (wX4_isWellAsked cI cJ cZ cS a_t a_party a_party_kinds a_party_costs a_party_terms a_party_known a_kept a_tape a_telephone a_sheets a_findings v_isKept v_party_size v_party_list v_party_told v_party_kinds v_party_terms k5)) (w1 := (wX0_comers cI cJ cZ cS a_party a_party_kinds a_party_costs a_party_terms a_party_known v_party_size v_party_list v_party_told v_party_kinds v_party_terms k5)) fx h [1, 2, 3, 4] rfl rfl rfl rfl (q_runV fx h hl.1 [1, 2, 3, 4] rfl rfl (tX0_comers l D cI cJ cZ cS tb a_party a_party_kinds a_party_costs a_party_terms a_party_known H.size v_party_size v_party_list v_party_told v_party_kinds v_party_terms k1 r1 r5 k5 hg) mvX0_comers k_224 ⟨rfl, rfl⟩ ⟨Nat.le_of_ble_eq_true rfl, Nat.le_of_ble_eq_true rfl⟩ rfl rfl rfl rfl (Nat.le_of_ble_eq_true rfl) dX4_isWellAsked_36 ⟨Nat.le_of_ble_eq_true rfl, Nat.le_of_ble_eq_true rfl⟩) (fun H locs h => ?_)
  refine lv_iload_n hx hb dX4_isWellAsked_39 rfl (lv_at hl 3 rfl) ?_
  refine lv_iand hx hb dX4_isWellAsked_40 ?_
  refine lv_iload hx hb dX4_isWellAsked_41 (lv_at hl 1 rfl) ?_
  refine lv_icmp_ne (tgt := 50) hx hb dX4_isWellAsked_43 (by decide) (fun c6 => ?_) (fun c6 => ?_)
  · have hf := it_f c6 hf
    refine lv_iconst (v := 0) hx hb dX4_isWellAsked_50 (by decide) ?_
    exact q_retz (fun k : (Nat → Int32) => (wX4_isWellAsked cI cJ cZ cS a_t a_party a_party_kinds a_party_costs a_party_terms a_party_known a_kept a_tape a_telephone a_sheets a_findings v_isKept v_party_size v_party_list v_party_told v_party_kinds v_party_terms k)) fx rfl hf h dX4_isWellAsked_51
  have hf := it_t c6 hf
  refine lv_iconst (v := 1) hx hb dX4_isWellAsked_46 (by decide) ?_
  refine lv_goto (tgt := 51) hx hb dX4_isWellAsked_47 (by decide) ?_
  exact q_retz (fun k : (Nat → Int32) => (wX4_isWellAsked cI cJ cZ cS a_t a_party a_party_kinds a_party_costs a_party_terms a_party_known a_kept a_tape a_telephone a_sheets a_findings v_isKept v_party_size v_party_list v_party_told v_party_kinds v_party_terms k)) fx rfl hf h dX4_isWellAsked_51
/-! X4_invites -/
abbrev wX4_invites (cI cJ cZ cS : ClassId) (a_t a_party a_party_kinds a_party_costs a_party_terms a_party_known a_kept a_tape a_telephone a_sheets a_findings : Nat) (v_isKept : Int32) (v_party_size : Int32) (v_party_list : Int32) (v_party_told : Int32) (v_party_kinds : Nat → Int32) (v_party_terms : Nat → Int64) (v_party_known : Nat → Int32) (v_findings : Nat → Int32) : va_W := [(a_t, .inr (4, [.ref a_party, .ref a_kept, .int v_isKept, .ref a_tape, .ref a_telephone, .ref a_sheets, .ref a_findings])), (a_party, .inr (0, [.int v_party_size, .int v_party_list, .int v_party_told, .ref a_party_kinds, .ref a_party_costs, .ref a_party_terms, .ref a_party_known])), (a_party_kinds, .inl (cI, 8, .inl v_party_kinds)), (a_party_terms, .inl (cJ, 32, .inr (.inl v_party_terms))), (a_party_known, .inl (cI, 256, .inl v_party_known)), (a_findings, .inl (cI, 7, .inl v_findings))]
abbrev rX4_invites : Room := { frames := 6, cells := 0, slots := 0, locals := 140 }
def fX4_invites_81 (v_party_size : Int32) (v_party_kinds : Nat → Int32) (v_party_terms : Nat → Int64) (ag27 : (Nat → Int32) → (Nat → Int32) → Int32 → Int32 → Int32 → Int32 → Option (Int32 × (Nat → Int32) × (Nat → Int32))) (v_party_known : Nat → Int32) (v_findings : Nat → Int32) (y1 : Int32) (y2 : Int32) (y3 : Int32) (y4 : Int32) : Option (Int32 × (Nat → Int32) × (Nat → Int32)) :=
  nm (y4 + 1) (fun u1 =>
  ag27 v_party_known v_findings y1 y2 y3 u1)
set_option maxRecDepth 100000 in
set_option maxHeartbeats 4000000 in
theorem LX4_invites_81 {p : Program} {l : Launch} {e : Env} {s : State} {m : MethodId} {args : Array Value} {below : List Frame} {meth : Method} {c : Code} {D : va_G} {cI cJ cZ cS : ClassId} {tb : Nat} {A : Nat → Prop} {a_t a_party a_party_kinds a_party_costs a_party_terms a_party_known a_kept a_tape a_telephone a_sheets a_findings : Nat} {v_isKept : Int32} {v_party_size : Int32} {v_party_list : Int32} {v_party_told : Int32} {v_party_kinds : Nat → Int32} {v_party_terms : Nat → Int64} {rr : Int32} {kk' : (Nat → Int32) × (Nat → Int32)} (fx : q_Fx p s m args meth c cX4_invites 6 RX4 (some .int) D cI cJ cZ cS tb A) {ag27 : (Nat → Int32) → (Nat → Int32) → Int32 → Int32 → Int32 → Int32 → Option (Int32 × (Nat → Int32) × (Nat → Int32))} (hag27 : ∀ {v_party_known : Nat → Int32} {v_findings : Nat → Int32} {y1 : Int32} {y2 : Int32} {y3 : Int32} {y4 : Int32} {H : Heap} {locs : List Loc} {ls : Array Slot}, q_H D A s (wX4_invites cI cJ cZ cS a_t a_party a_party_kinds a_party_costs a_party_terms a_party_known a_kept a_tape a_telephone a_sheets a_findings v_isKept v_party_size v_party_list v_party_told v_party_kinds v_party_terms v_party_known v_findings) H locs → lv_has ls 6 [(0, .ref a_t), (1, .int y1), (2, .int y2), (3, .int y3), (4, .int y4)] → ag27 v_party_known v_findings y1 y2 y3 y4 = some (rr, kk') → W p l e rX4_invites s m args below meth c H locs 0 0 (MQ below (q_Ri D rr A ((fun k : (Nat → Int32) × (Nat → Int32) => (wX4_invites cI cJ cZ cS a_t a_party a_party_kinds a_party_costs a_party_terms a_party_known a_kept a_tape a_telephone a_sheets a_findings v_isKept v_party_size v_party_list v_party_told v_party_kinds v_party_terms k.1 k.2)) kk')) args s 0 0 A) (F0 m 27 ls [])) : ∀ {v_party_known : Nat → Int32} {v_findings : Nat → Int32} {y1 : Int32} {y2 : Int32} {y3 : Int32} {y4 : Int32} {H : Heap} {locs : List Loc} {ls : Array Slot}, q_H D A s (wX4_invites cI cJ cZ cS a_t a_party a_party_kinds a_party_costs a_party_terms a_party_known a_kept a_tape a_telephone a_sheets a_findings v_isKept v_party_size v_party_list v_party_told v_party_kinds v_party_terms v_party_known v_findings) H locs → lv_has ls 6 [(0, .ref a_t), (1, .int y1), (2, .int y2), (3, .int y3), (4, .int y4)] → fX4_invites_81 v_party_size v_party_kinds v_party_terms ag27 v_party_known v_findings y1 y2 y3 y4 = some (rr, kk') → W p l e rX4_invites s m args below meth c H locs 0 0 (MQ below (q_Ri D rr A ((fun k : (Nat → Int32) × (Nat → Int32) => (wX4_invites cI cJ cZ cS a_t a_party a_party_kinds a_party_costs a_party_terms a_party_known a_kept a_tape a_telephone a_sheets a_findings v_isKept v_party_size v_party_list v_party_told v_party_kinds v_party_terms k.1 k.2)) kk')) args s 0 0 A) (F0 m 81 ls []) := by
  intro v_party_known v_findings y1 y2 y3 y4 H locs ls h hl hf
  have hx := fx.1
  have hb := fx.2.1
  unfold fX4_invites_81 at hf
  obtain ⟨u1, eu1, hf⟩ := nm_inv hf
  refine lv_iinc (v := u1) (lv' := [(4, .int u1), (0, .ref a_t), (1, .int y1), (2, .int y2), (3, .int y3)]) hx hb dX4_invites_81 hl (k := 4) rfl (by rw [eu1]; rfl) (by decide) rfl (fun ls hl => ?_)
  refine lv_goto (tgt := 27) hx hb dX4_invites_84 (by decide) ?_
  exact hag27 h (lv_sub hl [1, 2, 3, 4, 0] rfl) hf
def fX4_invites_60 (v_party_size : Int32) (v_party_kinds : Nat → Int32) (v_party_terms : Nat → Int64) (ag27 : (Nat → Int32) → (Nat → Int32) → Int32 → Int32 → Int32 → Int32 → Option (Int32 × (Nat → Int32) × (Nat → Int32))) (v_party_known : Nat → Int32) (v_findings : Nat → Int32) (s0 : Int32) (y1 : Int32) (y2 : Int32) (y3 : Int32) (y4 : Int32) : Option (Int32 × (Nat → Int32) × (Nat → Int32)) :=
  (if s0 = 0 then (
  fX4_invites_81 v_party_size v_party_kinds v_party_terms ag27 v_party_known v_findings y1 y2 y3 y4)
  else (
  bR (fX4_isWellAsked v_party_size v_party_kinds v_party_terms v_party_known y4 y1 y2) (fun r3 k3 =>
  (if r3 = 0 then (
  fX4_invites_81 v_party_size v_party_kinds v_party_terms ag27 k3 v_findings y1 y2 y3 y4)
  else (
  fX4_invites_81 v_party_size v_party_kinds v_party_terms ag27 k3 v_findings y1 y2 y4 y4)))))
set_option maxRecDepth 100000 in
set_option maxHeartbeats 4000000 in
theorem LX4_invites_60 {p : Program} {l : Launch} {e : Env} {s : State} {m : MethodId} {args : Array Value} {below : List Frame} {meth : Method} {c : Code} {D : va_G} {cI cJ cZ cS : ClassId} {tb : Nat} {A : Nat → Prop} {a_t a_party a_party_kinds a_party_costs a_party_terms a_party_known a_kept a_tape a_telephone a_sheets a_findings : Nat} {v_isKept : Int32} {v_party_size : Int32} {v_party_list : Int32} {v_party_told : Int32} {v_party_kinds : Nat → Int32} {v_party_terms : Nat → Int64} {rr : Int32} {kk' : (Nat → Int32) × (Nat → Int32)} (fx : q_Fx p s m args meth c cX4_invites 6 RX4 (some .int) D cI cJ cZ cS tb A) {ag27 : (Nat → Int32) → (Nat → Int32) → Int32 → Int32 → Int32 → Int32 → Option (Int32 × (Nat → Int32) × (Nat → Int32))} (hag27 : ∀ {v_party_known : Nat → Int32} {v_findings : Nat → Int32} {y1 : Int32} {y2 : Int32} {y3 : Int32} {y4 : Int32} {H : Heap} {locs : List Loc} {ls : Array Slot}, q_H D A s (wX4_invites cI cJ cZ cS a_t a_party a_party_kinds a_party_costs a_party_terms a_party_known a_kept a_tape a_telephone a_sheets a_findings v_isKept v_party_size v_party_list v_party_told v_party_kinds v_party_terms v_party_known v_findings) H locs → lv_has ls 6 [(0, .ref a_t), (1, .int y1), (2, .int y2), (3, .int y3), (4, .int y4)] → ag27 v_party_known v_findings y1 y2 y3 y4 = some (rr, kk') → W p l e rX4_invites s m args below meth c H locs 0 0 (MQ below (q_Ri D rr A ((fun k : (Nat → Int32) × (Nat → Int32) => (wX4_invites cI cJ cZ cS a_t a_party a_party_kinds a_party_costs a_party_terms a_party_known a_kept a_tape a_telephone a_sheets a_findings v_isKept v_party_size v_party_list v_party_told v_party_kinds v_party_terms k.1 k.2)) kk')) args s 0 0 A) (F0 m 27 ls [])) : ∀ {v_party_known : Nat → Int32} {v_findings : Nat → Int32} {s0 : Int32} {y1 : Int32} {y2 : Int32} {y3 : Int32} {y4 : Int32} {H : Heap} {locs : List Loc} {ls : Array Slot}, q_H D A s (wX4_invites cI cJ cZ cS a_t a_party a_party_kinds a_party_costs a_party_terms a_party_known a_kept a_tape a_telephone a_sheets a_findings v_isKept v_party_size v_party_list v_party_told v_party_kinds v_party_terms v_party_known v_findings) H locs → lv_has ls 6 [(0, .ref a_t), (1, .int y1), (2, .int y2), (3, .int y3), (4, .int y4)] → fX4_invites_60 v_party_size v_party_kinds v_party_terms ag27 v_party_known v_findings s0 y1 y2 y3 y4 = some (rr, kk') → W p l e rX4_invites s m args below meth c H locs 0 0 (MQ below (q_Ri D rr A ((fun k : (Nat → Int32) × (Nat → Int32) => (wX4_invites cI cJ cZ cS a_t a_party a_party_kinds a_party_costs a_party_terms a_party_known a_kept a_tape a_telephone a_sheets a_findings v_isKept v_party_size v_party_list v_party_told v_party_kinds v_party_terms k.1 k.2)) kk')) args s 0 0 A) (F0 m 60 ls [.int s0]) := by
  intro v_party_known v_findings s0 y1 y2 y3 y4 H locs ls h hl hf
  have hx := fx.1
  have hb := fx.2.1
  unfold fX4_invites_60 at hf
  refine lv_istore (lv' := [(5, .int s0), (0, .ref a_t), (1, .int y1), (2, .int y2), (3, .int y3), (4, .int y4)]) hx hb dX4_invites_60 hl (by decide) rfl (fun ls hl => ?_)
  refine lv_iload hx hb dX4_invites_62 (lv_at hl 0 rfl) ?_
  refine lv_if_eq (tgt := 81) hx hb dX4_invites_64 (by decide) (fun c2 => ?_) (fun c2 => ?_)
  · have hf := it_t c2 hf
    exact LX4_invites_81 fx hag27 h (lv_sub hl [1, 2, 3, 4, 5] rfl) hf
  have hf := it_f c2 hf
  refine lv_aload_n hx hb dX4_invites_67 rfl (lv_at hl 1 rfl) ?_
  refine lv_iload hx hb dX4_invites_68 (lv_at hl 5 rfl) ?_
  refine lv_iload_n hx hb dX4_invites_70 rfl (lv_at hl 2 rfl) ?_
  refine lv_iload_n hx hb dX4_invites_71 rfl (lv_at hl 3 rfl) ?_
  obtain ⟨r3, k3, hg, hf⟩ := bR_inv hf
  refine q_ci (rest := []) (ws' := (wX4_invites cI cJ cZ cS a_t a_party a_party_kinds a_party_costs a_party_terms a_party_known a_kept a_tape a_telephone a_sheets a_findings v_isKept v_party_size v_party_list v_party_told v_party_kinds v_party_terms k3 v_findings)) (w1 := (wX4_isWellAsked cI cJ cZ cS a_t a_party a_party_kinds a_party_costs a_party_terms a_party_known a_kept a_tape a_telephone a_sheets a_findings v_isKept v_party_size v_party_list v_party_told v_party_kinds v_party_terms k3)) fx h [0, 1, 2, 3, 4] rfl rfl rfl rfl (q_runV fx h hl.1 [0, 1, 2, 3, 4] rfl rfl (tX4_isWellAsked l D cI cJ cZ cS tb a_t a_party a_party_kinds a_party_costs a_party_terms a_party_known a_kept a_tape a_telephone a_sheets a_findings H.size v_isKept v_party_size v_party_list v_party_told v_party_kinds v_party_terms v_party_known y4 y1 y2 r3 k3 hg) mvX4_isWellAsked k_507 ⟨rfl, rfl⟩ ⟨Nat.le_of_ble_eq_true rfl, Nat.le_of_ble_eq_true rfl⟩ rfl rfl rfl rfl (Nat.le_of_ble_eq_true rfl) dX4_invites_72 ⟨Nat.le_of_ble_eq_true rfl, Nat.le_of_ble_eq_true rfl⟩) (fun H locs h => ?_)
  refine lv_if_eq (tgt := 81) hx hb dX4_invites_75 (by decide) (fun c4 => ?_) (fun c4 => ?_)
  · have hf := it_t c4 hf
    exact LX4_invites_81 fx hag27 h (lv_sub hl [1, 2, 3, 4, 5] rfl) hf
  have hf := it_f c4 hf
  refine lv_iload hx hb dX4_invites_78 (lv_at hl 5 rfl) ?_
  refine lv_istore_n (lv' := [(3, .int y4), (5, .int s0), (0, .ref a_t), (1, .int y1), (2, .int y2), (4, .int y4)]) hx hb dX4_invites_80 rfl hl (by decide) rfl (fun ls hl => ?_)
  exact LX4_invites_81 fx hag27 h (lv_sub hl [2, 3, 4, 0, 5] rfl) hf
def fX4_invites_55 (v_party_size : Int32) (v_party_kinds : Nat → Int32) (v_party_terms : Nat → Int64) (ag27 : (Nat → Int32) → (Nat → Int32) → Int32 → Int32 → Int32 → Int32 → Option (Int32 × (Nat → Int32) × (Nat → Int32))) (v_party_known : Nat → Int32) (v_findings : Nat → Int32) (y1 : Int32) (y2 : Int32) (y3 : Int32) (y4 : Int32) : Option (Int32 × (Nat → Int32) × (Nat → Int32)) :=
  fX4_invites_60 v_party_size v_party_kinds v_party_terms ag27 v_party_known v_findings 1 y1 y2 y3 y4
set_option maxRecDepth 100000 in
set_option maxHeartbeats 4000000 in
theorem LX4_invites_55 {p : Program} {l : Launch} {e : Env} {s : State} {m : MethodId} {args : Array Value} {below : List Frame} {meth : Method} {c : Code} {D : va_G} {cI cJ cZ cS : ClassId} {tb : Nat} {A : Nat → Prop} {a_t a_party a_party_kinds a_party_costs a_party_terms a_party_known a_kept a_tape a_telephone a_sheets a_findings : Nat} {v_isKept : Int32} {v_party_size : Int32} {v_party_list : Int32} {v_party_told : Int32} {v_party_kinds : Nat → Int32} {v_party_terms : Nat → Int64} {rr : Int32} {kk' : (Nat → Int32) × (Nat → Int32)} (fx : q_Fx p s m args meth c cX4_invites 6 RX4 (some .int) D cI cJ cZ cS tb A) {ag27 : (Nat → Int32) → (Nat → Int32) → Int32 → Int32 → Int32 → Int32 → Option (Int32 × (Nat → Int32) × (Nat → Int32))} (hag27 : ∀ {v_party_known : Nat → Int32} {v_findings : Nat → Int32} {y1 : Int32} {y2 : Int32} {y3 : Int32} {y4 : Int32} {H : Heap} {locs : List Loc} {ls : Array Slot}, q_H D A s (wX4_invites cI cJ cZ cS a_t a_party a_party_kinds a_party_costs a_party_terms a_party_known a_kept a_tape a_telephone a_sheets a_findings v_isKept v_party_size v_party_list v_party_told v_party_kinds v_party_terms v_party_known v_findings) H locs → lv_has ls 6 [(0, .ref a_t), (1, .int y1), (2, .int y2), (3, .int y3), (4, .int y4)] → ag27 v_party_known v_findings y1 y2 y3 y4 = some (rr, kk') → W p l e rX4_invites s m args below meth c H locs 0 0 (MQ below (q_Ri D rr A ((fun k : (Nat → Int32) × (Nat → Int32) => (wX4_invites cI cJ cZ cS a_t a_party a_party_kinds a_party_costs a_party_terms a_party_known a_kept a_tape a_telephone a_sheets a_findings v_isKept v_party_size v_party_list v_party_told v_party_kinds v_party_terms k.1 k.2)) kk')) args s 0 0 A) (F0 m 27 ls [])) : ∀ {v_party_known : Nat → Int32} {v_findings : Nat → Int32} {y1 : Int32} {y2 : Int32} {y3 : Int32} {y4 : Int32} {H : Heap} {locs : List Loc} {ls : Array Slot}, q_H D A s (wX4_invites cI cJ cZ cS a_t a_party a_party_kinds a_party_costs a_party_terms a_party_known a_kept a_tape a_telephone a_sheets a_findings v_isKept v_party_size v_party_list v_party_told v_party_kinds v_party_terms v_party_known v_findings) H locs → lv_has ls 6 [(0, .ref a_t), (1, .int y1), (2, .int y2), (3, .int y3), (4, .int y4)] → fX4_invites_55 v_party_size v_party_kinds v_party_terms ag27 v_party_known v_findings y1 y2 y3 y4 = some (rr, kk') → W p l e rX4_invites s m args below meth c H locs 0 0 (MQ below (q_Ri D rr A ((fun k : (Nat → Int32) × (Nat → Int32) => (wX4_invites cI cJ cZ cS a_t a_party a_party_kinds a_party_costs a_party_terms a_party_known a_kept a_tape a_telephone a_sheets a_findings v_isKept v_party_size v_party_list v_party_told v_party_kinds v_party_terms k.1 k.2)) kk')) args s 0 0 A) (F0 m 55 ls []) := by
  intro v_party_known v_findings y1 y2 y3 y4 H locs ls h hl hf
  have hx := fx.1
  have hb := fx.2.1
  unfold fX4_invites_55 at hf
  refine lv_iconst (v := 1) hx hb dX4_invites_55 (by decide) ?_
  refine lv_goto (tgt := 60) hx hb dX4_invites_56 (by decide) ?_
  exact LX4_invites_60 fx hag27 h (lv_sub hl [0, 1, 2, 3, 4] rfl) hf
def fX4_invites_27 (v_party_size : Int32) (v_party_kinds : Nat → Int32) (v_party_terms : Nat → Int64) (ag27 : (Nat → Int32) → (Nat → Int32) → Int32 → Int32 → Int32 → Int32 → Option (Int32 × (Nat → Int32) × (Nat → Int32))) (v_party_known : Nat → Int32) (v_findings : Nat → Int32) (y1 : Int32) (y2 : Int32) (y3 : Int32) (y4 : Int32) : Option (Int32 × (Nat → Int32) × (Nat → Int32)) :=
  bR (fX0_lists v_party_size) (fun r5 k5 =>
  (if r5 ≤ y4 then (
  (if (0 : Int32) ≤ y3 then (
  some (y3, (v_party_known, v_findings)))
  else (
  bR (fX4_found v_findings (-1000000004)) (fun r8 k8 =>
  some (r8, (v_party_known, k8))))))
  else (
  (if y3 < 0 then (
  fX4_invites_55 v_party_size v_party_kinds v_party_terms ag27 v_party_known v_findings y1 y2 y3 y4)
  else (
  bR (fJ6_bitCount_0f7a4 y4) (fun r10 k10 =>
  bR (fJ6_bitCount_0f7a4 y3) (fun r11 k11 =>
  (if r11 ≤ r10 then (
  fX4_invites_60 v_party_size v_party_kinds v_party_terms ag27 v_party_known v_findings 0 y1 y2 y3 y4)
  else (
  fX4_invites_55 v_party_size v_party_kinds v_party_terms ag27 v_party_known v_findings y1 y2 y3 y4)))))))))
set_option maxRecDepth 100000 in
set_option maxHeartbeats 4000000 in
theorem LX4_invites_27 {p : Program} {l : Launch} {e : Env} {s : State} {m : MethodId} {args : Array Value} {below : List Frame} {meth : Method} {c : Code} {D : va_G} {cI cJ cZ cS : ClassId} {tb : Nat} {A : Nat → Prop} {a_t a_party a_party_kinds a_party_costs a_party_terms a_party_known a_kept a_tape a_telephone a_sheets a_findings : Nat} {v_isKept : Int32} {v_party_size : Int32} {v_party_list : Int32} {v_party_told : Int32} {v_party_kinds : Nat → Int32} {v_party_terms : Nat → Int64} {rr : Int32} {kk' : (Nat → Int32) × (Nat → Int32)} (fx : q_Fx p s m args meth c cX4_invites 6 RX4 (some .int) D cI cJ cZ cS tb A) {ag27 : (Nat → Int32) → (Nat → Int32) → Int32 → Int32 → Int32 → Int32 → Option (Int32 × (Nat → Int32) × (Nat → Int32))} (hag27 : ∀ {v_party_known : Nat → Int32} {v_findings : Nat → Int32} {y1 : Int32} {y2 : Int32} {y3 : Int32} {y4 : Int32} {H : Heap} {locs : List Loc} {ls : Array Slot}, q_H D A s (wX4_invites cI cJ cZ cS a_t a_party a_party_kinds a_party_costs a_party_terms a_party_known a_kept a_tape a_telephone a_sheets a_findings v_isKept v_party_size v_party_list v_party_told v_party_kinds v_party_terms v_party_known v_findings) H locs → lv_has ls 6 [(0, .ref a_t), (1, .int y1), (2, .int y2), (3, .int y3), (4, .int y4)] → ag27 v_party_known v_findings y1 y2 y3 y4 = some (rr, kk') → W p l e rX4_invites s m args below meth c H locs 0 0 (MQ below (q_Ri D rr A ((fun k : (Nat → Int32) × (Nat → Int32) => (wX4_invites cI cJ cZ cS a_t a_party a_party_kinds a_party_costs a_party_terms a_party_known a_kept a_tape a_telephone a_sheets a_findings v_isKept v_party_size v_party_list v_party_told v_party_kinds v_party_terms k.1 k.2)) kk')) args s 0 0 A) (F0 m 27 ls [])) : ∀ {v_party_known : Nat → Int32} {v_findings : Nat → Int32} {y1 : Int32} {y2 : Int32} {y3 : Int32} {y4 : Int32} {H : Heap} {locs : List Loc} {ls : Array Slot}, q_H D A s (wX4_invites cI cJ cZ cS a_t a_party a_party_kinds a_party_costs a_party_terms a_party_known a_kept a_tape a_telephone a_sheets a_findings v_isKept v_party_size v_party_list v_party_told v_party_kinds v_party_terms v_party_known v_findings) H locs → lv_has ls 6 [(0, .ref a_t), (1, .int y1), (2, .int y2), (3, .int y3), (4, .int y4)] → fX4_invites_27 v_party_size v_party_kinds v_party_terms ag27 v_party_known v_findings y1 y2 y3 y4 = some (rr, kk') → W p l e rX4_invites s m args below meth c H locs 0 0 (MQ below (q_Ri D rr A ((fun k : (Nat → Int32) × (Nat → Int32) => (wX4_invites cI cJ cZ cS a_t a_party a_party_kinds a_party_costs a_party_terms a_party_known a_kept a_tape a_telephone a_sheets a_findings v_isKept v_party_size v_party_list v_party_told v_party_kinds v_party_terms k.1 k.2)) kk')) args s 0 0 A) (F0 m 27 ls []) := by
  intro v_party_known v_findings y1 y2 y3 y4 H locs ls h hl hf
  have hx := fx.1
  have hb := fx.2.1
  unfold fX4_invites_27 at hf
  refine lv_iload hx hb dX4_invites_27 (lv_at hl 4 rfl) ?_
  refine lv_aload_n hx hb dX4_invites_29 rfl (lv_at hl 0 rfl) ?_
  refine q_get (v := .ref a_party) fx inX4 h 0 rfl rfl 0 (by decide) k_174 rfl dX4_invites_30 ?_
  obtain ⟨r5, k5, hg, hf⟩ := bR_inv hf
  refine q_ci (rest := [.int y4]) (ws' := (wX4_invites cI cJ cZ cS a_t a_party a_party_kinds a_party_costs a_party_terms a_party_known a_kept a_tape a_telephone a_sheets a_findings v_isKept v_party_size v_party_list v_party_told v_party_kinds v_party_terms v_party_known v_findings)) (w1 := (wX0_lists cI cJ cZ cS a_party a_party_kinds a_party_costs a_party_terms a_party_known v_party_size v_party_list v_party_told)) fx h [1] rfl rfl rfl rfl (q_runV fx h hl.1 [1] rfl rfl (tX0_lists l D cI cJ cZ cS tb a_party a_party_kinds a_party_costs a_party_terms a_party_known H.size v_party_size v_party_list v_party_told r5 k5 hg) mvX0_lists k_447 ⟨rfl, rfl⟩ ⟨Nat.le_of_ble_eq_true rfl, Nat.le_of_ble_eq_true rfl⟩ rfl rfl rfl rfl (Nat.le_of_ble_eq_true rfl) dX4_invites_33 ⟨Nat.le_of_ble_eq_true rfl, Nat.le_of_ble_eq_true rfl⟩) (fun H locs h => ?_)
  refine lv_icmp_ge (tgt := 87) hx hb dX4_invites_36 (by decide) (fun c6 => ?_) (fun c6 => ?_)
  · have hf := it_t c6 hf
    refine lv_iload_n hx hb dX4_invites_87 rfl (lv_at hl 3 rfl) ?_
    refine lv_if_ge (tgt := 100) hx hb dX4_invites_88 (by decide) (fun c7 => ?_) (fun c7 => ?_)
    · have hf := it_t c7 hf
      refine lv_iload_n hx hb dX4_invites_100 rfl (lv_at hl 3 rfl) ?_
      exact q_reti (fun k : (Nat → Int32) × (Nat → Int32) => (wX4_invites cI cJ cZ cS a_t a_party a_party_kinds a_party_costs a_party_terms a_party_known a_kept a_tape a_telephone a_sheets a_findings v_isKept v_party_size v_party_list v_party_told v_party_kinds v_party_terms k.1 k.2)) fx hf h dX4_invites_101
    have hf := it_f c7 hf
    refine lv_aload_n hx hb dX4_invites_91 rfl (lv_at hl 0 rfl) ?_
    refine q_ldc fx k_402 dX4_invites_92 ?_
    obtain ⟨r8, k8, hg, hf⟩ := bR_inv hf
    refine q_ci (rest := []) (ws' := (wX4_invites cI cJ cZ cS a_t a_party a_party_kinds a_party_costs a_party_terms a_party_known a_kept a_tape a_telephone a_sheets a_findings v_isKept v_party_size v_party_list v_party_told v_party_kinds v_party_terms v_party_known k8)) (w1 := (wX4_found cI cJ cZ cS a_t a_party a_kept a_tape a_telephone a_sheets a_findings v_isKept k8)) fx h [0, 5] rfl rfl rfl rfl (q_runV fx h hl.1 [0, 5] rfl rfl (tX4_found l D cI cJ cZ cS tb a_t a_party a_kept a_tape a_telephone a_sheets a_findings H.size v_isKept v_findings (-1000000004) r8 k8 hg) mvX4_found k_207 ⟨rfl, rfl⟩ ⟨Nat.le_of_ble_eq_true rfl, Nat.le_of_ble_eq_true rfl⟩ rfl rfl rfl rfl (Nat.le_of_ble_eq_true rfl) dX4_invites_94 ⟨Nat.le_of_ble_eq_true rfl, Nat.le_of_ble_eq_true rfl⟩) (fun H locs h => ?_)
    refine lv_goto (tgt := 101) hx hb dX4_invites_97 (by decide) ?_
    exact q_reti (fun k : (Nat → Int32) × (Nat → Int32) => (wX4_invites cI cJ cZ cS a_t a_party a_party_kinds a_party_costs a_party_terms a_party_known a_kept a_tape a_telephone a_sheets a_findings v_isKept v_party_size v_party_list v_party_told v_party_kinds v_party_terms k.1 k.2)) fx hf h dX4_invites_101
  have hf := it_f c6 hf
  refine lv_iload_n hx hb dX4_invites_39 rfl (lv_at hl 3 rfl) ?_
  refine lv_if_lt (tgt := 55) hx hb dX4_invites_40 (by decide) (fun c9 => ?_) (fun c9 => ?_)
  · have hf := it_t c9 hf
    exact LX4_invites_55 fx hag27 h (lv_sub hl [0, 1, 2, 3, 4] rfl) hf
  have hf := it_f c9 hf
  refine lv_iload hx hb dX4_invites_43 (lv_at hl 4 rfl) ?_
  obtain ⟨r10, k10, hg, hf⟩ := bR_inv hf
  refine q_ci (rest := []) (ws' := (wX4_invites cI cJ cZ cS a_t a_party a_party_kinds a_party_costs a_party_terms a_party_known a_kept a_tape a_telephone a_sheets a_findings v_isKept v_party_size v_party_list v_party_told v_party_kinds v_party_terms v_party_known v_findings)) (w1 := (wJ6_bitCount_0f7a4 cI cJ cZ cS)) fx h [] rfl rfl rfl rfl (q_runS fx h hl.1 [] rfl rfl (tJ6_bitCount_0f7a4 l D cI cJ cZ cS tb H.size y4 r10 k10 hg) msJ6_bitCount_0f7a4 k_239 ⟨rfl, rfl⟩ ⟨Nat.le_of_ble_eq_true rfl, Nat.le_of_ble_eq_true rfl⟩ rfl rfl (Nat.le_of_ble_eq_true rfl) dX4_invites_45 ⟨Nat.le_of_ble_eq_true rfl, Nat.le_of_ble_eq_true rfl⟩) (fun H locs h => ?_)
  refine lv_iload_n hx hb dX4_invites_48 rfl (lv_at hl 3 rfl) ?_
  obtain ⟨r11, k11, hg, hf⟩ := bR_inv hf
  refine q_ci (rest := [.int r10]) (ws' := (wX4_invites cI cJ cZ cS a_t a_party a_party_kinds a_party_costs a_party_terms a_party_known a_kept a_tape a_telephone a_sheets a_findings v_isKept v_party_size v_party_list v_party_told v_party_kinds v_party_terms v_party_known v_findings)) (w1 := (wJ6_bitCount_0f7a4 cI cJ cZ cS)) fx h [] rfl rfl rfl rfl (q_runS fx h hl.1 [] rfl rfl (tJ6_bitCount_0f7a4 l D cI cJ cZ cS tb H.size y3 r11 k11 hg) msJ6_bitCount_0f7a4 k_239 ⟨rfl, rfl⟩ ⟨Nat.le_of_ble_eq_true rfl, Nat.le_of_ble_eq_true rfl⟩ rfl rfl (Nat.le_of_ble_eq_true rfl) dX4_invites_49 ⟨Nat.le_of_ble_eq_true rfl, Nat.le_of_ble_eq_true rfl⟩) (fun H locs h => ?_)
  refine lv_icmp_ge (tgt := 59) hx hb dX4_invites_52 (by decide) (fun c12 => ?_) (fun c12 => ?_)
  · have hf := it_t c12 hf
    refine lv_iconst (v := 0) hx hb dX4_invites_59 (by decide) ?_
    exact LX4_invites_60 fx hag27 h (lv_sub hl [0, 1, 2, 3, 4] rfl) hf
  have hf := it_f c12 hf
  exact LX4_invites_55 fx hag27 h (lv_sub hl [0, 1, 2, 3, 4] rfl) hf
set_option maxRecDepth 100000 in
theorem EX4_invites_27 {p : Program} {l : Launch} {e : Env} {s : State} {m : MethodId} {args : Array Value} {below : List Frame} {meth : Method} {c : Code} {D : va_G} {cI cJ cZ cS : ClassId} {tb : Nat} {A : Nat → Prop} {a_t a_party a_party_kinds a_party_costs a_party_terms a_party_known a_kept a_tape a_telephone a_sheets a_findings : Nat} {v_isKept : Int32} {v_party_size : Int32} {v_party_list : Int32} {v_party_told : Int32} {v_party_kinds : Nat → Int32} {v_party_terms : Nat → Int64} {rr : Int32} {kk' : (Nat → Int32) × (Nat → Int32)} (fx : q_Fx p s m args meth c cX4_invites 6 RX4 (some .int) D cI cJ cZ cS tb A) : ∀ (n : Nat), ∀ {v_party_known : Nat → Int32} {v_findings : Nat → Int32} {y1 : Int32} {y2 : Int32} {y3 : Int32} {y4 : Int32} {H : Heap} {locs : List Loc} {ls : Array Slot}, q_H D A s (wX4_invites cI cJ cZ cS a_t a_party a_party_kinds a_party_costs a_party_terms a_party_known a_kept a_tape a_telephone a_sheets a_findings v_isKept v_party_size v_party_list v_party_told v_party_kinds v_party_terms v_party_known v_findings) H locs → lv_has ls 6 [(0, .ref a_t), (1, .int y1), (2, .int y2), (3, .int y3), (4, .int y4)] → ll6 (fX4_invites_27 v_party_size v_party_kinds v_party_terms) n v_party_known v_findings y1 y2 y3 y4 = some (rr, kk') → W p l e rX4_invites s m args below meth c H locs 0 0 (MQ below (q_Ri D rr A ((fun k : (Nat → Int32) × (Nat → Int32) => (wX4_invites cI cJ cZ cS a_t a_party a_party_kinds a_party_costs a_party_terms a_party_known a_kept a_tape a_telephone a_sheets a_findings v_isKept v_party_size v_party_list v_party_told v_party_kinds v_party_terms k.1 k.2)) kk')) args s 0 0 A) (F0 m 27 ls []) := by
  intro n
  induction n with
  | zero => intro v_party_known v_findings y1 y2 y3 y4 H locs ls h hl hf; exact (ll6_z hf).elim
  | succ n ih => intro v_party_known v_findings y1 y2 y3 y4 H locs ls h hl hf; exact LX4_invites_27 fx ih h hl (ll6_s hf)
def fX4_invites_15 (v_party_size : Int32) (v_party_kinds : Nat → Int32) (v_party_terms : Nat → Int64) (v_party_known : Nat → Int32) (v_findings : Nat → Int32) : Option (Int32 × (Nat → Int32) × (Nat → Int32)) :=
  bR (fX4_found v_findings (-1000000001)) (fun r13 k13 =>
  some (r13, (v_party_known, k13)))
set_option maxRecDepth 100000 in
set_option maxHeartbeats 4000000 in
theorem LX4_invites_15 {p : Program} {l : Launch} {e : Env} {s : State} {m : MethodId} {args : Array Value} {below : List Frame} {meth : Method} {c : Code} {D : va_G} {cI cJ cZ cS : ClassId} {tb : Nat} {A : Nat → Prop} {a_t a_party a_party_kinds a_party_costs a_party_terms a_party_known a_kept a_tape a_telephone a_sheets a_findings : Nat} {v_isKept : Int32} {v_party_size : Int32} {v_party_list : Int32} {v_party_told : Int32} {v_party_kinds : Nat → Int32} {v_party_terms : Nat → Int64} {rr : Int32} {kk' : (Nat → Int32) × (Nat → Int32)} (fx : q_Fx p s m args meth c cX4_invites 6 RX4 (some .int) D cI cJ cZ cS tb A) : ∀ {v_party_known : Nat → Int32} {v_findings : Nat → Int32} {H : Heap} {locs : List Loc} {ls : Array Slot}, q_H D A s (wX4_invites cI cJ cZ cS a_t a_party a_party_kinds a_party_costs a_party_terms a_party_known a_kept a_tape a_telephone a_sheets a_findings v_isKept v_party_size v_party_list v_party_told v_party_kinds v_party_terms v_party_known v_findings) H locs → lv_has ls 6 [(0, .ref a_t)] → fX4_invites_15 v_party_size v_party_kinds v_party_terms v_party_known v_findings = some (rr, kk') → W p l e rX4_invites s m args below meth c H locs 0 0 (MQ below (q_Ri D rr A ((fun k : (Nat → Int32) × (Nat → Int32) => (wX4_invites cI cJ cZ cS a_t a_party a_party_kinds a_party_costs a_party_terms a_party_known a_kept a_tape a_telephone a_sheets a_findings v_isKept v_party_size v_party_list v_party_told v_party_kinds v_party_terms k.1 k.2)) kk')) args s 0 0 A) (F0 m 15 ls []) := by
  intro v_party_known v_findings H locs ls h hl hf
  have hx := fx.1
  have hb := fx.2.1
  unfold fX4_invites_15 at hf
  refine lv_aload_n hx hb dX4_invites_15 rfl (lv_at hl 0 rfl) ?_
  refine q_ldc fx k_206 dX4_invites_16 ?_
  obtain ⟨r13, k13, hg, hf⟩ := bR_inv hf
  refine q_ci (rest := []) (ws' := (wX4_invites cI cJ cZ cS a_t a_party a_party_kinds a_party_costs a_party_terms a_party_known a_kept a_tape a_telephone a_sheets a_findings v_isKept v_party_size v_party_list v_party_told v_party_kinds v_party_terms v_party_known k13)) (w1 := (wX4_found cI cJ cZ cS a_t a_party a_kept a_tape a_telephone a_sheets a_findings v_isKept k13)) fx h [0, 5] rfl rfl rfl rfl (q_runV fx h hl.1 [0, 5] rfl rfl (tX4_found l D cI cJ cZ cS tb a_t a_party a_kept a_tape a_telephone a_sheets a_findings H.size v_isKept v_findings (-1000000001) r13 k13 hg) mvX4_found k_207 ⟨rfl, rfl⟩ ⟨Nat.le_of_ble_eq_true rfl, Nat.le_of_ble_eq_true rfl⟩ rfl rfl rfl rfl (Nat.le_of_ble_eq_true rfl) dX4_invites_18 ⟨Nat.le_of_ble_eq_true rfl, Nat.le_of_ble_eq_true rfl⟩) (fun H locs h => ?_)
  exact q_reti (fun k : (Nat → Int32) × (Nat → Int32) => (wX4_invites cI cJ cZ cS a_t a_party a_party_kinds a_party_costs a_party_terms a_party_known a_kept a_tape a_telephone a_sheets a_findings v_isKept v_party_size v_party_list v_party_told v_party_kinds v_party_terms k.1 k.2)) fx hf h dX4_invites_21
def fX4_invites (v_party_size : Int32) (v_party_kinds : Nat → Int32) (v_party_terms : Nat → Int64) (v_party_known : Nat → Int32) (v_findings : Nat → Int32) (x1 : Int32) (x2 : Int32) : Option (Int32 × (Nat → Int32) × (Nat → Int32)) :=
  (if x1 < 0 then (
  fX4_invites_15 v_party_size v_party_kinds v_party_terms v_party_known v_findings)
  else (
  (if (8 : Int32) < x2 then (
  fX4_invites_15 v_party_size v_party_kinds v_party_terms v_party_known v_findings)
  else (
  (if x1 ≤ x2 then (
  ll6 (fX4_invites_27 v_party_size v_party_kinds v_party_terms) qF v_party_known v_findings x1 x2 (-1) 0)
  else (
  fX4_invites_15 v_party_size v_party_kinds v_party_terms v_party_known v_findings))))))
set_option maxRecDepth 100000 in
set_option maxHeartbeats 4000000 in
theorem tX4_invites (l : Launch) (D : va_G) (cI cJ cZ cS : ClassId) (tb : Nat) (a_t a_party a_party_kinds a_party_costs a_party_terms a_party_known a_kept a_tape a_telephone a_sheets a_findings : Nat) (sz : Nat) (v_isKept : Int32) (v_party_size : Int32) (v_party_list : Int32) (v_party_told : Int32) (v_party_kinds : Nat → Int32) (v_party_terms : Nat → Int64) (v_party_known : Nat → Int32) (v_findings : Nat → Int32) (x1 : Int32) (x2 : Int32) (rr : Int32) (kk' : (Nat → Int32) × (Nat → Int32)) (hf : fX4_invites v_party_size v_party_kinds v_party_terms v_party_known v_findings x1 x2 = some (rr, kk')) : Met l yX4_invites (Cond.code yX4_invites cX4_invites 6 (some .int) :: wA) rX4_invites (q_Pre D cI cJ cZ cS tb [.ref a_t, .int x1, .int x2] sz (wX4_invites cI cJ cZ cS a_t a_party a_party_kinds a_party_costs a_party_terms a_party_known a_kept a_tape a_telephone a_sheets a_findings v_isKept v_party_size v_party_list v_party_told v_party_kinds v_party_terms v_party_known v_findings)) (q_Ri D rr (va_A (wX4_invites cI cJ cZ cS a_t a_party a_party_kinds a_party_costs a_party_terms a_party_known a_kept a_tape a_telephone a_sheets a_findings v_isKept v_party_size v_party_list v_party_told v_party_kinds v_party_terms v_party_known v_findings) sz) ((fun k : (Nat → Int32) × (Nat → Int32) => (wX4_invites cI cJ cZ cS a_t a_party a_party_kinds a_party_costs a_party_terms a_party_known a_kept a_tape a_telephone a_sheets a_findings v_isKept v_party_size v_party_list v_party_told v_party_kinds v_party_terms k.1 k.2)) kk')) 0 0 (va_A (wX4_invites cI cJ cZ cS a_t a_party a_party_kinds a_party_costs a_party_terms a_party_known a_kept a_tape a_telephone a_sheets a_findings v_isKept v_party_size v_party_list v_party_told v_party_kinds v_party_terms v_party_known v_findings) sz) := by
  refine q_enter (Qf := fun A => (q_Ri D rr A ((fun k : (Nat → Int32) × (Nat → Int32) => (wX4_invites cI cJ cZ cS a_t a_party a_party_kinds a_party_costs a_party_terms a_party_known a_kept a_tape a_telephone a_sheets a_findings v_isKept v_party_size v_party_list v_party_told v_party_kinds v_party_terms k.1 k.2)) kk'))) (by decide) rfl (Nat.le_of_ble_eq_true rfl) ?_
  intro p e s m below meth c A ls fx hname h hl
  have hx := fx.1
  have hb := fx.2.1
  have hl : lv_has ls 6 [(0, .ref a_t), (1, .int x1), (2, .int x2)] := hl
  generalize h9 : s.heap = H at h ⊢
  clear h9
  generalize h9 : ([] : List Loc) = locs at h ⊢
  clear h9
  unfold fX4_invites at hf
  refine lv_iload_n hx hb dX4_invites_0 rfl (lv_at hl 1 rfl) ?_
  refine lv_if_lt (tgt := 15) hx hb dX4_invites_1 (by decide) (fun c14 => ?_) (fun c14 => ?_)
  · have hf := it_t c14 hf
    exact LX4_invites_15 fx h (lv_sub hl [0] rfl) hf
  have hf := it_f c14 hf
  refine lv_iload_n hx hb dX4_invites_4 rfl (lv_at hl 2 rfl) ?_
  refine lv_bipush (v := 8) hx hb dX4_invites_5 (by decide) ?_
  refine lv_icmp_gt (tgt := 15) hx hb dX4_invites_7 (by decide) (fun c15 => ?_) (fun c15 => ?_)
  · have hf := it_t c15 hf
    exact LX4_invites_15 fx h (lv_sub hl [0] rfl) hf
  have hf := it_f c15 hf
  refine lv_iload_n hx hb dX4_invites_10 rfl (lv_at hl 1 rfl) ?_
  refine lv_iload_n hx hb dX4_invites_11 rfl (lv_at hl 2 rfl) ?_
  refine lv_icmp_le (tgt := 22) hx hb dX4_invites_12 (by decide) (fun c16 => ?_) (fun c16 => ?_)
  · have hf := it_t c16 hf
    refine lv_iconst (v := -1) hx hb dX4_invites_22 (by decide) ?_
    refine lv_istore_n (lv' := [(3, .int (-1)), (0, .ref a_t), (1, .int x1), (2, .int x2)]) hx hb dX4_invites_23 rfl hl (by decide) rfl (fun ls hl => ?_)
    refine lv_iconst (v := 0) hx hb dX4_invites_24 (by decide) ?_
    refine lv_istore (lv' := [(4, .int 0), (3, .int (-1)), (0, .ref a_t), (1, .int x1), (2, .int x2)]) hx hb dX4_invites_25 hl (by decide) rfl (fun ls hl => ?_)
    exact EX4_invites_27 fx qF h (lv_sub hl [2, 3, 4, 1, 0] rfl) hf
  have hf := it_f c16 hf
  exact LX4_invites_15 fx h (lv_sub hl [0] rfl) hf
end
section
/-! X4_against -/
abbrev wX4_against (cI cJ cZ cS : ClassId) (a_t a_party a_party_kinds a_party_costs a_party_terms a_party_known a_kept a_tape a_telephone a_sheets a_findings : Nat) (v_isKept : Int32) (v_party_size : Int32) (v_party_list : Int32) (v_party_told : Int32) (v_party_kinds : Nat → Int32) (v_party_terms : Nat → Int64) (v_party_known : Nat → Int32) (v_findings : Nat → Int32) : va_W := [(a_t, .inr (4, [.ref a_party, .ref a_kept, .int v_isKept, .ref a_tape, .ref a_telephone, .ref a_sheets, .ref a_findings])), (a_party, .inr (0, [.int v_party_size, .int v_party_list, .int v_party_told, .ref a_party_kinds, .ref a_party_costs, .ref a_party_terms, .ref a_party_known])), (a_party_kinds, .inl (cI, 8, .inl v_party_kinds)), (a_party_terms, .inl (cJ, 32, .inr (.inl v_party_terms))), (a_party_known, .inl (cI, 256, .inl v_party_known)), (a_findings, .inl (cI, 7, .inl v_findings))]
abbrev rX4_against : Room := { frames := 5, cells := 0, slots := 0, locals := 111 }
def fX4_against_142 (v_party_size : Int32) (v_party_kinds : Nat → Int32) (v_party_terms : Nat → Int64) (v_party_known : Nat → Int32) (v_findings : Nat → Int32) (s0 : Int32) : Option (Int32 × (Nat → Int32) × (Nat → Int32)) :=
  bR (fX4_oneIf s0) (fun r1 k1 =>
  some (r1, (v_party_known, v_findings)))
set_option maxRecDepth 100000 in
set_option maxHeartbeats 4000000 in
theorem LX4_against_142 {p : Program} {l : Launch} {e : Env} {s : State} {m : MethodId} {args : Array Value} {below : List Frame} {meth : Method} {c : Code} {D : va_G} {cI cJ cZ cS : ClassId} {tb : Nat} {A : Nat → Prop} {a_t a_party a_party_kinds a_party_costs a_party_terms a_party_known a_kept a_tape a_telephone a_sheets a_findings : Nat} {v_isKept : Int32} {v_party_size : Int32} {v_party_list : Int32} {v_party_told : Int32} {v_party_kinds : Nat → Int32} {v_party_terms : Nat → Int64} {rr : Int32} {kk' : (Nat → Int32) × (Nat → Int32)} (fx : q_Fx p s m args meth c cX4_against 9 RX4 (some .int) D cI cJ cZ cS tb A) : ∀ {v_party_known : Nat → Int32} {v_findings : Nat → Int32} {s0 : Int32} {H : Heap} {locs : List Loc} {ls : Array Slot}, q_H D A s (wX4_against cI cJ cZ cS a_t a_party a_party_kinds a_party_costs a_party_terms a_party_known a_kept a_tape a_telephone a_sheets a_findings v_isKept v_party_size v_party_list v_party_told v_party_kinds v_party_terms v_party_known v_findings) H locs → lv_has ls 9 [] → fX4_against_142 v_party_size v_party_kinds v_party_terms v_party_known v_findings s0 = some (rr, kk') → W p l e rX4_against s m args below meth c H locs 0 0 (MQ below (q_Ri D rr A ((fun k : (Nat → Int32) × (Nat → Int32) => (wX4_against cI cJ cZ cS a_t a_party a_party_kinds a_party_costs a_party_terms a_party_known a_kept a_tape a_telephone a_sheets a_findings v_isKept v_party_size v_party_list v_party_told v_party_kinds v_party_terms k.1 k.2)) kk')) args s 0 0 A) (F0 m 142 ls [.int s0]) := by
  intro v_party_known v_findings s0 H locs ls h hl hf
  have hx := fx.1
  have hb := fx.2.1
  unfold fX4_against_142 at hf
  obtain ⟨r1, k1, hg, hf⟩ := bR_inv hf
  refine q_ci (rest := []) (ws' := (wX4_against cI cJ cZ cS a_t a_party a_party_kinds a_party_costs a_party_terms a_party_known a_kept a_tape a_telephone a_sheets a_findings v_isKept v_party_size v_party_list v_party_told v_party_kinds v_party_terms v_party_known v_findings)) (w1 := (wX4_oneIf cI cJ cZ cS)) fx h [] rfl rfl rfl rfl (q_runS fx h hl.1 [] rfl rfl (tX4_oneIf l D cI cJ cZ cS tb H.size s0 r1 k1 hg) msX4_oneIf k_246 ⟨rfl, rfl⟩ ⟨Nat.le_of_ble_eq_true rfl, Nat.le_of_ble_eq_true rfl⟩ rfl rfl (Nat.le_of_ble_eq_true rfl) dX4_against_142 ⟨Nat.le_of_ble_eq_true rfl, Nat.le_of_ble_eq_true rfl⟩) (fun H locs h => ?_)
  exact q_reti (fun k : (Nat → Int32) × (Nat → Int32) => (wX4_against cI cJ cZ cS a_t a_party a_party_kinds a_party_costs a_party_terms a_party_known a_kept a_tape a_telephone a_sheets a_findings v_isKept v_party_size v_party_list v_party_told v_party_kinds v_party_terms k.1 k.2)) fx hf h dX4_against_145
def fX4_against_141 (v_party_size : Int32) (v_party_kinds : Nat → Int32) (v_party_terms : Nat → Int64) (v_party_known : Nat → Int32) (v_findings : Nat → Int32) : Option (Int32 × (Nat → Int32) × (Nat → Int32)) :=
  fX4_against_142 v_party_size v_party_kinds v_party_terms v_party_known v_findings 0
set_option maxRecDepth 100000 in
set_option maxHeartbeats 4000000 in
theorem LX4_against_141 {p : Program} {l : Launch} {e : Env} {s : State} {m : MethodId} {args : Array Value} {below : List Frame} {meth : Method} {c : Code} {D : va_G} {cI cJ cZ cS : ClassId} {tb : Nat} {A : Nat → Prop} {a_t a_party a_party_kinds a_party_costs a_party_terms a_party_known a_kept a_tape a_telephone a_sheets a_findings : Nat} {v_isKept : Int32} {v_party_size : Int32} {v_party_list : Int32} {v_party_told : Int32} {v_party_kinds : Nat → Int32} {v_party_terms : Nat → Int64} {rr : Int32} {kk' : (Nat → Int32) × (Nat → Int32)} (fx : q_Fx p s m args meth c cX4_against 9 RX4 (some .int) D cI cJ cZ cS tb A) : ∀ {v_party_known : Nat → Int32} {v_findings : Nat → Int32} {H : Heap} {locs : List Loc} {ls : Array Slot}, q_H D A s (wX4_against cI cJ cZ cS a_t a_party a_party_kinds a_party_costs a_party_terms a_party_known a_kept a_tape a_telephone a_sheets a_findings v_isKept v_party_size v_party_list v_party_told v_party_kinds v_party_terms v_party_known v_findings) H locs → lv_has ls 9 [] → fX4_against_141 v_party_size v_party_kinds v_party_terms v_party_known v_findings = some (rr, kk') → W p l e rX4_against s m args below meth c H locs 0 0 (MQ below (q_Ri D rr A ((fun k : (Nat → Int32) × (Nat → Int32) => (wX4_against cI cJ cZ cS a_t a_party a_party_kinds a_party_costs a_party_terms a_party_known a_kept a_tape a_telephone a_sheets a_findings v_isKept v_party_size v_party_list v_party_told v_party_kinds v_party_terms k.1 k.2)) kk')) args s 0 0 A) (F0 m 141 ls []) := by
  intro v_party_known v_findings H locs ls h hl hf
  have hx := fx.1
  have hb := fx.2.1
  unfold fX4_against_141 at hf
  refine lv_iconst (v := 0) hx hb dX4_against_141 (by decide) ?_
  exact LX4_against_142 fx h (lv_sub hl [] rfl) hf
def fX4_against_117 (v_party_size : Int32) (v_party_kinds : Nat → Int32) (v_party_terms : Nat → Int64) (ag45 : (Nat → Int32) → (Nat → Int32) → Int32 → Int32 → Int32 → Int32 → Int32 → Int32 → Option (Int32 × (Nat → Int32) × (Nat → Int32))) (v_party_known : Nat → Int32) (v_findings : Nat → Int32) (y1 : Int32) (y2 : Int32) (y3 : Int32) (y4 : Int32) (y5 : Int32) (y6 : Int32) : Option (Int32 × (Nat → Int32) × (Nat → Int32)) :=
  nm (y6 + 1) (fun u2 =>
  ag45 v_party_known v_findings y1 y2 y3 y4 y5 u2)
set_option maxRecDepth 100000 in
set_option maxHeartbeats 4000000 in
theorem LX4_against_117 {p : Program} {l : Launch} {e : Env} {s : State} {m : MethodId} {args : Array Value} {below : List Frame} {meth : Method} {c : Code} {D : va_G} {cI cJ cZ cS : ClassId} {tb : Nat} {A : Nat → Prop} {a_t a_party a_party_kinds a_party_costs a_party_terms a_party_known a_kept a_tape a_telephone a_sheets a_findings : Nat} {v_isKept : Int32} {v_party_size : Int32} {v_party_list : Int32} {v_party_told : Int32} {v_party_kinds : Nat → Int32} {v_party_terms : Nat → Int64} {rr : Int32} {kk' : (Nat → Int32) × (Nat → Int32)} (fx : q_Fx p s m args meth c cX4_against 9 RX4 (some .int) D cI cJ cZ cS tb A) {ag45 : (Nat → Int32) → (Nat → Int32) → Int32 → Int32 → Int32 → Int32 → Int32 → Int32 → Option (Int32 × (Nat → Int32) × (Nat → Int32))} (hag45 : ∀ {v_party_known : Nat → Int32} {v_findings : Nat → Int32} {y1 : Int32} {y2 : Int32} {y3 : Int32} {y4 : Int32} {y5 : Int32} {y6 : Int32} {H : Heap} {locs : List Loc} {ls : Array Slot}, q_H D A s (wX4_against cI cJ cZ cS a_t a_party a_party_kinds a_party_costs a_party_terms a_party_known a_kept a_tape a_telephone a_sheets a_findings v_isKept v_party_size v_party_list v_party_told v_party_kinds v_party_terms v_party_known v_findings) H locs → lv_has ls 9 [(0, .ref a_t), (1, .int y1), (2, .int y2), (3, .int y3), (4, .int y4), (5, .int y5), (6, .int y6)] → ag45 v_party_known v_findings y1 y2 y3 y4 y5 y6 = some (rr, kk') → W p l e rX4_against s m args below meth c H locs 0 0 (MQ below (q_Ri D rr A ((fun k : (Nat → Int32) × (Nat → Int32) => (wX4_against cI cJ cZ cS a_t a_party a_party_kinds a_party_costs a_party_terms a_party_known a_kept a_tape a_telephone a_sheets a_findings v_isKept v_party_size v_party_list v_party_told v_party_kinds v_party_terms k.1 k.2)) kk')) args s 0 0 A) (F0 m 45 ls [])) : ∀ {v_party_known : Nat → Int32} {v_findings : Nat → Int32} {y1 : Int32} {y2 : Int32} {y3 : Int32} {y4 : Int32} {y5 : Int32} {y6 : Int32} {H : Heap} {locs : List Loc} {ls : Array Slot}, q_H D A s (wX4_against cI cJ cZ cS a_t a_party a_party_kinds a_party_costs a_party_terms a_party_known a_kept a_tape a_telephone a_sheets a_findings v_isKept v_party_size v_party_list v_party_told v_party_kinds v_party_terms v_party_known v_findings) H locs → lv_has ls 9 [(0, .ref a_t), (1, .int y1), (2, .int y2), (3, .int y3), (4, .int y4), (5, .int y5), (6, .int y6)] → fX4_against_117 v_party_size v_party_kinds v_party_terms ag45 v_party_known v_findings y1 y2 y3 y4 y5 y6 = some (rr, kk') → W p l e rX4_against s m args below meth c H locs 0 0 (MQ below (q_Ri D rr A ((fun k : (Nat → Int32) × (Nat → Int32) => (wX4_against cI cJ cZ cS a_t a_party a_party_kinds a_party_costs a_party_terms a_party_known a_kept a_tape a_telephone a_sheets a_findings v_isKept v_party_size v_party_list v_party_told v_party_kinds v_party_terms k.1 k.2)) kk')) args s 0 0 A) (F0 m 117 ls []) := by
  intro v_party_known v_findings y1 y2 y3 y4 y5 y6 H locs ls h hl hf
  have hx := fx.1
  have hb := fx.2.1
  unfold fX4_against_117 at hf
  obtain ⟨u2, eu2, hf⟩ := nm_inv hf
  refine lv_iinc (v := u2) (lv' := [(6, .int u2), (0, .ref a_t), (1, .int y1), (2, .int y2), (3, .int y3), (4, .int y4), (5, .int y5)]) hx hb dX4_against_117 hl (k := 6) rfl (by rw [eu2]; rfl) (by decide) rfl (fun ls hl => ?_)
  refine lv_goto (tgt := 45) hx hb dX4_against_120 (by decide) ?_
  exact hag45 h (lv_sub hl [1, 2, 3, 4, 5, 6, 0] rfl) hf
def fX4_against_114 (v_party_size : Int32) (v_party_kinds : Nat → Int32) (v_party_terms : Nat → Int64) (ag45 : (Nat → Int32) → (Nat → Int32) → Int32 → Int32 → Int32 → Int32 → Int32 → Int32 → Option (Int32 × (Nat → Int32) × (Nat → Int32))) (v_party_known : Nat → Int32) (v_findings : Nat → Int32) (s0 : Int32) (s1 : Int32) (y1 : Int32) (y2 : Int32) (y3 : Int32) (y4 : Int32) (y6 : Int32) : Option (Int32 × (Nat → Int32) × (Nat → Int32)) :=
  nm (s0 ||| s1) (fun u3 =>
  fX4_against_117 v_party_size v_party_kinds v_party_terms ag45 v_party_known v_findings y1 y2 y3 y4 u3 y6)
set_option maxRecDepth 100000 in
set_option maxHeartbeats 4000000 in
theorem LX4_against_114 {p : Program} {l : Launch} {e : Env} {s : State} {m : MethodId} {args : Array Value} {below : List Frame} {meth : Method} {c : Code} {D : va_G} {cI cJ cZ cS : ClassId} {tb : Nat} {A : Nat → Prop} {a_t a_party a_party_kinds a_party_costs a_party_terms a_party_known a_kept a_tape a_telephone a_sheets a_findings : Nat} {v_isKept : Int32} {v_party_size : Int32} {v_party_list : Int32} {v_party_told : Int32} {v_party_kinds : Nat → Int32} {v_party_terms : Nat → Int64} {rr : Int32} {kk' : (Nat → Int32) × (Nat → Int32)} (fx : q_Fx p s m args meth c cX4_against 9 RX4 (some .int) D cI cJ cZ cS tb A) {ag45 : (Nat → Int32) → (Nat → Int32) → Int32 → Int32 → Int32 → Int32 → Int32 → Int32 → Option (Int32 × (Nat → Int32) × (Nat → Int32))} (hag45 : ∀ {v_party_known : Nat → Int32} {v_findings : Nat → Int32} {y1 : Int32} {y2 : Int32} {y3 : Int32} {y4 : Int32} {y5 : Int32} {y6 : Int32} {H : Heap} {locs : List Loc} {ls : Array Slot}, q_H D A s (wX4_against cI cJ cZ cS a_t a_party a_party_kinds a_party_costs a_party_terms a_party_known a_kept a_tape a_telephone a_sheets a_findings v_isKept v_party_size v_party_list v_party_told v_party_kinds v_party_terms v_party_known v_findings) H locs → lv_has ls 9 [(0, .ref a_t), (1, .int y1), (2, .int y2), (3, .int y3), (4, .int y4), (5, .int y5), (6, .int y6)] → ag45 v_party_known v_findings y1 y2 y3 y4 y5 y6 = some (rr, kk') → W p l e rX4_against s m args below meth c H locs 0 0 (MQ below (q_Ri D rr A ((fun k : (Nat → Int32) × (Nat → Int32) => (wX4_against cI cJ cZ cS a_t a_party a_party_kinds a_party_costs a_party_terms a_party_known a_kept a_tape a_telephone a_sheets a_findings v_isKept v_party_size v_party_list v_party_told v_party_kinds v_party_terms k.1 k.2)) kk')) args s 0 0 A) (F0 m 45 ls [])) : ∀ {v_party_known : Nat → Int32} {v_findings : Nat → Int32} {s0 : Int32} {s1 : Int32} {y1 : Int32} {y2 : Int32} {y3 : Int32} {y4 : Int32} {y6 : Int32} {H : Heap} {locs : List Loc} {ls : Array Slot}, q_H D A s (wX4_against cI cJ cZ cS a_t a_party a_party_kinds a_party_costs a_party_terms a_party_known a_kept a_tape a_telephone a_sheets a_findings v_isKept v_party_size v_party_list v_party_told v_party_kinds v_party_terms v_party_known v_findings) H locs → lv_has ls 9 [(0, .ref a_t), (1, .int y1), (2, .int y2), (3, .int y3), (4, .int y4), (6, .int y6)] → fX4_against_114 v_party_size v_party_kinds v_party_terms ag45 v_party_known v_findings s0 s1 y1 y2 y3 y4 y6 = some (rr, kk') → W p l e rX4_against s m args below meth c H locs 0 0 (MQ below (q_Ri D rr A ((fun k : (Nat → Int32) × (Nat → Int32) => (wX4_against cI cJ cZ cS a_t a_party a_party_kinds a_party_costs a_party_terms a_party_known a_kept a_tape a_telephone a_sheets a_findings v_isKept v_party_size v_party_list v_party_told v_party_kinds v_party_terms k.1 k.2)) kk')) args s 0 0 A) (F0 m 114 ls [.int s1, .int s0]) := by
  intro v_party_known v_findings s0 s1 y1 y2 y3 y4 y6 H locs ls h hl hf
  have hx := fx.1
  have hb := fx.2.1
  unfold fX4_against_114 at hf
  refine lv_ior hx hb dX4_against_114 ?_
  obtain ⟨u3, eu3, hf⟩ := nm_inv hf
  refine lv_eqi eu3 ?_
  refine lv_istore (lv' := [(5, .int u3), (0, .ref a_t), (1, .int y1), (2, .int y2), (3, .int y3), (4, .int y4), (6, .int y6)]) hx hb dX4_against_115 hl (by decide) rfl (fun ls hl => ?_)
  exact LX4_against_117 fx hag45 h (lv_sub hl [1, 2, 3, 4, 5, 0, 6] rfl) hf
def fX4_against_113 (v_party_size : Int32) (v_party_kinds : Nat → Int32) (v_party_terms : Nat → Int64) (ag45 : (Nat → Int32) → (Nat → Int32) → Int32 → Int32 → Int32 → Int32 → Int32 → Int32 → Option (Int32 × (Nat → Int32) × (Nat → Int32))) (v_party_known : Nat → Int32) (v_findings : Nat → Int32) (s0 : Int32) (y1 : Int32) (y2 : Int32) (y3 : Int32) (y4 : Int32) (y6 : Int32) : Option (Int32 × (Nat → Int32) × (Nat → Int32)) :=
  fX4_against_114 v_party_size v_party_kinds v_party_terms ag45 v_party_known v_findings s0 0 y1 y2 y3 y4 y6
set_option maxRecDepth 100000 in
set_option maxHeartbeats 4000000 in
theorem LX4_against_113 {p : Program} {l : Launch} {e : Env} {s : State} {m : MethodId} {args : Array Value} {below : List Frame} {meth : Method} {c : Code} {D : va_G} {cI cJ cZ cS : ClassId} {tb : Nat} {A : Nat → Prop} {a_t a_party a_party_kinds a_party_costs a_party_terms a_party_known a_kept a_tape a_telephone a_sheets a_findings : Nat} {v_isKept : Int32} {v_party_size : Int32} {v_party_list : Int32} {v_party_told : Int32} {v_party_kinds : Nat → Int32} {v_party_terms : Nat → Int64} {rr : Int32} {kk' : (Nat → Int32) × (Nat → Int32)} (fx : q_Fx p s m args meth c cX4_against 9 RX4 (some .int) D cI cJ cZ cS tb A) {ag45 : (Nat → Int32) → (Nat → Int32) → Int32 → Int32 → Int32 → Int32 → Int32 → Int32 → Option (Int32 × (Nat → Int32) × (Nat → Int32))} (hag45 : ∀ {v_party_known : Nat → Int32} {v_findings : Nat → Int32} {y1 : Int32} {y2 : Int32} {y3 : Int32} {y4 : Int32} {y5 : Int32} {y6 : Int32} {H : Heap} {locs : List Loc} {ls : Array Slot}, q_H D A s (wX4_against cI cJ cZ cS a_t a_party a_party_kinds a_party_costs a_party_terms a_party_known a_kept a_tape a_telephone a_sheets a_findings v_isKept v_party_size v_party_list v_party_told v_party_kinds v_party_terms v_party_known v_findings) H locs → lv_has ls 9 [(0, .ref a_t), (1, .int y1), (2, .int y2), (3, .int y3), (4, .int y4), (5, .int y5), (6, .int y6)] → ag45 v_party_known v_findings y1 y2 y3 y4 y5 y6 = some (rr, kk') → W p l e rX4_against s m args below meth c H locs 0 0 (MQ below (q_Ri D rr A ((fun k : (Nat → Int32) × (Nat → Int32) => (wX4_against cI cJ cZ cS a_t a_party a_party_kinds a_party_costs a_party_terms a_party_known a_kept a_tape a_telephone a_sheets a_findings v_isKept v_party_size v_party_list v_party_told v_party_kinds v_party_terms k.1 k.2)) kk')) args s 0 0 A) (F0 m 45 ls [])) : ∀ {v_party_known : Nat → Int32} {v_findings : Nat → Int32} {s0 : Int32} {y1 : Int32} {y2 : Int32} {y3 : Int32} {y4 : Int32} {y6 : Int32} {H : Heap} {locs : List Loc} {ls : Array Slot}, q_H D A s (wX4_against cI cJ cZ cS a_t a_party a_party_kinds a_party_costs a_party_terms a_party_known a_kept a_tape a_telephone a_sheets a_findings v_isKept v_party_size v_party_list v_party_told v_party_kinds v_party_terms v_party_known v_findings) H locs → lv_has ls 9 [(0, .ref a_t), (1, .int y1), (2, .int y2), (3, .int y3), (4, .int y4), (6, .int y6)] → fX4_against_113 v_party_size v_party_kinds v_party_terms ag45 v_party_known v_findings s0 y1 y2 y3 y4 y6 = some (rr, kk') → W p l e rX4_against s m args below meth c H locs 0 0 (MQ below (q_Ri D rr A ((fun k : (Nat → Int32) × (Nat → Int32) => (wX4_against cI cJ cZ cS a_t a_party a_party_kinds a_party_costs a_party_terms a_party_known a_kept a_tape a_telephone a_sheets a_findings v_isKept v_party_size v_party_list v_party_told v_party_kinds v_party_terms k.1 k.2)) kk')) args s 0 0 A) (F0 m 113 ls [.int s0]) := by
  intro v_party_known v_findings s0 y1 y2 y3 y4 y6 H locs ls h hl hf
  have hx := fx.1
  have hb := fx.2.1
  unfold fX4_against_113 at hf
  refine lv_iconst (v := 0) hx hb dX4_against_113 (by decide) ?_
  exact LX4_against_114 fx hag45 h (lv_sub hl [0, 1, 2, 3, 4, 5] rfl) hf
def fX4_against_45 (v_party_size : Int32) (v_party_kinds : Nat → Int32) (v_party_terms : Nat → Int64) (ag45 : (Nat → Int32) → (Nat → Int32) → Int32 → Int32 → Int32 → Int32 → Int32 → Int32 → Option (Int32 × (Nat → Int32) × (Nat → Int32))) (v_party_known : Nat → Int32) (v_findings : Nat → Int32) (y1 : Int32) (y2 : Int32) (y3 : Int32) (y4 : Int32) (y5 : Int32) (y6 : Int32) : Option (Int32 × (Nat → Int32) × (Nat → Int32)) :=
  bR (fX0_lists v_party_size) (fun r4 k4 =>
  (if r4 ≤ y6 then (
  (if y3 = 0 then (
  fX4_against_141 v_party_size v_party_kinds v_party_terms v_party_known v_findings)
  else (
  (if y4 = 0 then (
  fX4_against_141 v_party_size v_party_kinds v_party_terms v_party_known v_findings)
  else (
  (if y5 = 0 then (
  fX4_against_142 v_party_size v_party_kinds v_party_terms v_party_known v_findings 1)
  else (
  fX4_against_141 v_party_size v_party_kinds v_party_terms v_party_known v_findings)))))))
  else (
  bR (fX0_isSettled v_party_size v_party_kinds v_party_terms v_party_known y6) (fun r9 k9 =>
  (if r9 = 0 then (
  fX4_against_117 v_party_size v_party_kinds v_party_terms ag45 k9 v_findings y1 y2 y3 y4 y5 y6)
  else (
  bR (fX4_isOn y1 y6) (fun r11 k11 =>
  bR (fX4_isOn y2 y6) (fun r12 k12 =>
  nm (y3 ||| r11) (fun u13 =>
  nm (y4 ||| r12) (fun u14 =>
  (if r11 = 0 then (
  fX4_against_113 v_party_size v_party_kinds v_party_terms ag45 k9 v_findings y5 y1 y2 u13 u14 y6)
  else (
  (if r12 = 0 then (
  fX4_against_113 v_party_size v_party_kinds v_party_terms ag45 k9 v_findings y5 y1 y2 u13 u14 y6)
  else (
  fX4_against_114 v_party_size v_party_kinds v_party_terms ag45 k9 v_findings y5 1 y1 y2 u13 u14 y6))))))))))))))
set_option maxRecDepth 100000 in
set_option maxHeartbeats 4000000 in
theorem LX4_against_45 {p : Program} {l : Launch} {e : Env} {s : State} {m : MethodId} {args : Array Value} {below : List Frame} {meth : Method} {c : Code} {D : va_G} {cI cJ cZ cS : ClassId} {tb : Nat} {A : Nat → Prop} {a_t a_party a_party_kinds a_party_costs a_party_terms a_party_known a_kept a_tape a_telephone a_sheets a_findings : Nat} {v_isKept : Int32} {v_party_size : Int32} {v_party_list : Int32} {v_party_told : Int32} {v_party_kinds : Nat → Int32} {v_party_terms : Nat → Int64} {rr : Int32} {kk' : (Nat → Int32) × (Nat → Int32)} (fx : q_Fx p s m args meth c cX4_against 9 RX4 (some .int) D cI cJ cZ cS tb A) {ag45 : (Nat → Int32) → (Nat → Int32) → Int32 → Int32 → Int32 → Int32 → Int32 → Int32 → Option (Int32 × (Nat → Int32) × (Nat → Int32))} (hag45 : ∀ {v_party_known : Nat → Int32} {v_findings : Nat → Int32} {y1 : Int32} {y2 : Int32} {y3 : Int32} {y4 : Int32} {y5 : Int32} {y6 : Int32} {H : Heap} {locs : List Loc} {ls : Array Slot}, q_H D A s (wX4_against cI cJ cZ cS a_t a_party a_party_kinds a_party_costs a_party_terms a_party_known a_kept a_tape a_telephone a_sheets a_findings v_isKept v_party_size v_party_list v_party_told v_party_kinds v_party_terms v_party_known v_findings) H locs → lv_has ls 9 [(0, .ref a_t), (1, .int y1), (2, .int y2), (3, .int y3), (4, .int y4), (5, .int y5), (6, .int y6)] → ag45 v_party_known v_findings y1 y2 y3 y4 y5 y6 = some (rr, kk') → W p l e rX4_against s m args below meth c H locs 0 0 (MQ below (q_Ri D rr A ((fun k : (Nat → Int32) × (Nat → Int32) => (wX4_against cI cJ cZ cS a_t a_party a_party_kinds a_party_costs a_party_terms a_party_known a_kept a_tape a_telephone a_sheets a_findings v_isKept v_party_size v_party_list v_party_told v_party_kinds v_party_terms k.1 k.2)) kk')) args s 0 0 A) (F0 m 45 ls [])) : ∀ {v_party_known : Nat → Int32} {v_findings : Nat → Int32} {y1 : Int32} {y2 : Int32} {y3 : Int32} {y4 : Int32} {y5 : Int32} {y6 : Int32} {H : Heap} {locs : List Loc} {ls : Array Slot}, q_H D A s (wX4_against cI cJ cZ cS a_t a_party a_party_kinds a_party_costs a_party_terms a_party_known a_kept a_tape a_telephone a_sheets a_findings v_isKept v_party_size v_party_list v_party_told v_party_kinds v_party_terms v_party_known v_findings) H locs → lv_has ls 9 [(0, .ref a_t), (1, .int y1), (2, .int y2), (3, .int y3), (4, .int y4), (5, .int y5), (6, .int y6)] → fX4_against_45 v_party_size v_party_kinds v_party_terms ag45 v_party_known v_findings y1 y2 y3 y4 y5 y6 = some (rr, kk') → W p l e rX4_against s m args below meth c H locs 0 0 (MQ below (q_Ri D rr A ((fun k : (Nat → Int32) × (Nat → Int32) => (wX4_against cI cJ cZ cS a_t a_party a_party_kinds a_party_costs a_party_terms a_party_known a_kept a_tape a_telephone a_sheets a_findings v_isKept v_party_size v_party_list v_party_told v_party_kinds v_party_terms k.1 k.2)) kk')) args s 0 0 A) (F0 m 45 ls []) := by
  intro v_party_known v_findings y1 y2 y3 y4 y5 y6 H locs ls h hl hf
  have hx := fx.1
  have hb := fx.2.1
  unfold fX4_against_45 at hf
  refine lv_iload hx hb dX4_against_45 (lv_at hl 6 rfl) ?_
  refine lv_aload_n hx hb dX4_against_47 rfl (lv_at hl 0 rfl) ?_
  refine q_get (v := .ref a_party) fx inX4 h 0 rfl rfl 0 (by decide) k_174 rfl dX4_against_48 ?_
  obtain ⟨r4, k4, hg, hf⟩ := bR_inv hf
  refine q_ci (rest := [.int y6]) (ws' := (wX4_against cI cJ cZ cS a_t a_party a_party_kinds a_party_costs a_party_terms a_party_known a_kept a_tape a_telephone a_sheets a_findings v_isKept v_party_size v_party_list v_party_told v_party_kinds v_party_terms v_party_known v_findings)) (w1 := (wX0_lists cI cJ cZ cS a_party a_party_kinds a_party_costs a_party_terms a_party_known v_party_size v_party_list v_party_told)) fx h [1] rfl rfl rfl rfl (q_runV fx h hl.1 [1] rfl rfl (tX0_lists l D cI cJ cZ cS tb a_party a_party_kinds a_party_costs a_party_terms a_party_known H.size v_party_size v_party_list v_party_told r4 k4 hg) mvX0_lists k_447 ⟨rfl, rfl⟩ ⟨Nat.le_of_ble_eq_true rfl, Nat.le_of_ble_eq_true rfl⟩ rfl rfl rfl rfl (Nat.le_of_ble_eq_true rfl) dX4_against_51 ⟨Nat.le_of_ble_eq_true rfl, Nat.le_of_ble_eq_true rfl⟩) (fun H locs h => ?_)
  refine lv_icmp_ge (tgt := 123) hx hb dX4_against_54 (by decide) (fun c5 => ?_) (fun c5 => ?_)
  · have hf := it_t c5 hf
    refine lv_iload_n hx hb dX4_against_123 rfl (lv_at hl 3 rfl) ?_
    refine lv_if_eq (tgt := 141) hx hb dX4_against_124 (by decide) (fun c6 => ?_) (fun c6 => ?_)
    · have hf := it_t c6 hf
      exact LX4_against_141 fx h (lv_sub hl [] rfl) hf
    have hf := it_f c6 hf
    refine lv_iload hx hb dX4_against_127 (lv_at hl 4 rfl) ?_
    refine lv_if_eq (tgt := 141) hx hb dX4_against_129 (by decide) (fun c7 => ?_) (fun c7 => ?_)
    · have hf := it_t c7 hf
      exact LX4_against_141 fx h (lv_sub hl [] rfl) hf
    have hf := it_f c7 hf
    refine lv_iload hx hb dX4_against_132 (lv_at hl 5 rfl) ?_
    refine lv_if_ne (tgt := 141) hx hb dX4_against_134 (by decide) (fun c8 => ?_) (fun c8 => ?_)
    · have hf := it_f c8 hf
      exact LX4_against_141 fx h (lv_sub hl [] rfl) hf
    have hf := it_t c8 hf
    refine lv_iconst (v := 1) hx hb dX4_against_137 (by decide) ?_
    refine lv_goto (tgt := 142) hx hb dX4_against_138 (by decide) ?_
    exact LX4_against_142 fx h (lv_sub hl [] rfl) hf
  have hf := it_f c5 hf
  refine lv_aload_n hx hb dX4_against_57 rfl (lv_at hl 0 rfl) ?_
  refine q_get (v := .ref a_party) fx inX4 h 0 rfl rfl 0 (by decide) k_174 rfl dX4_against_58 ?_
  refine lv_iload hx hb dX4_against_61 (lv_at hl 6 rfl) ?_
  obtain ⟨r9, k9, hg, hf⟩ := bR_inv hf
  refine q_ci (rest := []) (ws' := (wX4_against cI cJ cZ cS a_t a_party a_party_kinds a_party_costs a_party_terms a_party_known a_kept a_tape a_telephone a_sheets a_findings v_isKept v_party_size v_party_list v_party_told v_party_kinds v_party_terms k9 v_findings)) (w1 := (wX0_isSettled cI cJ cZ cS a_party a_party_kinds a_party_costs a_party_terms a_party_known v_party_size v_party_list v_party_told v_party_kinds v_party_terms k9)) fx h [1, 2, 3, 4] rfl rfl rfl rfl (q_runV fx h hl.1 [1, 2, 3, 4] rfl rfl (tX0_isSettled l D cI cJ cZ cS tb a_party a_party_kinds a_party_costs a_party_terms a_party_known H.size v_party_size v_party_list v_party_told v_party_kinds v_party_terms v_party_known y6 r9 k9 hg) mvX0_isSettled k_358 ⟨rfl, rfl⟩ ⟨Nat.le_of_ble_eq_true rfl, Nat.le_of_ble_eq_true rfl⟩ rfl rfl rfl rfl (Nat.le_of_ble_eq_true rfl) dX4_against_63 ⟨Nat.le_of_ble_eq_true rfl, Nat.le_of_ble_eq_true rfl⟩) (fun H locs h => ?_)
  refine lv_if_eq (tgt := 117) hx hb dX4_against_66 (by decide) (fun c10 => ?_) (fun c10 => ?_)
  · have hf := it_t c10 hf
    exact LX4_against_117 fx hag45 h (lv_sub hl [0, 1, 2, 3, 4, 5, 6] rfl) hf
  have hf := it_f c10 hf
  refine lv_iload_n hx hb dX4_against_69 rfl (lv_at hl 1 rfl) ?_
  refine lv_iload hx hb dX4_against_70 (lv_at hl 6 rfl) ?_
  obtain ⟨r11, k11, hg, hf⟩ := bR_inv hf
  refine q_ci (rest := []) (ws' := (wX4_against cI cJ cZ cS a_t a_party a_party_kinds a_party_costs a_party_terms a_party_known a_kept a_tape a_telephone a_sheets a_findings v_isKept v_party_size v_party_list v_party_told v_party_kinds v_party_terms k9 v_findings)) (w1 := (wX4_isOn cI cJ cZ cS)) fx h [] rfl rfl rfl rfl (q_runS fx h hl.1 [] rfl rfl (tX4_isOn l D cI cJ cZ cS tb H.size y1 y6 r11 k11 hg) msX4_isOn k_515 ⟨rfl, rfl⟩ ⟨Nat.le_of_ble_eq_true rfl, Nat.le_of_ble_eq_true rfl⟩ rfl rfl (Nat.le_of_ble_eq_true rfl) dX4_against_72 ⟨Nat.le_of_ble_eq_true rfl, Nat.le_of_ble_eq_true rfl⟩) (fun H locs h => ?_)
  refine lv_istore (lv' := [(7, .int r11), (0, .ref a_t), (1, .int y1), (2, .int y2), (3, .int y3), (4, .int y4), (5, .int y5), (6, .int y6)]) hx hb dX4_against_75 hl (by decide) rfl (fun ls hl => ?_)
  refine lv_iload_n hx hb dX4_against_77 rfl (lv_at hl 3 rfl) ?_
  refine lv_iload hx hb dX4_against_78 (lv_at hl 7 rfl) ?_
  obtain ⟨r12, k12, hg, hf⟩ := bR_inv hf
  refine q_ci (rest := []) (ws' := (wX4_against cI cJ cZ cS a_t a_party a_party_kinds a_party_costs a_party_terms a_party_known a_kept a_tape a_telephone a_sheets a_findings v_isKept v_party_size v_party_list v_party_told v_party_kinds v_party_terms k9 v_findings)) (w1 := (wX4_isOn cI cJ cZ cS)) fx h [] rfl rfl rfl rfl (q_runS fx h hl.1 [] rfl rfl (tX4_isOn l D cI cJ cZ cS tb H.size y2 y6 r12 k12 hg) msX4_isOn k_515 ⟨rfl, rfl⟩ ⟨Nat.le_of_ble_eq_true rfl, Nat.le_of_ble_eq_true rfl⟩ rfl rfl (Nat.le_of_ble_eq_true rfl) dX4_against_80 ⟨Nat.le_of_ble_eq_true rfl, Nat.le_of_ble_eq_true rfl⟩) (fun H locs h => ?_)
  refine lv_istore (lv' := [(8, .int r12), (7, .int r11), (0, .ref a_t), (1, .int y1), (2, .int y2), (3, .int y3), (4, .int y4), (5, .int y5), (6, .int y6)]) hx hb dX4_against_83 hl (by decide) rfl (fun ls hl => ?_)
  refine lv_iload_n hx hb dX4_against_85 rfl (lv_at hl 5 rfl) ?_
  refine lv_iload hx hb dX4_against_86 (lv_at hl 1 rfl) ?_
  refine lv_ior hx hb dX4_against_88 ?_
  obtain ⟨u13, eu13, hf⟩ := nm_inv hf
  refine lv_eqi eu13 ?_
  refine lv_istore_n (lv' := [(3, .int u13), (8, .int r12), (7, .int r11), (0, .ref a_t), (1, .int y1), (2, .int y2), (4, .int y4), (5, .int y5), (6, .int y6)]) hx hb dX4_against_89 rfl hl (by decide) rfl (fun ls hl => ?_)
  refine lv_iload hx hb dX4_against_90 (lv_at hl 6 rfl) ?_
  refine lv_iload hx hb dX4_against_92 (lv_at hl 1 rfl) ?_
  refine lv_ior hx hb dX4_against_94 ?_
  obtain ⟨u14, eu14, hf⟩ := nm_inv hf
  refine lv_eqi eu14 ?_
  refine lv_istore (lv' := [(4, .int u14), (3, .int u13), (8, .int r12), (7, .int r11), (0, .ref a_t), (1, .int y1), (2, .int y2), (5, .int y5), (6, .int y6)]) hx hb dX4_against_95 hl (by decide) rfl (fun ls hl => ?_)
  refine lv_iload hx hb dX4_against_97 (lv_at hl 7 rfl) ?_
  refine lv_iload hx hb dX4_against_99 (lv_at hl 3 rfl) ?_
  refine lv_if_eq (tgt := 113) hx hb dX4_against_101 (by decide) (fun c15 => ?_) (fun c15 => ?_)
  · have hf := it_t c15 hf
    exact LX4_against_113 fx hag45 h (lv_sub hl [4, 5, 6, 1, 0, 8] rfl) hf
  have hf := it_f c15 hf
  refine lv_iload hx hb dX4_against_104 (lv_at hl 2 rfl) ?_
  refine lv_if_eq (tgt := 113) hx hb dX4_against_106 (by decide) (fun c16 => ?_) (fun c16 => ?_)
  · have hf := it_t c16 hf
    exact LX4_against_113 fx hag45 h (lv_sub hl [4, 5, 6, 1, 0, 8] rfl) hf
  have hf := it_f c16 hf
  refine lv_iconst (v := 1) hx hb dX4_against_109 (by decide) ?_
  refine lv_goto (tgt := 114) hx hb dX4_against_110 (by decide) ?_
  exact LX4_against_114 fx hag45 h (lv_sub hl [4, 5, 6, 1, 0, 8] rfl) hf
set_option maxRecDepth 100000 in
theorem EX4_against_45 {p : Program} {l : Launch} {e : Env} {s : State} {m : MethodId} {args : Array Value} {below : List Frame} {meth : Method} {c : Code} {D : va_G} {cI cJ cZ cS : ClassId} {tb : Nat} {A : Nat → Prop} {a_t a_party a_party_kinds a_party_costs a_party_terms a_party_known a_kept a_tape a_telephone a_sheets a_findings : Nat} {v_isKept : Int32} {v_party_size : Int32} {v_party_list : Int32} {v_party_told : Int32} {v_party_kinds : Nat → Int32} {v_party_terms : Nat → Int64} {rr : Int32} {kk' : (Nat → Int32) × (Nat → Int32)} (fx : q_Fx p s m args meth c cX4_against 9 RX4 (some .int) D cI cJ cZ cS tb A) : ∀ (n : Nat), ∀ {v_party_known : Nat → Int32} {v_findings : Nat → Int32} {y1 : Int32} {y2 : Int32} {y3 : Int32} {y4 : Int32} {y5 : Int32} {y6 : Int32} {H : Heap} {locs : List Loc} {ls : Array Slot}, q_H D A s (wX4_against cI cJ cZ cS a_t a_party a_party_kinds a_party_costs a_party_terms a_party_known a_kept a_tape a_telephone a_sheets a_findings v_isKept v_party_size v_party_list v_party_told v_party_kinds v_party_terms v_party_known v_findings) H locs → lv_has ls 9 [(0, .ref a_t), (1, .int y1), (2, .int y2), (3, .int y3), (4, .int y4), (5, .int y5), (6, .int y6)] → ll8 (fX4_against_45 v_party_size v_party_kinds v_party_terms) n v_party_known v_findings y1 y2 y3 y4 y5 y6 = some (rr, kk') → W p l e rX4_against s m args below meth c H locs 0 0 (MQ below (q_Ri D rr A ((fun k : (Nat → Int32) × (Nat → Int32) => (wX4_against cI cJ cZ cS a_t a_party a_party_kinds a_party_costs a_party_terms a_party_known a_kept a_tape a_telephone a_sheets a_findings v_isKept v_party_size v_party_list v_party_told v_party_kinds v_party_terms k.1 k.2)) kk')) args s 0 0 A) (F0 m 45 ls []) := by
  intro n
  induction n with
  | zero => intro v_party_known v_findings y1 y2 y3 y4 y5 y6 H locs ls h hl hf; exact (ll8_z hf).elim
  | succ n ih => intro v_party_known v_findings y1 y2 y3 y4 y5 y6 H locs ls h hl hf; exact LX4_against_45 fx ih h hl (ll8_s hf)
def fX4_against_27 (v_party_size : Int32) (v_party_kinds : Nat → Int32) (v_party_terms : Nat → Int64) (v_party_known : Nat → Int32) (v_findings : Nat → Int32) : Option (Int32 × (Nat → Int32) × (Nat → Int32)) :=
  bR (fX4_found v_findings (-1000000001)) (fun r17 k17 =>
  some (r17, (v_party_known, k17)))
set_option maxRecDepth 100000 in
set_option maxHeartbeats 4000000 in
theorem LX4_against_27 {p : Program} {l : Launch} {e : Env} {s : State} {m : MethodId} {args : Array Value} {below : List Frame} {meth : Method} {c : Code} {D : va_G} {cI cJ cZ cS : ClassId} {tb : Nat} {A : Nat → Prop} {a_t a_party a_party_kinds a_party_costs a_party_terms a_party_known a_kept a_tape a_telephone a_sheets a_findings : Nat} {v_isKept : Int32} {v_party_size : Int32} {v_party_list : Int32} {v_party_told : Int32} {v_party_kinds : Nat → Int32} {v_party_terms : Nat → Int64} {rr : Int32} {kk' : (Nat → Int32) × (Nat → Int32)} (fx : q_Fx p s m args meth c cX4_against 9 RX4 (some .int) D cI cJ cZ cS tb A) : ∀ {v_party_known : Nat → Int32} {v_findings : Nat → Int32} {H : Heap} {locs : List Loc} {ls : Array Slot}, q_H D A s (wX4_against cI cJ cZ cS a_t a_party a_party_kinds a_party_costs a_party_terms a_party_known a_kept a_tape a_telephone a_sheets a_findings v_isKept v_party_size v_party_list v_party_told v_party_kinds v_party_terms v_party_known v_findings) H locs → lv_has ls 9 [(0, .ref a_t)] → fX4_against_27 v_party_size v_party_kinds v_party_terms v_party_known v_findings = some (rr, kk') → W p l e rX4_against s m args below meth c H locs 0 0 (MQ below (q_Ri D rr A ((fun k : (Nat → Int32) × (Nat → Int32) => (wX4_against cI cJ cZ cS a_t a_party a_party_kinds a_party_costs a_party_terms a_party_known a_kept a_tape a_telephone a_sheets a_findings v_isKept v_party_size v_party_list v_party_told v_party_kinds v_party_terms k.1 k.2)) kk')) args s 0 0 A) (F0 m 27 ls []) := by
  intro v_party_known v_findings H locs ls h hl hf
  have hx := fx.1
  have hb := fx.2.1
  unfold fX4_against_27 at hf
  refine lv_aload_n hx hb dX4_against_27 rfl (lv_at hl 0 rfl) ?_
  refine q_ldc fx k_206 dX4_against_28 ?_
  obtain ⟨r17, k17, hg, hf⟩ := bR_inv hf
  refine q_ci (rest := []) (ws' := (wX4_against cI cJ cZ cS a_t a_party a_party_kinds a_party_costs a_party_terms a_party_known a_kept a_tape a_telephone a_sheets a_findings v_isKept v_party_size v_party_list v_party_told v_party_kinds v_party_terms v_party_known k17)) (w1 := (wX4_found cI cJ cZ cS a_t a_party a_kept a_tape a_telephone a_sheets a_findings v_isKept k17)) fx h [0, 5] rfl rfl rfl rfl (q_runV fx h hl.1 [0, 5] rfl rfl (tX4_found l D cI cJ cZ cS tb a_t a_party a_kept a_tape a_telephone a_sheets a_findings H.size v_isKept v_findings (-1000000001) r17 k17 hg) mvX4_found k_207 ⟨rfl, rfl⟩ ⟨Nat.le_of_ble_eq_true rfl, Nat.le_of_ble_eq_true rfl⟩ rfl rfl rfl rfl (Nat.le_of_ble_eq_true rfl) dX4_against_30 ⟨Nat.le_of_ble_eq_true rfl, Nat.le_of_ble_eq_true rfl⟩) (fun H locs h => ?_)
  exact q_reti (fun k : (Nat → Int32) × (Nat → Int32) => (wX4_against cI cJ cZ cS a_t a_party a_party_kinds a_party_costs a_party_terms a_party_known a_kept a_tape a_telephone a_sheets a_findings v_isKept v_party_size v_party_list v_party_told v_party_kinds v_party_terms k.1 k.2)) fx hf h dX4_against_33
def fX4_against (v_party_size : Int32) (v_party_kinds : Nat → Int32) (v_party_terms : Nat → Int64) (v_party_known : Nat → Int32) (v_findings : Nat → Int32) (x1 : Int32) (x2 : Int32) : Option (Int32 × (Nat → Int32) × (Nat → Int32)) :=
  bR (fX0_has v_party_size x1) (fun r18 k18 =>
  (if r18 = 0 then (
  fX4_against_27 v_party_size v_party_kinds v_party_terms v_party_known v_findings)
  else (
  bR (fX0_has v_party_size x2) (fun r20 k20 =>
  (if r20 = 0 then (
  fX4_against_27 v_party_size v_party_kinds v_party_terms v_party_known v_findings)
  else (
  (if x1 = x2 then (
  fX4_against_27 v_party_size v_party_kinds v_party_terms v_party_known v_findings)
  else (
  ll8 (fX4_against_45 v_party_size v_party_kinds v_party_terms) qF v_party_known v_findings x1 x2 0 0 0 0))))))))
set_option maxRecDepth 100000 in
set_option maxHeartbeats 4000000 in
theorem tX4_against (l : Launch) (D : va_G) (cI cJ cZ cS : ClassId) (tb : Nat) (a_t a_party a_party_kinds a_party_costs a_party_terms a_party_known a_kept a_tape a_telephone a_sheets a_findings : Nat) (sz : Nat) (v_isKept : Int32) (v_party_size : Int32) (v_party_list : Int32) (v_party_told : Int32) (v_party_kinds : Nat → Int32) (v_party_terms : Nat → Int64) (v_party_known : Nat → Int32) (v_findings : Nat → Int32) (x1 : Int32) (x2 : Int32) (rr : Int32) (kk' : (Nat → Int32) × (Nat → Int32)) (hf : fX4_against v_party_size v_party_kinds v_party_terms v_party_known v_findings x1 x2 = some (rr, kk')) : Met l yX4_against (Cond.code yX4_against cX4_against 9 (some .int) :: wA) rX4_against (q_Pre D cI cJ cZ cS tb [.ref a_t, .int x1, .int x2] sz (wX4_against cI cJ cZ cS a_t a_party a_party_kinds a_party_costs a_party_terms a_party_known a_kept a_tape a_telephone a_sheets a_findings v_isKept v_party_size v_party_list v_party_told v_party_kinds v_party_terms v_party_known v_findings)) (q_Ri D rr (va_A (wX4_against cI cJ cZ cS a_t a_party a_party_kinds a_party_costs a_party_terms a_party_known a_kept a_tape a_telephone a_sheets a_findings v_isKept v_party_size v_party_list v_party_told v_party_kinds v_party_terms v_party_known v_findings) sz) ((fun k : (Nat → Int32) × (Nat → Int32) => (wX4_against cI cJ cZ cS a_t a_party a_party_kinds a_party_costs a_party_terms a_party_known a_kept a_tape a_telephone a_sheets a_findings v_isKept v_party_size v_party_list v_party_told v_party_kinds v_party_terms k.1 k.2)) kk')) 0 0 (va_A (wX4_against cI cJ cZ cS a_t a_party a_party_kinds a_party_costs a_party_terms a_party_known a_kept a_tape a_telephone a_sheets a_findings v_isKept v_party_size v_party_list v_party_told v_party_kinds v_party_terms v_party_known v_findings) sz) := by
  refine q_enter (Qf := fun A => (q_Ri D rr A ((fun k : (Nat → Int32) × (Nat → Int32) => (wX4_against cI cJ cZ cS a_t a_party a_party_kinds a_party_costs a_party_terms a_party_known a_kept a_tape a_telephone a_sheets a_findings v_isKept v_party_size v_party_list v_party_told v_party_kinds v_party_terms k.1 k.2)) kk'))) (by decide) rfl (Nat.le_of_ble_eq_true rfl) ?_
  intro p e s m below meth c A ls fx hname h hl
  have hx := fx.1
  have hb := fx.2.1
  have hl : lv_has ls 9 [(0, .ref a_t), (1, .int x1), (2, .int x2)] := hl
  generalize h9 : s.heap = H at h ⊢
  clear h9
  generalize h9 : ([] : List Loc) = locs at h ⊢
  clear h9
  unfold fX4_against at hf
  refine lv_aload_n hx hb dX4_against_0 rfl (lv_at hl 0 rfl) ?_
  refine q_get (v := .ref a_party) fx inX4 h 0 rfl rfl 0 (by decide) k_174 rfl dX4_against_1 ?_
  refine lv_iload_n hx hb dX4_against_4 rfl (lv_at hl 1 rfl) ?_
  obtain ⟨r18, k18, hg, hf⟩ := bR_inv hf
  refine q_ci (rest := []) (ws' := (wX4_against cI cJ cZ cS a_t a_party a_party_kinds a_party_costs a_party_terms a_party_known a_kept a_tape a_telephone a_sheets a_findings v_isKept v_party_size v_party_list v_party_told v_party_kinds v_party_terms v_party_known v_findings)) (w1 := (wX0_has cI cJ cZ cS a_party a_party_kinds a_party_costs a_party_terms a_party_known v_party_size v_party_list v_party_told)) fx h [1] rfl rfl rfl rfl (q_runV fx h hl.1 [1] rfl rfl (tX0_has l D cI cJ cZ cS tb a_party a_party_kinds a_party_costs a_party_terms a_party_known H.size v_party_size v_party_list v_party_told x1 r18 k18 hg) mvX0_has k_220 ⟨rfl, rfl⟩ ⟨Nat.le_of_ble_eq_true rfl, Nat.le_of_ble_eq_true rfl⟩ rfl rfl rfl rfl (Nat.le_of_ble_eq_true rfl) dX4_against_5 ⟨Nat.le_of_ble_eq_true rfl, Nat.le_of_ble_eq_true rfl⟩) (fun H locs h => ?_)
  refine lv_if_eq (tgt := 27) hx hb dX4_against_8 (by decide) (fun c19 => ?_) (fun c19 => ?_)
  · have hf := it_t c19 hf
    exact LX4_against_27 fx h (lv_sub hl [0] rfl) hf
  have hf := it_f c19 hf
  refine lv_aload_n hx hb dX4_against_11 rfl (lv_at hl 0 rfl) ?_
  refine q_get (v := .ref a_party) fx inX4 h 0 rfl rfl 0 (by decide) k_174 rfl dX4_against_12 ?_
  refine lv_iload_n hx hb dX4_against_15 rfl (lv_at hl 2 rfl) ?_
  obtain ⟨r20, k20, hg, hf⟩ := bR_inv hf
  refine q_ci (rest := []) (ws' := (wX4_against cI cJ cZ cS a_t a_party a_party_kinds a_party_costs a_party_terms a_party_known a_kept a_tape a_telephone a_sheets a_findings v_isKept v_party_size v_party_list v_party_told v_party_kinds v_party_terms v_party_known v_findings)) (w1 := (wX0_has cI cJ cZ cS a_party a_party_kinds a_party_costs a_party_terms a_party_known v_party_size v_party_list v_party_told)) fx h [1] rfl rfl rfl rfl (q_runV fx h hl.1 [1] rfl rfl (tX0_has l D cI cJ cZ cS tb a_party a_party_kinds a_party_costs a_party_terms a_party_known H.size v_party_size v_party_list v_party_told x2 r20 k20 hg) mvX0_has k_220 ⟨rfl, rfl⟩ ⟨Nat.le_of_ble_eq_true rfl, Nat.le_of_ble_eq_true rfl⟩ rfl rfl rfl rfl (Nat.le_of_ble_eq_true rfl) dX4_against_16 ⟨Nat.le_of_ble_eq_true rfl, Nat.le_of_ble_eq_true rfl⟩) (fun H locs h => ?_)
  refine lv_if_eq (tgt := 27) hx hb dX4_against_19 (by decide) (fun c21 => ?_) (fun c21 => ?_)
  · have hf := it_t c21 hf
    exact LX4_against_27 fx h (lv_sub hl [0] rfl) hf
  have hf := it_f c21 hf
  refine lv_iload_n hx hb dX4_against_22 rfl (lv_at hl 1 rfl) ?_
  refine lv_iload_n hx hb dX4_against_23 rfl (lv_at hl 2 rfl) ?_
  refine lv_icmp_ne (tgt := 34) hx hb dX4_against_24 (by decide) (fun c22 => ?_) (fun c22 => ?_)
  · have hf := it_f c22 hf
    refine lv_iconst (v := 0) hx hb dX4_against_34 (by decide) ?_
    refine lv_istore_n (lv' := [(3, .int 0), (0, .ref a_t), (1, .int x1), (2, .int x2)]) hx hb dX4_against_35 rfl hl (by decide) rfl (fun ls hl => ?_)
    refine lv_iconst (v := 0) hx hb dX4_against_36 (by decide) ?_
    refine lv_istore (lv' := [(4, .int 0), (3, .int 0), (0, .ref a_t), (1, .int x1), (2, .int x2)]) hx hb dX4_against_37 hl (by decide) rfl (fun ls hl => ?_)
    refine lv_iconst (v := 0) hx hb dX4_against_39 (by decide) ?_
    refine lv_istore (lv' := [(5, .int 0), (4, .int 0), (3, .int 0), (0, .ref a_t), (1, .int x1), (2, .int x2)]) hx hb dX4_against_40 hl (by decide) rfl (fun ls hl => ?_)
    refine lv_iconst (v := 0) hx hb dX4_against_42 (by decide) ?_
    refine lv_istore (lv' := [(6, .int 0), (5, .int 0), (4, .int 0), (3, .int 0), (0, .ref a_t), (1, .int x1), (2, .int x2)]) hx hb dX4_against_43 hl (by decide) rfl (fun ls hl => ?_)
    exact EX4_against_45 fx qF h (lv_sub hl [4, 5, 6, 3, 2, 1, 0] rfl) hf
  have hf := it_t c22 hf
  exact LX4_against_27 fx h (lv_sub hl [0] rfl) hf
/-! X4_minds -/
abbrev wX4_minds (cI cJ cZ cS : ClassId) (a_t a_party a_party_kinds a_party_costs a_party_terms a_party_known a_kept a_tape a_telephone a_sheets a_findings : Nat) (v_isKept : Int32) (v_party_size : Int32) (v_party_list : Int32) (v_party_told : Int32) (v_party_kinds : Nat → Int32) (v_party_terms : Nat → Int64) (v_party_known : Nat → Int32) (v_findings : Nat → Int32) : va_W := [(a_t, .inr (4, [.ref a_party, .ref a_kept, .int v_isKept, .ref a_tape, .ref a_telephone, .ref a_sheets, .ref a_findings])), (a_party, .inr (0, [.int v_party_size, .int v_party_list, .int v_party_told, .ref a_party_kinds, .ref a_party_costs, .ref a_party_terms, .ref a_party_known])), (a_party_kinds, .inl (cI, 8, .inl v_party_kinds)), (a_party_terms, .inl (cJ, 32, .inr (.inl v_party_terms))), (a_party_known, .inl (cI, 256, .inl v_party_known)), (a_findings, .inl (cI, 7, .inl v_findings))]
abbrev rX4_minds : Room := { frames := 4, cells := 0, slots := 0, locals := 90 }
def fX4_minds_27 (v_party_size : Int32) (v_party_kinds : Nat → Int32) (v_party_terms : Nat → Int64) (ag27 : (Nat → Int32) → (Nat → Int32) → Int32 → Int32 → Int32 → Option (Int32 × (Nat → Int32) × (Nat → Int32))) (v_party_known : Nat → Int32) (v_findings : Nat → Int32) (y2 : Int32) (y3 : Int32) (y4 : Int32) : Option (Int32 × (Nat → Int32) × (Nat → Int32)) :=
  bR (fX0_lists v_party_size) (fun r1 k1 =>
  (if r1 ≤ y4 then (
  some (y3 &&& (y2 ^^^ (-1)), (v_party_known, v_findings)))
  else (
  bR (fX0_comers v_party_size v_party_kinds v_party_terms v_party_known (y4 ||| y2)) (fun r3 k3 =>
  bR (fX0_comers v_party_size v_party_kinds v_party_terms k3 (y4 &&& (y2 ^^^ (-1)))) (fun r4 k4 =>
  nm (y3 ||| (r3 ^^^ r4)) (fun u5 =>
  nm (y4 + 1) (fun u6 =>
  ag27 k4 v_findings y2 u5 u6)))))))
set_option maxRecDepth 100000 in
set_option maxHeartbeats 4000000 in
theorem LX4_minds_27 {p : Program} {l : Launch} {e : Env} {s : State} {m : MethodId} {args : Array Value} {below : List Frame} {meth : Method} {c : Code} {D : va_G} {cI cJ cZ cS : ClassId} {tb : Nat} {A : Nat → Prop} {a_t a_party a_party_kinds a_party_costs a_party_terms a_party_known a_kept a_tape a_telephone a_sheets a_findings : Nat} {v_isKept : Int32} {v_party_size : Int32} {v_party_list : Int32} {v_party_told : Int32} {v_party_kinds : Nat → Int32} {v_party_terms : Nat → Int64} {rr : Int32} {kk' : (Nat → Int32) × (Nat → Int32)} (fx : q_Fx p s m args meth c cX4_minds 5 RX4 (some .int) D cI cJ cZ cS tb A) {ag27 : (Nat → Int32) → (Nat → Int32) → Int32 → Int32 → Int32 → Option (Int32 × (Nat → Int32) × (Nat → Int32))} (hag27 : ∀ {v_party_known : Nat → Int32} {v_findings : Nat → Int32} {y2 : Int32} {y3 : Int32} {y4 : Int32} {H : Heap} {locs : List Loc} {ls : Array Slot}, q_H D A s (wX4_minds cI cJ cZ cS a_t a_party a_party_kinds a_party_costs a_party_terms a_party_known a_kept a_tape a_telephone a_sheets a_findings v_isKept v_party_size v_party_list v_party_told v_party_kinds v_party_terms v_party_known v_findings) H locs → lv_has ls 5 [(0, .ref a_t), (2, .int y2), (3, .int y3), (4, .int y4)] → ag27 v_party_known v_findings y2 y3 y4 = some (rr, kk') → W p l e rX4_minds s m args below meth c H locs 0 0 (MQ below (q_Ri D rr A ((fun k : (Nat → Int32) × (Nat → Int32) => (wX4_minds cI cJ cZ cS a_t a_party a_party_kinds a_party_costs a_party_terms a_party_known a_kept a_tape a_telephone a_sheets a_findings v_isKept v_party_size v_party_list v_party_told v_party_kinds v_party_terms k.1 k.2)) kk')) args s 0 0 A) (F0 m 27 ls [])) : ∀ {v_party_known : Nat → Int32} {v_findings : Nat → Int32} {y2 : Int32} {y3 : Int32} {y4 : Int32} {H : Heap} {locs : List Loc} {ls : Array Slot}, q_H D A s (wX4_minds cI cJ cZ cS a_t a_party a_party_kinds a_party_costs a_party_terms a_party_known a_kept a_tape a_telephone a_sheets a_findings v_isKept v_party_size v_party_list v_party_told v_party_kinds v_party_terms v_party_known v_findings) H locs → lv_has ls 5 [(0, .ref a_t), (2, .int y2), (3, .int y3), (4, .int y4)] → fX4_minds_27 v_party_size v_party_kinds v_party_terms ag27 v_party_known v_findings y2 y3 y4 = some (rr, kk') → W p l e rX4_minds s m args below meth c H locs 0 0 (MQ below (q_Ri D rr A ((fun k : (Nat → Int32) × (Nat → Int32) => (wX4_minds cI cJ cZ cS a_t a_party a_party_kinds a_party_costs a_party_terms a_party_known a_kept a_tape a_telephone a_sheets a_findings v_isKept v_party_size v_party_list v_party_told v_party_kinds v_party_terms k.1 k.2)) kk')) args s 0 0 A) (F0 m 27 ls []) := by
  intro v_party_known v_findings y2 y3 y4 H locs ls h hl hf
  have hx := fx.1
  have hb := fx.2.1
  unfold fX4_minds_27 at hf
  refine lv_iload hx hb dX4_minds_27 (lv_at hl 3 rfl) ?_
  refine lv_aload_n hx hb dX4_minds_29 rfl (lv_at hl 0 rfl) ?_
  refine q_get (v := .ref a_party) fx inX4 h 0 rfl rfl 0 (by decide) k_174 rfl dX4_minds_30 ?_
  obtain ⟨r1, k1, hg, hf⟩ := bR_inv hf
  refine q_ci (rest := [.int y4]) (ws' := (wX4_minds cI cJ cZ cS a_t a_party a_party_kinds a_party_costs a_party_terms a_party_known a_kept a_tape a_telephone a_sheets a_findings v_isKept v_party_size v_party_list v_party_told v_party_kinds v_party_terms v_party_known v_findings)) (w1 := (wX0_lists cI cJ cZ cS a_party a_party_kinds a_party_costs a_party_terms a_party_known v_party_size v_party_list v_party_told)) fx h [1] rfl rfl rfl rfl (q_runV fx h hl.1 [1] rfl rfl (tX0_lists l D cI cJ cZ cS tb a_party a_party_kinds a_party_costs a_party_terms a_party_known H.size v_party_size v_party_list v_party_told r1 k1 hg) mvX0_lists k_447 ⟨rfl, rfl⟩ ⟨Nat.le_of_ble_eq_true rfl, Nat.le_of_ble_eq_true rfl⟩ rfl rfl rfl rfl (Nat.le_of_ble_eq_true rfl) dX4_minds_33 ⟨Nat.le_of_ble_eq_true rfl, Nat.le_of_ble_eq_true rfl⟩) (fun H locs h => ?_)
  refine lv_icmp_ge (tgt := 73) hx hb dX4_minds_36 (by decide) (fun c2 => ?_) (fun c2 => ?_)
  · have hf := it_t c2 hf
    refine lv_iload_n hx hb dX4_minds_73 rfl (lv_at hl 2 rfl) ?_
    refine lv_iload_n hx hb dX4_minds_74 rfl (lv_at hl 1 rfl) ?_
    refine lv_iconst (v := -1) hx hb dX4_minds_75 (by decide) ?_
    refine lv_ixor hx hb dX4_minds_76 ?_
    refine lv_iand hx hb dX4_minds_77 ?_
    exact q_reti (fun k : (Nat → Int32) × (Nat → Int32) => (wX4_minds cI cJ cZ cS a_t a_party a_party_kinds a_party_costs a_party_terms a_party_known a_kept a_tape a_telephone a_sheets a_findings v_isKept v_party_size v_party_list v_party_told v_party_kinds v_party_terms k.1 k.2)) fx hf h dX4_minds_78
  have hf := it_f c2 hf
  refine lv_iload_n hx hb dX4_minds_39 rfl (lv_at hl 2 rfl) ?_
  refine lv_aload_n hx hb dX4_minds_40 rfl (lv_at hl 0 rfl) ?_
  refine q_get (v := .ref a_party) fx inX4 h 0 rfl rfl 0 (by decide) k_174 rfl dX4_minds_41 ?_
  refine lv_iload hx hb dX4_minds_44 (lv_at hl 3 rfl) ?_
  refine lv_iload_n hx hb dX4_minds_46 rfl (lv_at hl 1 rfl) ?_
  refine lv_ior hx hb dX4_minds_47 ?_
  obtain ⟨r3, k3, hg, hf⟩ := bR_inv hf
  refine q_ci (rest := [.int y3]) (ws' := (wX4_minds cI cJ cZ cS a_t a_party a_party_kinds a_party_costs a_party_terms a_party_known a_kept a_tape a_telephone a_sheets a_findings v_isKept v_party_size v_party_list v_party_told v_party_kinds v_party_terms k3 v_findings)) (w1 := (wX0_comers cI cJ cZ cS a_party a_party_kinds a_party_costs a_party_terms a_party_known v_party_size v_party_list v_party_told v_party_kinds v_party_terms k3)) fx h [1, 2, 3, 4] rfl rfl rfl rfl (q_runV fx h hl.1 [1, 2, 3, 4] rfl rfl (tX0_comers l D cI cJ cZ cS tb a_party a_party_kinds a_party_costs a_party_terms a_party_known H.size v_party_size v_party_list v_party_told v_party_kinds v_party_terms v_party_known (y4 ||| y2) r3 k3 hg) mvX0_comers k_224 ⟨rfl, rfl⟩ ⟨Nat.le_of_ble_eq_true rfl, Nat.le_of_ble_eq_true rfl⟩ rfl rfl rfl rfl (Nat.le_of_ble_eq_true rfl) dX4_minds_48 ⟨Nat.le_of_ble_eq_true rfl, Nat.le_of_ble_eq_true rfl⟩) (fun H locs h => ?_)
  refine lv_aload_n hx hb dX4_minds_51 rfl (lv_at hl 0 rfl) ?_
  refine q_get (v := .ref a_party) fx inX4 h 0 rfl rfl 0 (by decide) k_174 rfl dX4_minds_52 ?_
  refine lv_iload hx hb dX4_minds_55 (lv_at hl 3 rfl) ?_
  refine lv_iload_n hx hb dX4_minds_57 rfl (lv_at hl 1 rfl) ?_
  refine lv_iconst (v := -1) hx hb dX4_minds_58 (by decide) ?_
  refine lv_ixor hx hb dX4_minds_59 ?_
  refine lv_iand hx hb dX4_minds_60 ?_
  obtain ⟨r4, k4, hg, hf⟩ := bR_inv hf
  refine q_ci (rest := [.int r3, .int y3]) (ws' := (wX4_minds cI cJ cZ cS a_t a_party a_party_kinds a_party_costs a_party_terms a_party_known a_kept a_tape a_telephone a_sheets a_findings v_isKept v_party_size v_party_list v_party_told v_party_kinds v_party_terms k4 v_findings)) (w1 := (wX0_comers cI cJ cZ cS a_party a_party_kinds a_party_costs a_party_terms a_party_known v_party_size v_party_list v_party_told v_party_kinds v_party_terms k4)) fx h [1, 2, 3, 4] rfl rfl rfl rfl (q_runV fx h hl.1 [1, 2, 3, 4] rfl rfl (tX0_comers l D cI cJ cZ cS tb a_party a_party_kinds a_party_costs a_party_terms a_party_known H.size v_party_size v_party_list v_party_told v_party_kinds v_party_terms k3 (y4 &&& (y2 ^^^ (-1))) r4 k4 hg) mvX0_comers k_224 ⟨rfl, rfl⟩ ⟨Nat.le_of_ble_eq_true rfl, Nat.le_of_ble_eq_true rfl⟩ rfl rfl rfl rfl (Nat.le_of_ble_eq_true rfl) dX4_minds_61 ⟨Nat.le_of_ble_eq_true rfl, Nat.le_of_ble_eq_true rfl⟩) (fun H locs h => ?_)
  refine lv_ixor hx hb dX4_minds_64 ?_
  refine lv_ior hx hb dX4_minds_65 ?_
  obtain ⟨u5, eu5, hf⟩ := nm_inv hf
  refine lv_eqi eu5 ?_
  refine lv_istore_n (lv' := [(3, .int u5), (0, .ref a_t), (2, .int y2), (4, .int y4)]) hx hb dX4_minds_66 rfl hl (by decide) rfl (fun ls hl => ?_)
  obtain ⟨u6, eu6, hf⟩ := nm_inv hf
  refine lv_iinc (v := u6) (lv' := [(4, .int u6), (3, .int u5), (0, .ref a_t), (2, .int y2)]) hx hb dX4_minds_67 hl (k := 3) rfl (by rw [eu6]; rfl) (by decide) rfl (fun ls hl => ?_)
  refine lv_goto (tgt := 27) hx hb dX4_minds_70 (by decide) ?_
  exact hag27 h (lv_sub hl [2, 3, 1, 0] rfl) hf
set_option maxRecDepth 100000 in
theorem EX4_minds_27 {p : Program} {l : Launch} {e : Env} {s : State} {m : MethodId} {args : Array Value} {below : List Frame} {meth : Method} {c : Code} {D : va_G} {cI cJ cZ cS : ClassId} {tb : Nat} {A : Nat → Prop} {a_t a_party a_party_kinds a_party_costs a_party_terms a_party_known a_kept a_tape a_telephone a_sheets a_findings : Nat} {v_isKept : Int32} {v_party_size : Int32} {v_party_list : Int32} {v_party_told : Int32} {v_party_kinds : Nat → Int32} {v_party_terms : Nat → Int64} {rr : Int32} {kk' : (Nat → Int32) × (Nat → Int32)} (fx : q_Fx p s m args meth c cX4_minds 5 RX4 (some .int) D cI cJ cZ cS tb A) : ∀ (n : Nat), ∀ {v_party_known : Nat → Int32} {v_findings : Nat → Int32} {y2 : Int32} {y3 : Int32} {y4 : Int32} {H : Heap} {locs : List Loc} {ls : Array Slot}, q_H D A s (wX4_minds cI cJ cZ cS a_t a_party a_party_kinds a_party_costs a_party_terms a_party_known a_kept a_tape a_telephone a_sheets a_findings v_isKept v_party_size v_party_list v_party_told v_party_kinds v_party_terms v_party_known v_findings) H locs → lv_has ls 5 [(0, .ref a_t), (2, .int y2), (3, .int y3), (4, .int y4)] → ll5 (fX4_minds_27 v_party_size v_party_kinds v_party_terms) n v_party_known v_findings y2 y3 y4 = some (rr, kk') → W p l e rX4_minds s m args below meth c H locs 0 0 (MQ below (q_Ri D rr A ((fun k : (Nat → Int32) × (Nat → Int32) => (wX4_minds cI cJ cZ cS a_t a_party a_party_kinds a_party_costs a_party_terms a_party_known a_kept a_tape a_telephone a_sheets a_findings v_isKept v_party_size v_party_list v_party_told v_party_kinds v_party_terms k.1 k.2)) kk')) args s 0 0 A) (F0 m 27 ls []) := by
  intro n
  induction n with
  | zero => intro v_party_known v_findings y2 y3 y4 H locs ls h hl hf; exact (ll5_z hf).elim
  | succ n ih => intro v_party_known v_findings y2 y3 y4 H locs ls h hl hf; exact LX4_minds_27 fx ih h hl (ll5_s hf)
def fX4_minds (v_party_size : Int32) (v_party_kinds : Nat → Int32) (v_party_terms : Nat → Int64) (v_party_known : Nat → Int32) (v_findings : Nat → Int32) (x1 : Int32) : Option (Int32 × (Nat → Int32) × (Nat → Int32)) :=
  bR (fX0_has v_party_size x1) (fun r7 k7 =>
  (if r7 = 0 then (
  bR (fX4_found v_findings (-1000000001)) (fun r10 k10 =>
  some (r10, (v_party_known, k10))))
  else (
  nm (jshl 1 x1) (fun u9 =>
  ll5 (fX4_minds_27 v_party_size v_party_kinds v_party_terms) qF v_party_known v_findings u9 0 0))))
set_option maxRecDepth 100000 in
set_option maxHeartbeats 4000000 in
theorem tX4_minds (l : Launch) (D : va_G) (cI cJ cZ cS : ClassId) (tb : Nat) (a_t a_party a_party_kinds a_party_costs a_party_terms a_party_known a_kept a_tape a_telephone a_sheets a_findings : Nat) (sz : Nat) (v_isKept : Int32) (v_party_size : Int32) (v_party_list : Int32) (v_party_told : Int32) (v_party_kinds : Nat → Int32) (v_party_terms : Nat → Int64) (v_party_known : Nat → Int32) (v_findings : Nat → Int32) (x1 : Int32) (rr : Int32) (kk' : (Nat → Int32) × (Nat → Int32)) (hf : fX4_minds v_party_size v_party_kinds v_party_terms v_party_known v_findings x1 = some (rr, kk')) : Met l yX4_minds (Cond.code yX4_minds cX4_minds 5 (some .int) :: wA) rX4_minds (q_Pre D cI cJ cZ cS tb [.ref a_t, .int x1] sz (wX4_minds cI cJ cZ cS a_t a_party a_party_kinds a_party_costs a_party_terms a_party_known a_kept a_tape a_telephone a_sheets a_findings v_isKept v_party_size v_party_list v_party_told v_party_kinds v_party_terms v_party_known v_findings)) (q_Ri D rr (va_A (wX4_minds cI cJ cZ cS a_t a_party a_party_kinds a_party_costs a_party_terms a_party_known a_kept a_tape a_telephone a_sheets a_findings v_isKept v_party_size v_party_list v_party_told v_party_kinds v_party_terms v_party_known v_findings) sz) ((fun k : (Nat → Int32) × (Nat → Int32) => (wX4_minds cI cJ cZ cS a_t a_party a_party_kinds a_party_costs a_party_terms a_party_known a_kept a_tape a_telephone a_sheets a_findings v_isKept v_party_size v_party_list v_party_told v_party_kinds v_party_terms k.1 k.2)) kk')) 0 0 (va_A (wX4_minds cI cJ cZ cS a_t a_party a_party_kinds a_party_costs a_party_terms a_party_known a_kept a_tape a_telephone a_sheets a_findings v_isKept v_party_size v_party_list v_party_told v_party_kinds v_party_terms v_party_known v_findings) sz) := by
  refine q_enter (Qf := fun A => (q_Ri D rr A ((fun k : (Nat → Int32) × (Nat → Int32) => (wX4_minds cI cJ cZ cS a_t a_party a_party_kinds a_party_costs a_party_terms a_party_known a_kept a_tape a_telephone a_sheets a_findings v_isKept v_party_size v_party_list v_party_told v_party_kinds v_party_terms k.1 k.2)) kk'))) (by decide) rfl (Nat.le_of_ble_eq_true rfl) ?_
  intro p e s m below meth c A ls fx hname h hl
  have hx := fx.1
  have hb := fx.2.1
  have hl : lv_has ls 5 [(0, .ref a_t), (1, .int x1)] := hl
  generalize h9 : s.heap = H at h ⊢
  clear h9
  generalize h9 : ([] : List Loc) = locs at h ⊢
  clear h9
  unfold fX4_minds at hf
  refine lv_aload_n hx hb dX4_minds_0 rfl (lv_at hl 0 rfl) ?_
  refine q_get (v := .ref a_party) fx inX4 h 0 rfl rfl 0 (by decide) k_174 rfl dX4_minds_1 ?_
  refine lv_iload_n hx hb dX4_minds_4 rfl (lv_at hl 1 rfl) ?_
  obtain ⟨r7, k7, hg, hf⟩ := bR_inv hf
  refine q_ci (rest := []) (ws' := (wX4_minds cI cJ cZ cS a_t a_party a_party_kinds a_party_costs a_party_terms a_party_known a_kept a_tape a_telephone a_sheets a_findings v_isKept v_party_size v_party_list v_party_told v_party_kinds v_party_terms v_party_known v_findings)) (w1 := (wX0_has cI cJ cZ cS a_party a_party_kinds a_party_costs a_party_terms a_party_known v_party_size v_party_list v_party_told)) fx h [1] rfl rfl rfl rfl (q_runV fx h hl.1 [1] rfl rfl (tX0_has l D cI cJ cZ cS tb a_party a_party_kinds a_party_costs a_party_terms a_party_known H.size v_party_size v_party_list v_party_told x1 r7 k7 hg) mvX0_has k_220 ⟨rfl, rfl⟩ ⟨Nat.le_of_ble_eq_true rfl, Nat.le_of_ble_eq_true rfl⟩ rfl rfl rfl rfl (Nat.le_of_ble_eq_true rfl) dX4_minds_5 ⟨Nat.le_of_ble_eq_true rfl, Nat.le_of_ble_eq_true rfl⟩) (fun H locs h => ?_)
  refine lv_if_ne (tgt := 18) hx hb dX4_minds_8 (by decide) (fun c8 => ?_) (fun c8 => ?_)
  · have hf := it_f c8 hf
    refine lv_iconst (v := 1) hx hb dX4_minds_18 (by decide) ?_
    refine lv_iload_n hx hb dX4_minds_19 rfl (lv_at hl 1 rfl) ?_
    refine lv_ishl hx hb dX4_minds_20 ?_
    obtain ⟨u9, eu9, hf⟩ := nm_inv hf
    refine lv_eqi eu9 ?_
    refine lv_istore_n (lv' := [(2, .int u9), (0, .ref a_t), (1, .int x1)]) hx hb dX4_minds_21 rfl hl (by decide) rfl (fun ls hl => ?_)
    refine lv_iconst (v := 0) hx hb dX4_minds_22 (by decide) ?_
    refine lv_istore_n (lv' := [(3, .int 0), (2, .int u9), (0, .ref a_t), (1, .int x1)]) hx hb dX4_minds_23 rfl hl (by decide) rfl (fun ls hl => ?_)
    refine lv_iconst (v := 0) hx hb dX4_minds_24 (by decide) ?_
    refine lv_istore (lv' := [(4, .int 0), (3, .int 0), (2, .int u9), (0, .ref a_t), (1, .int x1)]) hx hb dX4_minds_25 hl (by decide) rfl (fun ls hl => ?_)
    exact EX4_minds_27 fx qF h (lv_sub hl [3, 2, 1, 0] rfl) hf
  have hf := it_t c8 hf
  refine lv_aload_n hx hb dX4_minds_11 rfl (lv_at hl 0 rfl) ?_
  refine q_ldc fx k_206 dX4_minds_12 ?_
  obtain ⟨r10, k10, hg, hf⟩ := bR_inv hf
  refine q_ci (rest := []) (ws' := (wX4_minds cI cJ cZ cS a_t a_party a_party_kinds a_party_costs a_party_terms a_party_known a_kept a_tape a_telephone a_sheets a_findings v_isKept v_party_size v_party_list v_party_told v_party_kinds v_party_terms v_party_known k10)) (w1 := (wX4_found cI cJ cZ cS a_t a_party a_kept a_tape a_telephone a_sheets a_findings v_isKept k10)) fx h [0, 5] rfl rfl rfl rfl (q_runV fx h hl.1 [0, 5] rfl rfl (tX4_found l D cI cJ cZ cS tb a_t a_party a_kept a_tape a_telephone a_sheets a_findings H.size v_isKept v_findings (-1000000001) r10 k10 hg) mvX4_found k_207 ⟨rfl, rfl⟩ ⟨Nat.le_of_ble_eq_true rfl, Nat.le_of_ble_eq_true rfl⟩ rfl rfl rfl rfl (Nat.le_of_ble_eq_true rfl) dX4_minds_14 ⟨Nat.le_of_ble_eq_true rfl, Nat.le_of_ble_eq_true rfl⟩) (fun H locs h => ?_)
  exact q_reti (fun k : (Nat → Int32) × (Nat → Int32) => (wX4_minds cI cJ cZ cS a_t a_party a_party_kinds a_party_costs a_party_terms a_party_known a_kept a_tape a_telephone a_sheets a_findings v_isKept v_party_size v_party_list v_party_told v_party_kinds v_party_terms k.1 k.2)) fx hf h dX4_minds_17
/-! X0_comersAs -/
abbrev wX0_comersAs (cI cJ cZ cS : ClassId) (a_t a_kinds a_costs a_terms a_known : Nat) (v_size : Int32) (v_list : Int32) (v_told : Int32) (v_kinds : Nat → Int32) (v_terms : Nat → Int64) (v_known : Nat → Int32) : va_W := [(a_t, .inr (0, [.int v_size, .int v_list, .int v_told, .ref a_kinds, .ref a_costs, .ref a_terms, .ref a_known])), (a_kinds, .inl (cI, 8, .inl v_kinds)), (a_terms, .inl (cJ, 32, .inr (.inl v_terms))), (a_known, .inl (cI, 256, .inl v_known))]
abbrev rX0_comersAs : Room := { frames := 4, cells := 0, slots := 0, locals := 90 }
def fX0_comersAs (v_size : Int32) (v_kinds : Nat → Int32) (v_terms : Nat → Int64) (v_known : Nat → Int32) (x1 : Int32) (x2 : Int32) (x3 : Int32) : Option (Int32 × (Nat → Int32)) :=
  bR (fX0_comers v_size v_kinds v_terms v_known x3) (fun r1 k1 =>
  nm (r1 &&& ((jshl 1 x1) ^^^ (-1))) (fun u2 =>
  bR (fX0_wouldComeAs v_terms x2 x1 x3) (fun r3 k3 =>
  (if r3 = 0 then (
  some (u2, k1))
  else (
  some (u2 ||| (jshl 1 x1), k1))))))
set_option maxRecDepth 100000 in
set_option maxHeartbeats 4000000 in
theorem tX0_comersAs (l : Launch) (D : va_G) (cI cJ cZ cS : ClassId) (tb : Nat) (a_t a_kinds a_costs a_terms a_known : Nat) (sz : Nat) (v_size : Int32) (v_list : Int32) (v_told : Int32) (v_kinds : Nat → Int32) (v_terms : Nat → Int64) (v_known : Nat → Int32) (x1 : Int32) (x2 : Int32) (x3 : Int32) (rr : Int32) (kk' : (Nat → Int32)) (hf : fX0_comersAs v_size v_kinds v_terms v_known x1 x2 x3 = some (rr, kk')) : Met l yX0_comersAs (Cond.code yX0_comersAs cX0_comersAs 5 (some .int) :: wA) rX0_comersAs (q_Pre D cI cJ cZ cS tb [.ref a_t, .int x1, .int x2, .int x3] sz (wX0_comersAs cI cJ cZ cS a_t a_kinds a_costs a_terms a_known v_size v_list v_told v_kinds v_terms v_known)) (q_Ri D rr (va_A (wX0_comersAs cI cJ cZ cS a_t a_kinds a_costs a_terms a_known v_size v_list v_told v_kinds v_terms v_known) sz) ((fun k : (Nat → Int32) => (wX0_comersAs cI cJ cZ cS a_t a_kinds a_costs a_terms a_known v_size v_list v_told v_kinds v_terms k)) kk')) 0 0 (va_A (wX0_comersAs cI cJ cZ cS a_t a_kinds a_costs a_terms a_known v_size v_list v_told v_kinds v_terms v_known) sz) := by
  refine q_enter (Qf := fun A => (q_Ri D rr A ((fun k : (Nat → Int32) => (wX0_comersAs cI cJ cZ cS a_t a_kinds a_costs a_terms a_known v_size v_list v_told v_kinds v_terms k)) kk'))) (by decide) rfl (Nat.le_of_ble_eq_true rfl) ?_
  intro p e s m below meth c A ls fx hname h hl
  have hx := fx.1
  have hb := fx.2.1
  have hl : lv_has ls 5 [(0, .ref a_t), (1, .int x1), (2, .int x2), (3, .int x3)] := hl
  generalize h9 : s.heap = H at h ⊢
  clear h9
  generalize h9 : ([] : List Loc) = locs at h ⊢
  clear h9
  unfold fX0_comersAs at hf
  refine lv_aload_n hx hb dX0_comersAs_0 rfl (lv_at hl 0 rfl) ?_
  refine lv_iload_n hx hb dX0_comersAs_1 rfl (lv_at hl 3 rfl) ?_
  obtain ⟨r1, k1, hg, hf⟩ := bR_inv hf
  refine q_ci (rest := []) (ws' := (wX0_comersAs cI cJ cZ cS a_t a_kinds a_costs a_terms a_known v_size v_list v_told v_kinds v_terms k1)) (w1 := (wX0_comers cI cJ cZ cS a_t a_kinds a_costs a_terms a_known v_size v_list v_told v_kinds v_terms k1)) fx h [0, 1, 2, 3] rfl rfl rfl rfl (q_runV fx h hl.1 [0, 1, 2, 3] rfl rfl (tX0_comers l D cI cJ cZ cS tb a_t a_kinds a_costs a_terms a_known H.size v_size v_list v_told v_kinds v_terms v_known x3 r1 k1 hg) mvX0_comers k_362 ⟨rfl, rfl⟩ ⟨Nat.le_of_ble_eq_true rfl, Nat.le_of_ble_eq_true rfl⟩ rfl rfl rfl rfl (Nat.le_of_ble_eq_true rfl) dX0_comersAs_2 ⟨Nat.le_of_ble_eq_true rfl, Nat.le_of_ble_eq_true rfl⟩) (fun H locs h => ?_)
  refine lv_iconst (v := 1) hx hb dX0_comersAs_5 (by decide) ?_
  refine lv_iload_n hx hb dX0_comersAs_6 rfl (lv_at hl 1 rfl) ?_
  refine lv_ishl hx hb dX0_comersAs_7 ?_
  refine lv_iconst (v := -1) hx hb dX0_comersAs_8 (by decide) ?_
  refine lv_ixor hx hb dX0_comersAs_9 ?_
  refine lv_iand hx hb dX0_comersAs_10 ?_
  obtain ⟨u2, eu2, hf⟩ := nm_inv hf
  refine lv_eqi eu2 ?_
  refine lv_istore (lv' := [(4, .int u2), (0, .ref a_t), (1, .int x1), (2, .int x2), (3, .int x3)]) hx hb dX0_comersAs_11 hl (by decide) rfl (fun ls hl => ?_)
  refine lv_aload_n hx hb dX0_comersAs_13 rfl (lv_at hl 1 rfl) ?_
  refine lv_iload_n hx hb dX0_comersAs_14 rfl (lv_at hl 3 rfl) ?_
  refine lv_iload_n hx hb dX0_comersAs_15 rfl (lv_at hl 2 rfl) ?_
  refine lv_iload_n hx hb dX0_comersAs_16 rfl (lv_at hl 4 rfl) ?_
  obtain ⟨r3, k3, hg, hf⟩ := bR_inv hf
  refine q_ci (rest := []) (ws' := (wX0_comersAs cI cJ cZ cS a_t a_kinds a_costs a_terms a_known v_size v_list v_told v_kinds v_terms k1)) (w1 := (wX0_wouldComeAs cI cJ cZ cS a_t a_kinds a_costs a_terms a_known v_size v_list v_told v_terms)) fx h [0, 2] rfl rfl rfl rfl (q_runV fx h hl.1 [0, 2] rfl rfl (tX0_wouldComeAs l D cI cJ cZ cS tb a_t a_kinds a_costs a_terms a_known H.size v_size v_list v_told v_terms x2 x1 x3 r3 k3 hg) mvX0_wouldComeAs k_228 ⟨rfl, rfl⟩ ⟨Nat.le_of_ble_eq_true rfl, Nat.le_of_ble_eq_true rfl⟩ rfl rfl rfl rfl (Nat.le_of_ble_eq_true rfl) dX0_comersAs_17 ⟨Nat.le_of_ble_eq_true rfl, Nat.le_of_ble_eq_true rfl⟩) (fun H locs h => ?_)
  refine lv_if_eq (tgt := 32) hx hb dX0_comersAs_20 (by decide) (fun c4 => ?_) (fun c4 => ?_)
  · have hf := it_t c4 hf
    refine lv_iload hx hb dX0_comersAs_32 (lv_at hl 0 rfl) ?_
    exact q_reti (fun k : (Nat → Int32) => (wX0_comersAs cI cJ cZ cS a_t a_kinds a_costs a_terms a_known v_size v_list v_told v_kinds v_terms k)) fx hf h dX0_comersAs_34
  have hf := it_f c4 hf
  refine lv_iload hx hb dX0_comersAs_23 (lv_at hl 0 rfl) ?_
  refine lv_iconst (v := 1) hx hb dX0_comersAs_25 (by decide) ?_
  refine lv_iload_n hx hb dX0_comersAs_26 rfl (lv_at hl 2 rfl) ?_
  refine lv_ishl hx hb dX0_comersAs_27 ?_
  refine lv_ior hx hb dX0_comersAs_28 ?_
  refine lv_goto (tgt := 34) hx hb dX0_comersAs_29 (by decide) ?_
  exact q_reti (fun k : (Nat → Int32) => (wX0_comersAs cI cJ cZ cS a_t a_kinds a_costs a_terms a_known v_size v_list v_told v_kinds v_terms k)) fx hf h dX0_comersAs_34
/-! X0_settledAs -/
abbrev wX0_settledAs (cI cJ cZ cS : ClassId) (a_t a_kinds a_costs a_terms a_known : Nat) (v_size : Int32) (v_list : Int32) (v_told : Int32) (v_kinds : Nat → Int32) (v_terms : Nat → Int64) (v_known : Nat → Int32) : va_W := [(a_t, .inr (0, [.int v_size, .int v_list, .int v_told, .ref a_kinds, .ref a_costs, .ref a_terms, .ref a_known])), (a_kinds, .inl (cI, 8, .inl v_kinds)), (a_terms, .inl (cJ, 32, .inr (.inl v_terms))), (a_known, .inl (cI, 256, .inl v_known))]
abbrev rX0_settledAs : Room := { frames := 5, cells := 0, slots := 0, locals := 114 }
def fX0_settledAs_33 (v_size : Int32) (v_kinds : Nat → Int32) (v_terms : Nat → Int64) (ag5 : (Nat → Int32) → Int32 → Int32 → Int32 → Int32 → Option (Int32 × (Nat → Int32))) (v_known : Nat → Int32) (s0 : Int32) (s1 : Int32) (y1 : Int32) (y2 : Int32) (y4 : Int32) : Option (Int32 × (Nat → Int32)) :=
  bR (fX4_oneIf s1) (fun r1 k1 =>
  nm (s0 + r1) (fun u2 =>
  nm (y4 + 1) (fun u3 =>
  ag5 v_known y1 y2 u2 u3)))
set_option maxRecDepth 100000 in
set_option maxHeartbeats 4000000 in
theorem LX0_settledAs_33 {p : Program} {l : Launch} {e : Env} {s : State} {m : MethodId} {args : Array Value} {below : List Frame} {meth : Method} {c : Code} {D : va_G} {cI cJ cZ cS : ClassId} {tb : Nat} {A : Nat → Prop} {a_t a_kinds a_costs a_terms a_known : Nat} {v_size : Int32} {v_list : Int32} {v_told : Int32} {v_kinds : Nat → Int32} {v_terms : Nat → Int64} {rr : Int32} {kk' : (Nat → Int32)} (fx : q_Fx p s m args meth c cX0_settledAs 5 RX0 (some .int) D cI cJ cZ cS tb A) {ag5 : (Nat → Int32) → Int32 → Int32 → Int32 → Int32 → Option (Int32 × (Nat → Int32))} (hag5 : ∀ {v_known : Nat → Int32} {y1 : Int32} {y2 : Int32} {y3 : Int32} {y4 : Int32} {H : Heap} {locs : List Loc} {ls : Array Slot}, q_H D A s (wX0_settledAs cI cJ cZ cS a_t a_kinds a_costs a_terms a_known v_size v_list v_told v_kinds v_terms v_known) H locs → lv_has ls 5 [(0, .ref a_t), (1, .int y1), (2, .int y2), (3, .int y3), (4, .int y4)] → ag5 v_known y1 y2 y3 y4 = some (rr, kk') → W p l e rX0_settledAs s m args below meth c H locs 0 0 (MQ below (q_Ri D rr A ((fun k : (Nat → Int32) => (wX0_settledAs cI cJ cZ cS a_t a_kinds a_costs a_terms a_known v_size v_list v_told v_kinds v_terms k)) kk')) args s 0 0 A) (F0 m 5 ls [])) : ∀ {v_known : Nat → Int32} {s0 : Int32} {s1 : Int32} {y1 : Int32} {y2 : Int32} {y4 : Int32} {H : Heap} {locs : List Loc} {ls : Array Slot}, q_H D A s (wX0_settledAs cI cJ cZ cS a_t a_kinds a_costs a_terms a_known v_size v_list v_told v_kinds v_terms v_known) H locs → lv_has ls 5 [(0, .ref a_t), (1, .int y1), (2, .int y2), (4, .int y4)] → fX0_settledAs_33 v_size v_kinds v_terms ag5 v_known s0 s1 y1 y2 y4 = some (rr, kk') → W p l e rX0_settledAs s m args below meth c H locs 0 0 (MQ below (q_Ri D rr A ((fun k : (Nat → Int32) => (wX0_settledAs cI cJ cZ cS a_t a_kinds a_costs a_terms a_known v_size v_list v_told v_kinds v_terms k)) kk')) args s 0 0 A) (F0 m 33 ls [.int s1, .int s0]) := by
  intro v_known s0 s1 y1 y2 y4 H locs ls h hl hf
  have hx := fx.1
  have hb := fx.2.1
  unfold fX0_settledAs_33 at hf
  obtain ⟨r1, k1, hg, hf⟩ := bR_inv hf
  refine q_ci (rest := [.int s0]) (ws' := (wX0_settledAs cI cJ cZ cS a_t a_kinds a_costs a_terms a_known v_size v_list v_told v_kinds v_terms v_known)) (w1 := (wX4_oneIf cI cJ cZ cS)) fx h [] rfl rfl rfl rfl (q_runSN fx h hl.1 [] rfl rfl (tX4_oneIf l D cI cJ cZ cS tb H.size s1 r1 k1 hg) msX4_oneIf nm_4 ⟨rfl, rfl⟩ ⟨Nat.le_of_ble_eq_true rfl, Nat.le_of_ble_eq_true rfl⟩ rfl rfl (Nat.le_of_ble_eq_true rfl) dX0_settledAs_33 ⟨Nat.le_of_ble_eq_true rfl, Nat.le_of_ble_eq_true rfl⟩) (fun H locs h => ?_)
  refine lv_iadd hx hb dX0_settledAs_36 ?_
  obtain ⟨u2, eu2, hf⟩ := nm_inv hf
  refine lv_eqi eu2 ?_
  refine lv_istore_n (lv' := [(3, .int u2), (0, .ref a_t), (1, .int y1), (2, .int y2), (4, .int y4)]) hx hb dX0_settledAs_37 rfl hl (by decide) rfl (fun ls hl => ?_)
  obtain ⟨u3, eu3, hf⟩ := nm_inv hf
  refine lv_iinc (v := u3) (lv' := [(4, .int u3), (3, .int u2), (0, .ref a_t), (1, .int y1), (2, .int y2)]) hx hb dX0_settledAs_38 hl (k := 4) rfl (by rw [eu3]; rfl) (by decide) rfl (fun ls hl => ?_)
  refine lv_goto (tgt := 5) hx hb dX0_settledAs_41 (by decide) ?_
  exact hag5 h (lv_sub hl [2, 3, 4, 1, 0] rfl) hf
def fX0_settledAs_5 (v_size : Int32) (v_kinds : Nat → Int32) (v_terms : Nat → Int64) (ag5 : (Nat → Int32) → Int32 → Int32 → Int32 → Int32 → Option (Int32 × (Nat → Int32))) (v_known : Nat → Int32) (y1 : Int32) (y2 : Int32) (y3 : Int32) (y4 : Int32) : Option (Int32 × (Nat → Int32)) :=
  bR (fX0_lists v_size) (fun r4 k4 =>
  (if r4 ≤ y4 then (
  some (y3, v_known))
  else (
  bR (fX0_comersAs v_size v_kinds v_terms v_known y1 y2 y4) (fun r6 k6 =>
  (if r6 = y4 then (
  fX0_settledAs_33 v_size v_kinds v_terms ag5 k6 y3 1 y1 y2 y4)
  else (
  fX0_settledAs_33 v_size v_kinds v_terms ag5 k6 y3 0 y1 y2 y4))))))
set_option maxRecDepth 100000 in
set_option maxHeartbeats 4000000 in
theorem LX0_settledAs_5 {p : Program} {l : Launch} {e : Env} {s : State} {m : MethodId} {args : Array Value} {below : List Frame} {meth : Method} {c : Code} {D : va_G} {cI cJ cZ cS : ClassId} {tb : Nat} {A : Nat → Prop} {a_t a_kinds a_costs a_terms a_known : Nat} {v_size : Int32} {v_list : Int32} {v_told : Int32} {v_kinds : Nat → Int32} {v_terms : Nat → Int64} {rr : Int32} {kk' : (Nat → Int32)} (fx : q_Fx p s m args meth c cX0_settledAs 5 RX0 (some .int) D cI cJ cZ cS tb A) {ag5 : (Nat → Int32) → Int32 → Int32 → Int32 → Int32 → Option (Int32 × (Nat → Int32))} (hag5 : ∀ {v_known : Nat → Int32} {y1 : Int32} {y2 : Int32} {y3 : Int32} {y4 : Int32} {H : Heap} {locs : List Loc} {ls : Array Slot}, q_H D A s (wX0_settledAs cI cJ cZ cS a_t a_kinds a_costs a_terms a_known v_size v_list v_told v_kinds v_terms v_known) H locs → lv_has ls 5 [(0, .ref a_t), (1, .int y1), (2, .int y2), (3, .int y3), (4, .int y4)] → ag5 v_known y1 y2 y3 y4 = some (rr, kk') → W p l e rX0_settledAs s m args below meth c H locs 0 0 (MQ below (q_Ri D rr A ((fun k : (Nat → Int32) => (wX0_settledAs cI cJ cZ cS a_t a_kinds a_costs a_terms a_known v_size v_list v_told v_kinds v_terms k)) kk')) args s 0 0 A) (F0 m 5 ls [])) : ∀ {v_known : Nat → Int32} {y1 : Int32} {y2 : Int32} {y3 : Int32} {y4 : Int32} {H : Heap} {locs : List Loc} {ls : Array Slot}, q_H D A s (wX0_settledAs cI cJ cZ cS a_t a_kinds a_costs a_terms a_known v_size v_list v_told v_kinds v_terms v_known) H locs → lv_has ls 5 [(0, .ref a_t), (1, .int y1), (2, .int y2), (3, .int y3), (4, .int y4)] → fX0_settledAs_5 v_size v_kinds v_terms ag5 v_known y1 y2 y3 y4 = some (rr, kk') → W p l e rX0_settledAs s m args below meth c H locs 0 0 (MQ below (q_Ri D rr A ((fun k : (Nat → Int32) => (wX0_settledAs cI cJ cZ cS a_t a_kinds a_costs a_terms a_known v_size v_list v_told v_kinds v_terms k)) kk')) args s 0 0 A) (F0 m 5 ls []) := by
  intro v_known y1 y2 y3 y4 H locs ls h hl hf
  have hx := fx.1
  have hb := fx.2.1
  unfold fX0_settledAs_5 at hf
  refine lv_iload hx hb dX0_settledAs_5 (lv_at hl 4 rfl) ?_
  refine lv_aload_n hx hb dX0_settledAs_7 rfl (lv_at hl 0 rfl) ?_
  obtain ⟨r4, k4, hg, hf⟩ := bR_inv hf
  refine q_ci (rest := [.int y4]) (ws' := (wX0_settledAs cI cJ cZ cS a_t a_kinds a_costs a_terms a_known v_size v_list v_told v_kinds v_terms v_known)) (w1 := (wX0_lists cI cJ cZ cS a_t a_kinds a_costs a_terms a_known v_size v_list v_told)) fx h [0] rfl rfl rfl rfl (q_runV fx h hl.1 [0] rfl rfl (tX0_lists l D cI cJ cZ cS tb a_t a_kinds a_costs a_terms a_known H.size v_size v_list v_told r4 k4 hg) mvX0_lists k_350 ⟨rfl, rfl⟩ ⟨Nat.le_of_ble_eq_true rfl, Nat.le_of_ble_eq_true rfl⟩ rfl rfl rfl rfl (Nat.le_of_ble_eq_true rfl) dX0_settledAs_8 ⟨Nat.le_of_ble_eq_true rfl, Nat.le_of_ble_eq_true rfl⟩) (fun H locs h => ?_)
  refine lv_icmp_ge (tgt := 44) hx hb dX0_settledAs_11 (by decide) (fun c5 => ?_) (fun c5 => ?_)
  · have hf := it_t c5 hf
    refine lv_iload_n hx hb dX0_settledAs_44 rfl (lv_at hl 3 rfl) ?_
    exact q_reti (fun k : (Nat → Int32) => (wX0_settledAs cI cJ cZ cS a_t a_kinds a_costs a_terms a_known v_size v_list v_told v_kinds v_terms k)) fx hf h dX0_settledAs_45
  have hf := it_f c5 hf
  refine lv_iload_n hx hb dX0_settledAs_14 rfl (lv_at hl 3 rfl) ?_
  refine lv_aload_n hx hb dX0_settledAs_15 rfl (lv_at hl 0 rfl) ?_
  refine lv_iload_n hx hb dX0_settledAs_16 rfl (lv_at hl 1 rfl) ?_
  refine lv_iload_n hx hb dX0_settledAs_17 rfl (lv_at hl 2 rfl) ?_
  refine lv_iload hx hb dX0_settledAs_18 (lv_at hl 4 rfl) ?_
  obtain ⟨r6, k6, hg, hf⟩ := bR_inv hf
  refine q_ci (rest := [.int y3]) (ws' := (wX0_settledAs cI cJ cZ cS a_t a_kinds a_costs a_terms a_known v_size v_list v_told v_kinds v_terms k6)) (w1 := (wX0_comersAs cI cJ cZ cS a_t a_kinds a_costs a_terms a_known v_size v_list v_told v_kinds v_terms k6)) fx h [0, 1, 2, 3] rfl rfl rfl rfl (q_runV fx h hl.1 [0, 1, 2, 3] rfl rfl (tX0_comersAs l D cI cJ cZ cS tb a_t a_kinds a_costs a_terms a_known H.size v_size v_list v_told v_kinds v_terms v_known y1 y2 y4 r6 k6 hg) mvX0_comersAs k_528 ⟨rfl, rfl⟩ ⟨Nat.le_of_ble_eq_true rfl, Nat.le_of_ble_eq_true rfl⟩ rfl rfl rfl rfl (Nat.le_of_ble_eq_true rfl) dX0_settledAs_20 ⟨Nat.le_of_ble_eq_true rfl, Nat.le_of_ble_eq_true rfl⟩) (fun H locs h => ?_)
  refine lv_iload hx hb dX0_settledAs_23 (lv_at hl 4 rfl) ?_
  refine lv_icmp_ne (tgt := 32) hx hb dX0_settledAs_25 (by decide) (fun c7 => ?_) (fun c7 => ?_)
  · have hf := it_f c7 hf
    refine lv_iconst (v := 0) hx hb dX0_settledAs_32 (by decide) ?_
    exact LX0_settledAs_33 fx hag5 h (lv_sub hl [0, 1, 2, 4] rfl) hf
  have hf := it_t c7 hf
  refine lv_iconst (v := 1) hx hb dX0_settledAs_28 (by decide) ?_
  refine lv_goto (tgt := 33) hx hb dX0_settledAs_29 (by decide) ?_
  exact LX0_settledAs_33 fx hag5 h (lv_sub hl [0, 1, 2, 4] rfl) hf
set_option maxRecDepth 100000 in
theorem EX0_settledAs_5 {p : Program} {l : Launch} {e : Env} {s : State} {m : MethodId} {args : Array Value} {below : List Frame} {meth : Method} {c : Code} {D : va_G} {cI cJ cZ cS : ClassId} {tb : Nat} {A : Nat → Prop} {a_t a_kinds a_costs a_terms a_known : Nat} {v_size : Int32} {v_list : Int32} {v_told : Int32} {v_kinds : Nat → Int32} {v_terms : Nat → Int64} {rr : Int32} {kk' : (Nat → Int32)} (fx : q_Fx p s m args meth c cX0_settledAs 5 RX0 (some .int) D cI cJ cZ cS tb A) : ∀ (n : Nat), ∀ {v_known : Nat → Int32} {y1 : Int32} {y2 : Int32} {y3 : Int32} {y4 : Int32} {H : Heap} {locs : List Loc} {ls : Array Slot}, q_H D A s (wX0_settledAs cI cJ cZ cS a_t a_kinds a_costs a_terms a_known v_size v_list v_told v_kinds v_terms v_known) H locs → lv_has ls 5 [(0, .ref a_t), (1, .int y1), (2, .int y2), (3, .int y3), (4, .int y4)] → ll5 (fX0_settledAs_5 v_size v_kinds v_terms) n v_known y1 y2 y3 y4 = some (rr, kk') → W p l e rX0_settledAs s m args below meth c H locs 0 0 (MQ below (q_Ri D rr A ((fun k : (Nat → Int32) => (wX0_settledAs cI cJ cZ cS a_t a_kinds a_costs a_terms a_known v_size v_list v_told v_kinds v_terms k)) kk')) args s 0 0 A) (F0 m 5 ls []) := by
  intro n
  induction n with
  | zero => intro v_known y1 y2 y3 y4 H locs ls h hl hf; exact (ll5_z hf).elim
  | succ n ih => intro v_known y1 y2 y3 y4 H locs ls h hl hf; exact LX0_settledAs_5 fx ih h hl (ll5_s hf)
def fX0_settledAs (v_size : Int32) (v_kinds : Nat → Int32) (v_terms : Nat → Int64) (v_known : Nat → Int32) (x1 : Int32) (x2 : Int32) : Option (Int32 × (Nat → Int32)) :=
  ll5 (fX0_settledAs_5 v_size v_kinds v_terms) qF v_known x1 x2 0 0
set_option maxRecDepth 100000 in
set_option maxHeartbeats 4000000 in
theorem tX0_settledAs (l : Launch) (D : va_G) (cI cJ cZ cS : ClassId) (tb : Nat) (a_t a_kinds a_costs a_terms a_known : Nat) (sz : Nat) (v_size : Int32) (v_list : Int32) (v_told : Int32) (v_kinds : Nat → Int32) (v_terms : Nat → Int64) (v_known : Nat → Int32) (x1 : Int32) (x2 : Int32) (rr : Int32) (kk' : (Nat → Int32)) (hf : fX0_settledAs v_size v_kinds v_terms v_known x1 x2 = some (rr, kk')) : Met l yX0_settledAs (Cond.code yX0_settledAs cX0_settledAs 5 (some .int) :: wA) rX0_settledAs (q_Pre D cI cJ cZ cS tb [.ref a_t, .int x1, .int x2] sz (wX0_settledAs cI cJ cZ cS a_t a_kinds a_costs a_terms a_known v_size v_list v_told v_kinds v_terms v_known)) (q_Ri D rr (va_A (wX0_settledAs cI cJ cZ cS a_t a_kinds a_costs a_terms a_known v_size v_list v_told v_kinds v_terms v_known) sz) ((fun k : (Nat → Int32) => (wX0_settledAs cI cJ cZ cS a_t a_kinds a_costs a_terms a_known v_size v_list v_told v_kinds v_terms k)) kk')) 0 0 (va_A (wX0_settledAs cI cJ cZ cS a_t a_kinds a_costs a_terms a_known v_size v_list v_told v_kinds v_terms v_known) sz) := by
  refine q_enter (Qf := fun A => (q_Ri D rr A ((fun k : (Nat → Int32) => (wX0_settledAs cI cJ cZ cS a_t a_kinds a_costs a_terms a_known v_size v_list v_told v_kinds v_terms k)) kk'))) (by decide) rfl (Nat.le_of_ble_eq_true rfl) ?_
  intro p e s m below meth c A ls fx hname h hl
  have hx := fx.1
  have hb := fx.2.1
  have hl : lv_has ls 5 [(0, .ref a_t), (1, .int x1), (2, .int x2)] := hl
  generalize h9 : s.heap = H at h ⊢
  clear h9
  generalize h9 : ([] : List Loc) = locs at h ⊢
  clear h9
  unfold fX0_settledAs at hf
  refine lv_iconst (v := 0) hx hb dX0_settledAs_0 (by decide) ?_
  refine lv_istore_n (lv' := [(3, .int 0), (0, .ref a_t), (1, .int x1), (2, .int x2)]) hx hb dX0_settledAs_1 rfl hl (by decide) rfl (fun ls hl => ?_)
  refine lv_iconst (v := 0) hx hb dX0_settledAs_2 (by decide) ?_
  refine lv_istore (lv' := [(4, .int 0), (3, .int 0), (0, .ref a_t), (1, .int x1), (2, .int x2)]) hx hb dX0_settledAs_3 hl (by decide) rfl (fun ls hl => ?_)
  exact EX0_settledAs_5 fx qF h (lv_sub hl [2, 3, 4, 1, 0] rfl) hf
/-! X4_kind -/
abbrev wX4_kind (cI cJ cZ cS : ClassId) (a_t a_party a_party_kinds a_party_costs a_party_terms a_party_known a_kept a_tape a_telephone a_sheets a_findings : Nat) (v_isKept : Int32) (v_party_size : Int32) (v_party_list : Int32) (v_party_told : Int32) (v_party_kinds : Nat → Int32) (v_party_terms : Nat → Int64) (v_party_known : Nat → Int32) (v_findings : Nat → Int32) : va_W := [(a_t, .inr (4, [.ref a_party, .ref a_kept, .int v_isKept, .ref a_tape, .ref a_telephone, .ref a_sheets, .ref a_findings])), (a_party, .inr (0, [.int v_party_size, .int v_party_list, .int v_party_told, .ref a_party_kinds, .ref a_party_costs, .ref a_party_terms, .ref a_party_known])), (a_party_kinds, .inl (cI, 8, .inl v_party_kinds)), (a_party_terms, .inl (cJ, 32, .inr (.inl v_party_terms))), (a_party_known, .inl (cI, 256, .inl v_party_known)), (a_findings, .inl (cI, 7, .inl v_findings))]
abbrev rX4_kind : Room := { frames := 6, cells := 0, slots := 0, locals := 138 }
def fX4_kind_56 (v_party_size : Int32) (v_party_kinds : Nat → Int32) (v_party_terms : Nat → Int64) (ag25 : (Nat → Int32) → (Nat → Int32) → Int32 → Int32 → Int32 → Int32 → Option (Int32 × (Nat → Int32) × (Nat → Int32))) (v_party_known : Nat → Int32) (v_findings : Nat → Int32) (y1 : Int32) (y2 : Int32) (y3 : Int32) (y4 : Int32) : Option (Int32 × (Nat → Int32) × (Nat → Int32)) :=
  nm (y4 + 1) (fun u1 =>
  ag25 v_party_known v_findings y1 y2 y3 u1)
set_option maxRecDepth 100000 in
set_option maxHeartbeats 4000000 in
theorem LX4_kind_56 {p : Program} {l : Launch} {e : Env} {s : State} {m : MethodId} {args : Array Value} {below : List Frame} {meth : Method} {c : Code} {D : va_G} {cI cJ cZ cS : ClassId} {tb : Nat} {A : Nat → Prop} {a_t a_party a_party_kinds a_party_costs a_party_terms a_party_known a_kept a_tape a_telephone a_sheets a_findings : Nat} {v_isKept : Int32} {v_party_size : Int32} {v_party_list : Int32} {v_party_told : Int32} {v_party_kinds : Nat → Int32} {v_party_terms : Nat → Int64} {rr : Int32} {kk' : (Nat → Int32) × (Nat → Int32)} (fx : q_Fx p s m args meth c cX4_kind 6 RX4 (some .int) D cI cJ cZ cS tb A) {ag25 : (Nat → Int32) → (Nat → Int32) → Int32 → Int32 → Int32 → Int32 → Option (Int32 × (Nat → Int32) × (Nat → Int32))} (hag25 : ∀ {v_party_known : Nat → Int32} {v_findings : Nat → Int32} {y1 : Int32} {y2 : Int32} {y3 : Int32} {y4 : Int32} {H : Heap} {locs : List Loc} {ls : Array Slot}, q_H D A s (wX4_kind cI cJ cZ cS a_t a_party a_party_kinds a_party_costs a_party_terms a_party_known a_kept a_tape a_telephone a_sheets a_findings v_isKept v_party_size v_party_list v_party_told v_party_kinds v_party_terms v_party_known v_findings) H locs → lv_has ls 6 [(0, .ref a_t), (1, .int y1), (2, .int y2), (3, .int y3), (4, .int y4)] → ag25 v_party_known v_findings y1 y2 y3 y4 = some (rr, kk') → W p l e rX4_kind s m args below meth c H locs 0 0 (MQ below (q_Ri D rr A ((fun k : (Nat → Int32) × (Nat → Int32) => (wX4_kind cI cJ cZ cS a_t a_party a_party_kinds a_party_costs a_party_terms a_party_known a_kept a_tape a_telephone a_sheets a_findings v_isKept v_party_size v_party_list v_party_told v_party_kinds v_party_terms k.1 k.2)) kk')) args s 0 0 A) (F0 m 25 ls [])) : ∀ {v_party_known : Nat → Int32} {v_findings : Nat → Int32} {y1 : Int32} {y2 : Int32} {y3 : Int32} {y4 : Int32} {H : Heap} {locs : List Loc} {ls : Array Slot}, q_H D A s (wX4_kind cI cJ cZ cS a_t a_party a_party_kinds a_party_costs a_party_terms a_party_known a_kept a_tape a_telephone a_sheets a_findings v_isKept v_party_size v_party_list v_party_told v_party_kinds v_party_terms v_party_known v_findings) H locs → lv_has ls 6 [(0, .ref a_t), (1, .int y1), (2, .int y2), (3, .int y3), (4, .int y4)] → fX4_kind_56 v_party_size v_party_kinds v_party_terms ag25 v_party_known v_findings y1 y2 y3 y4 = some (rr, kk') → W p l e rX4_kind s m args below meth c H locs 0 0 (MQ below (q_Ri D rr A ((fun k : (Nat → Int32) × (Nat → Int32) => (wX4_kind cI cJ cZ cS a_t a_party a_party_kinds a_party_costs a_party_terms a_party_known a_kept a_tape a_telephone a_sheets a_findings v_isKept v_party_size v_party_list v_party_told v_party_kinds v_party_terms k.1 k.2)) kk')) args s 0 0 A) (F0 m 56 ls []) := by
  intro v_party_known v_findings y1 y2 y3 y4 H locs ls h hl hf
  have hx := fx.1
  have hb := fx.2.1
  unfold fX4_kind_56 at hf
  obtain ⟨u1, eu1, hf⟩ := nm_inv hf
  refine lv_iinc (v := u1) (lv' := [(4, .int u1), (0, .ref a_t), (1, .int y1), (2, .int y2), (3, .int y3)]) hx hb dX4_kind_56 hl (k := 4) rfl (by rw [eu1]; rfl) (by decide) rfl (fun ls hl => ?_)
  refine lv_goto (tgt := 25) hx hb dX4_kind_59 (by decide) ?_
  exact hag25 h (lv_sub hl [1, 2, 3, 4, 0] rfl) hf
def fX4_kind_25 (v_party_size : Int32) (v_party_kinds : Nat → Int32) (v_party_terms : Nat → Int64) (ag25 : (Nat → Int32) → (Nat → Int32) → Int32 → Int32 → Int32 → Int32 → Option (Int32 × (Nat → Int32) × (Nat → Int32))) (v_party_known : Nat → Int32) (v_findings : Nat → Int32) (y1 : Int32) (y2 : Int32) (y3 : Int32) (y4 : Int32) : Option (Int32 × (Nat → Int32) × (Nat → Int32)) :=
  (if (6 : Int32) ≤ y4 then (
  some (y2, (v_party_known, v_findings)))
  else (
  bR (fX0_settledAs v_party_size v_party_kinds v_party_terms v_party_known y1 y4) (fun r3 k3 =>
  (if r3 ≤ y3 then (
  fX4_kind_56 v_party_size v_party_kinds v_party_terms ag25 k3 v_findings y1 y2 y3 y4)
  else (
  fX4_kind_56 v_party_size v_party_kinds v_party_terms ag25 k3 v_findings y1 y4 r3 y4)))))
set_option maxRecDepth 100000 in
set_option maxHeartbeats 4000000 in
theorem LX4_kind_25 {p : Program} {l : Launch} {e : Env} {s : State} {m : MethodId} {args : Array Value} {below : List Frame} {meth : Method} {c : Code} {D : va_G} {cI cJ cZ cS : ClassId} {tb : Nat} {A : Nat → Prop} {a_t a_party a_party_kinds a_party_costs a_party_terms a_party_known a_kept a_tape a_telephone a_sheets a_findings : Nat} {v_isKept : Int32} {v_party_size : Int32} {v_party_list : Int32} {v_party_told : Int32} {v_party_kinds : Nat → Int32} {v_party_terms : Nat → Int64} {rr : Int32} {kk' : (Nat → Int32) × (Nat → Int32)} (fx : q_Fx p s m args meth c cX4_kind 6 RX4 (some .int) D cI cJ cZ cS tb A) {ag25 : (Nat → Int32) → (Nat → Int32) → Int32 → Int32 → Int32 → Int32 → Option (Int32 × (Nat → Int32) × (Nat → Int32))} (hag25 : ∀ {v_party_known : Nat → Int32} {v_findings : Nat → Int32} {y1 : Int32} {y2 : Int32} {y3 : Int32} {y4 : Int32} {H : Heap} {locs : List Loc} {ls : Array Slot}, q_H D A s (wX4_kind cI cJ cZ cS a_t a_party a_party_kinds a_party_costs a_party_terms a_party_known a_kept a_tape a_telephone a_sheets a_findings v_isKept v_party_size v_party_list v_party_told v_party_kinds v_party_terms v_party_known v_findings) H locs → lv_has ls 6 [(0, .ref a_t), (1, .int y1), (2, .int y2), (3, .int y3), (4, .int y4)] → ag25 v_party_known v_findings y1 y2 y3 y4 = some (rr, kk') → W p l e rX4_kind s m args below meth c H locs 0 0 (MQ below (q_Ri D rr A ((fun k : (Nat → Int32) × (Nat → Int32) => (wX4_kind cI cJ cZ cS a_t a_party a_party_kinds a_party_costs a_party_terms a_party_known a_kept a_tape a_telephone a_sheets a_findings v_isKept v_party_size v_party_list v_party_told v_party_kinds v_party_terms k.1 k.2)) kk')) args s 0 0 A) (F0 m 25 ls [])) : ∀ {v_party_known : Nat → Int32} {v_findings : Nat → Int32} {y1 : Int32} {y2 : Int32} {y3 : Int32} {y4 : Int32} {H : Heap} {locs : List Loc} {ls : Array Slot}, q_H D A s (wX4_kind cI cJ cZ cS a_t a_party a_party_kinds a_party_costs a_party_terms a_party_known a_kept a_tape a_telephone a_sheets a_findings v_isKept v_party_size v_party_list v_party_told v_party_kinds v_party_terms v_party_known v_findings) H locs → lv_has ls 6 [(0, .ref a_t), (1, .int y1), (2, .int y2), (3, .int y3), (4, .int y4)] → fX4_kind_25 v_party_size v_party_kinds v_party_terms ag25 v_party_known v_findings y1 y2 y3 y4 = some (rr, kk') → W p l e rX4_kind s m args below meth c H locs 0 0 (MQ below (q_Ri D rr A ((fun k : (Nat → Int32) × (Nat → Int32) => (wX4_kind cI cJ cZ cS a_t a_party a_party_kinds a_party_costs a_party_terms a_party_known a_kept a_tape a_telephone a_sheets a_findings v_isKept v_party_size v_party_list v_party_told v_party_kinds v_party_terms k.1 k.2)) kk')) args s 0 0 A) (F0 m 25 ls []) := by
  intro v_party_known v_findings y1 y2 y3 y4 H locs ls h hl hf
  have hx := fx.1
  have hb := fx.2.1
  unfold fX4_kind_25 at hf
  refine lv_iload hx hb dX4_kind_25 (lv_at hl 4 rfl) ?_
  refine lv_bipush (v := 6) hx hb dX4_kind_27 (by decide) ?_
  refine lv_icmp_ge (tgt := 62) hx hb dX4_kind_29 (by decide) (fun c2 => ?_) (fun c2 => ?_)
  · have hf := it_t c2 hf
    refine lv_iload_n hx hb dX4_kind_62 rfl (lv_at hl 2 rfl) ?_
    exact q_reti (fun k : (Nat → Int32) × (Nat → Int32) => (wX4_kind cI cJ cZ cS a_t a_party a_party_kinds a_party_costs a_party_terms a_party_known a_kept a_tape a_telephone a_sheets a_findings v_isKept v_party_size v_party_list v_party_told v_party_kinds v_party_terms k.1 k.2)) fx hf h dX4_kind_63
  have hf := it_f c2 hf
  refine lv_aload_n hx hb dX4_kind_32 rfl (lv_at hl 0 rfl) ?_
  refine q_get (v := .ref a_party) fx inX4 h 0 rfl rfl 0 (by decide) k_174 rfl dX4_kind_33 ?_
  refine lv_iload_n hx hb dX4_kind_36 rfl (lv_at hl 1 rfl) ?_
  refine lv_iload hx hb dX4_kind_37 (lv_at hl 4 rfl) ?_
  obtain ⟨r3, k3, hg, hf⟩ := bR_inv hf
  refine q_ci (rest := []) (ws' := (wX4_kind cI cJ cZ cS a_t a_party a_party_kinds a_party_costs a_party_terms a_party_known a_kept a_tape a_telephone a_sheets a_findings v_isKept v_party_size v_party_list v_party_told v_party_kinds v_party_terms k3 v_findings)) (w1 := (wX0_settledAs cI cJ cZ cS a_party a_party_kinds a_party_costs a_party_terms a_party_known v_party_size v_party_list v_party_told v_party_kinds v_party_terms k3)) fx h [1, 2, 3, 4] rfl rfl rfl rfl (q_runV fx h hl.1 [1, 2, 3, 4] rfl rfl (tX0_settledAs l D cI cJ cZ cS tb a_party a_party_kinds a_party_costs a_party_terms a_party_known H.size v_party_size v_party_list v_party_told v_party_kinds v_party_terms v_party_known y1 y4 r3 k3 hg) mvX0_settledAs k_524 ⟨rfl, rfl⟩ ⟨Nat.le_of_ble_eq_true rfl, Nat.le_of_ble_eq_true rfl⟩ rfl rfl rfl rfl (Nat.le_of_ble_eq_true rfl) dX4_kind_39 ⟨Nat.le_of_ble_eq_true rfl, Nat.le_of_ble_eq_true rfl⟩) (fun H locs h => ?_)
  refine lv_istore (lv' := [(5, .int r3), (0, .ref a_t), (1, .int y1), (2, .int y2), (3, .int y3), (4, .int y4)]) hx hb dX4_kind_42 hl (by decide) rfl (fun ls hl => ?_)
  refine lv_iload hx hb dX4_kind_44 (lv_at hl 0 rfl) ?_
  refine lv_iload_n hx hb dX4_kind_46 rfl (lv_at hl 4 rfl) ?_
  refine lv_icmp_le (tgt := 56) hx hb dX4_kind_47 (by decide) (fun c4 => ?_) (fun c4 => ?_)
  · have hf := it_t c4 hf
    exact LX4_kind_56 fx hag25 h (lv_sub hl [1, 2, 3, 4, 5] rfl) hf
  have hf := it_f c4 hf
  refine lv_iload hx hb dX4_kind_50 (lv_at hl 0 rfl) ?_
  refine lv_istore_n (lv' := [(3, .int r3), (5, .int r3), (0, .ref a_t), (1, .int y1), (2, .int y2), (4, .int y4)]) hx hb dX4_kind_52 rfl hl (by decide) rfl (fun ls hl => ?_)
  refine lv_iload hx hb dX4_kind_53 (lv_at hl 5 rfl) ?_
  refine lv_istore_n (lv' := [(2, .int y4), (3, .int r3), (5, .int r3), (0, .ref a_t), (1, .int y1), (4, .int y4)]) hx hb dX4_kind_55 rfl hl (by decide) rfl (fun ls hl => ?_)
  exact LX4_kind_56 fx hag25 h (lv_sub hl [3, 4, 0, 1, 5] rfl) hf
set_option maxRecDepth 100000 in
theorem EX4_kind_25 {p : Program} {l : Launch} {e : Env} {s : State} {m : MethodId} {args : Array Value} {below : List Frame} {meth : Method} {c : Code} {D : va_G} {cI cJ cZ cS : ClassId} {tb : Nat} {A : Nat → Prop} {a_t a_party a_party_kinds a_party_costs a_party_terms a_party_known a_kept a_tape a_telephone a_sheets a_findings : Nat} {v_isKept : Int32} {v_party_size : Int32} {v_party_list : Int32} {v_party_told : Int32} {v_party_kinds : Nat → Int32} {v_party_terms : Nat → Int64} {rr : Int32} {kk' : (Nat → Int32) × (Nat → Int32)} (fx : q_Fx p s m args meth c cX4_kind 6 RX4 (some .int) D cI cJ cZ cS tb A) : ∀ (n : Nat), ∀ {v_party_known : Nat → Int32} {v_findings : Nat → Int32} {y1 : Int32} {y2 : Int32} {y3 : Int32} {y4 : Int32} {H : Heap} {locs : List Loc} {ls : Array Slot}, q_H D A s (wX4_kind cI cJ cZ cS a_t a_party a_party_kinds a_party_costs a_party_terms a_party_known a_kept a_tape a_telephone a_sheets a_findings v_isKept v_party_size v_party_list v_party_told v_party_kinds v_party_terms v_party_known v_findings) H locs → lv_has ls 6 [(0, .ref a_t), (1, .int y1), (2, .int y2), (3, .int y3), (4, .int y4)] → ll6 (fX4_kind_25 v_party_size v_party_kinds v_party_terms) n v_party_known v_findings y1 y2 y3 y4 = some (rr, kk') → W p l e rX4_kind s m args below meth c H locs 0 0 (MQ below (q_Ri D rr A ((fun k : (Nat → Int32) × (Nat → Int32) => (wX4_kind cI cJ cZ cS a_t a_party a_party_kinds a_party_costs a_party_terms a_party_known a_kept a_tape a_telephone a_sheets a_findings v_isKept v_party_size v_party_list v_party_told v_party_kinds v_party_terms k.1 k.2)) kk')) args s 0 0 A) (F0 m 25 ls []) := by
  intro n
  induction n with
  | zero => intro v_party_known v_findings y1 y2 y3 y4 H locs ls h hl hf; exact (ll6_z hf).elim
  | succ n ih => intro v_party_known v_findings y1 y2 y3 y4 H locs ls h hl hf; exact LX4_kind_25 fx ih h hl (ll6_s hf)
def fX4_kind (v_party_size : Int32) (v_party_kinds : Nat → Int32) (v_party_terms : Nat → Int64) (v_party_known : Nat → Int32) (v_findings : Nat → Int32) (x1 : Int32) : Option (Int32 × (Nat → Int32) × (Nat → Int32)) :=
  bR (fX0_has v_party_size x1) (fun r5 k5 =>
  (if r5 = 0 then (
  bR (fX4_found v_findings (-1000000001)) (fun r7 k7 =>
  some (r7, (v_party_known, k7))))
  else (
  ll6 (fX4_kind_25 v_party_size v_party_kinds v_party_terms) qF v_party_known v_findings x1 0 (-1) 0)))
set_option maxRecDepth 100000 in
set_option maxHeartbeats 4000000 in
theorem tX4_kind (l : Launch) (D : va_G) (cI cJ cZ cS : ClassId) (tb : Nat) (a_t a_party a_party_kinds a_party_costs a_party_terms a_party_known a_kept a_tape a_telephone a_sheets a_findings : Nat) (sz : Nat) (v_isKept : Int32) (v_party_size : Int32) (v_party_list : Int32) (v_party_told : Int32) (v_party_kinds : Nat → Int32) (v_party_terms : Nat → Int64) (v_party_known : Nat → Int32) (v_findings : Nat → Int32) (x1 : Int32) (rr : Int32) (kk' : (Nat → Int32) × (Nat → Int32)) (hf : fX4_kind v_party_size v_party_kinds v_party_terms v_party_known v_findings x1 = some (rr, kk')) : Met l yX4_kind (Cond.code yX4_kind cX4_kind 6 (some .int) :: wA) rX4_kind (q_Pre D cI cJ cZ cS tb [.ref a_t, .int x1] sz (wX4_kind cI cJ cZ cS a_t a_party a_party_kinds a_party_costs a_party_terms a_party_known a_kept a_tape a_telephone a_sheets a_findings v_isKept v_party_size v_party_list v_party_told v_party_kinds v_party_terms v_party_known v_findings)) (q_Ri D rr (va_A (wX4_kind cI cJ cZ cS a_t a_party a_party_kinds a_party_costs a_party_terms a_party_known a_kept a_tape a_telephone a_sheets a_findings v_isKept v_party_size v_party_list v_party_told v_party_kinds v_party_terms v_party_known v_findings) sz) ((fun k : (Nat → Int32) × (Nat → Int32) => (wX4_kind cI cJ cZ cS a_t a_party a_party_kinds a_party_costs a_party_terms a_party_known a_kept a_tape a_telephone a_sheets a_findings v_isKept v_party_size v_party_list v_party_told v_party_kinds v_party_terms k.1 k.2)) kk')) 0 0 (va_A (wX4_kind cI cJ cZ cS a_t a_party a_party_kinds a_party_costs a_party_terms a_party_known a_kept a_tape a_telephone a_sheets a_findings v_isKept v_party_size v_party_list v_party_told v_party_kinds v_party_terms v_party_known v_findings) sz) := by
  refine q_enter (Qf := fun A => (q_Ri D rr A ((fun k : (Nat → Int32) × (Nat → Int32) => (wX4_kind cI cJ cZ cS a_t a_party a_party_kinds a_party_costs a_party_terms a_party_known a_kept a_tape a_telephone a_sheets a_findings v_isKept v_party_size v_party_list v_party_told v_party_kinds v_party_terms k.1 k.2)) kk'))) (by decide) rfl (Nat.le_of_ble_eq_true rfl) ?_
  intro p e s m below meth c A ls fx hname h hl
  have hx := fx.1
  have hb := fx.2.1
  have hl : lv_has ls 6 [(0, .ref a_t), (1, .int x1)] := hl
  generalize h9 : s.heap = H at h ⊢
  clear h9
  generalize h9 : ([] : List Loc) = locs at h ⊢
  clear h9
  unfold fX4_kind at hf
  refine lv_aload_n hx hb dX4_kind_0 rfl (lv_at hl 0 rfl) ?_
  refine q_get (v := .ref a_party) fx inX4 h 0 rfl rfl 0 (by decide) k_174 rfl dX4_kind_1 ?_
  refine lv_iload_n hx hb dX4_kind_4 rfl (lv_at hl 1 rfl) ?_
  obtain ⟨r5, k5, hg, hf⟩ := bR_inv hf
  refine q_ci (rest := []) (ws' := (wX4_kind cI cJ cZ cS a_t a_party a_party_kinds a_party_costs a_party_terms a_party_known a_kept a_tape a_telephone a_sheets a_findings v_isKept v_party_size v_party_list v_party_told v_party_kinds v_party_terms v_party_known v_findings)) (w1 := (wX0_has cI cJ cZ cS a_party a_party_kinds a_party_costs a_party_terms a_party_known v_party_size v_party_list v_party_told)) fx h [1] rfl rfl rfl rfl (q_runV fx h hl.1 [1] rfl rfl (tX0_has l D cI cJ cZ cS tb a_party a_party_kinds a_party_costs a_party_terms a_party_known H.size v_party_size v_party_list v_party_told x1 r5 k5 hg) mvX0_has k_220 ⟨rfl, rfl⟩ ⟨Nat.le_of_ble_eq_true rfl, Nat.le_of_ble_eq_true rfl⟩ rfl rfl rfl rfl (Nat.le_of_ble_eq_true rfl) dX4_kind_5 ⟨Nat.le_of_ble_eq_true rfl, Nat.le_of_ble_eq_true rfl⟩) (fun H locs h => ?_)
  refine lv_if_ne (tgt := 18) hx hb dX4_kind_8 (by decide) (fun c6 => ?_) (fun c6 => ?_)
  · have hf := it_f c6 hf
    refine lv_iconst (v := 0) hx hb dX4_kind_18 (by decide) ?_
    refine lv_istore_n (lv' := [(2, .int 0), (0, .ref a_t), (1, .int x1)]) hx hb dX4_kind_19 rfl hl (by decide) rfl (fun ls hl => ?_)
    refine lv_iconst (v := -1) hx hb dX4_kind_20 (by decide) ?_
    refine lv_istore_n (lv' := [(3, .int (-1)), (2, .int 0), (0, .ref a_t), (1, .int x1)]) hx hb dX4_kind_21 rfl hl (by decide) rfl (fun ls hl => ?_)
    refine lv_iconst (v := 0) hx hb dX4_kind_22 (by decide) ?_
    refine lv_istore (lv' := [(4, .int 0), (3, .int (-1)), (2, .int 0), (0, .ref a_t), (1, .int x1)]) hx hb dX4_kind_23 hl (by decide) rfl (fun ls hl => ?_)
    exact EX4_kind_25 fx qF h (lv_sub hl [3, 4, 2, 1, 0] rfl) hf
  have hf := it_t c6 hf
  refine lv_aload_n hx hb dX4_kind_11 rfl (lv_at hl 0 rfl) ?_
  refine q_ldc fx k_206 dX4_kind_12 ?_
  obtain ⟨r7, k7, hg, hf⟩ := bR_inv hf
  refine q_ci (rest := []) (ws' := (wX4_kind cI cJ cZ cS a_t a_party a_party_kinds a_party_costs a_party_terms a_party_known a_kept a_tape a_telephone a_sheets a_findings v_isKept v_party_size v_party_list v_party_told v_party_kinds v_party_terms v_party_known k7)) (w1 := (wX4_found cI cJ cZ cS a_t a_party a_kept a_tape a_telephone a_sheets a_findings v_isKept k7)) fx h [0, 5] rfl rfl rfl rfl (q_runV fx h hl.1 [0, 5] rfl rfl (tX4_found l D cI cJ cZ cS tb a_t a_party a_kept a_tape a_telephone a_sheets a_findings H.size v_isKept v_findings (-1000000001) r7 k7 hg) mvX4_found k_207 ⟨rfl, rfl⟩ ⟨Nat.le_of_ble_eq_true rfl, Nat.le_of_ble_eq_true rfl⟩ rfl rfl rfl rfl (Nat.le_of_ble_eq_true rfl) dX4_kind_14 ⟨Nat.le_of_ble_eq_true rfl, Nat.le_of_ble_eq_true rfl⟩) (fun H locs h => ?_)
  exact q_reti (fun k : (Nat → Int32) × (Nat → Int32) => (wX4_kind cI cJ cZ cS a_t a_party a_party_kinds a_party_costs a_party_terms a_party_known a_kept a_tape a_telephone a_sheets a_findings v_isKept v_party_size v_party_list v_party_told v_party_kinds v_party_terms k.1 k.2)) fx hf h dX4_kind_17
/-! X4_isSheet -/
abbrev wX4_isSheet (cI cJ cZ cS : ClassId) : va_W := []
abbrev rX4_isSheet : Room := { frames := 0, cells := 0, slots := 0, locals := 0 }
def fX4_isSheet (x0 : Int32) : Option (Int32 × Unit) :=
  (if x0 < 0 then (
  some (0, ()))
  else (
  (if (4 : Int32) ≤ x0 then (
  some (0, ()))
  else (
  some (1, ())))))
set_option maxRecDepth 100000 in
set_option maxHeartbeats 4000000 in
theorem tX4_isSheet (l : Launch) (D : va_G) (cI cJ cZ cS : ClassId) (tb : Nat) (sz : Nat) (x0 : Int32) (rr : Int32) (kk' : Unit) (hf : fX4_isSheet x0 = some (rr, kk')) : Met l yX4_isSheet (Cond.code yX4_isSheet cX4_isSheet 1 (some .boolean) :: wA) rX4_isSheet (q_Pre D cI cJ cZ cS tb [.int x0] sz (wX4_isSheet cI cJ cZ cS)) (q_Ri D rr (va_A (wX4_isSheet cI cJ cZ cS) sz) ((fun k : Unit => (wX4_isSheet cI cJ cZ cS)) kk')) 0 0 (va_A (wX4_isSheet cI cJ cZ cS) sz) := by
  refine q_enter (Qf := fun A => (q_Ri D rr A ((fun k : Unit => (wX4_isSheet cI cJ cZ cS)) kk'))) (by decide) rfl (Nat.le_of_ble_eq_true rfl) ?_
  intro p e s m below meth c A ls fx hname h hl
  have hx := fx.1
  have hb := fx.2.1
  have hl : lv_has ls 1 [(0, .int x0)] := hl
  generalize h9 : s.heap = H at h ⊢
  clear h9
  generalize h9 : ([] : List Loc) = locs at h ⊢
  clear h9
  unfold fX4_isSheet at hf
  refine lv_iload_n hx hb dX4_isSheet_0 rfl (lv_at hl 0 rfl) ?_
  refine lv_if_lt (tgt := 13) hx hb dX4_isSheet_1 (by decide) (fun c1 => ?_) (fun c1 => ?_)
  · have hf := it_t c1 hf
    refine lv_iconst (v := 0) hx hb dX4_isSheet_13 (by decide) ?_
    exact q_retz (fun k : Unit => (wX4_isSheet cI cJ cZ cS)) fx rfl hf h dX4_isSheet_14
  have hf := it_f c1 hf
  refine lv_iload_n hx hb dX4_isSheet_4 rfl (lv_at hl 0 rfl) ?_
  refine lv_iconst (v := 4) hx hb dX4_isSheet_5 (by decide) ?_
  refine lv_icmp_ge (tgt := 13) hx hb dX4_isSheet_6 (by decide) (fun c2 => ?_) (fun c2 => ?_)
  · have hf := it_t c2 hf
    refine lv_iconst (v := 0) hx hb dX4_isSheet_13 (by decide) ?_
    exact q_retz (fun k : Unit => (wX4_isSheet cI cJ cZ cS)) fx rfl hf h dX4_isSheet_14
  have hf := it_f c2 hf
  refine lv_iconst (v := 1) hx hb dX4_isSheet_9 (by decide) ?_
  refine lv_goto (tgt := 14) hx hb dX4_isSheet_10 (by decide) ?_
  exact q_retz (fun k : Unit => (wX4_isSheet cI cJ cZ cS)) fx rfl hf h dX4_isSheet_14
/-! X1_lay -/
abbrev wX1_lay (cI cJ cZ cS : ClassId) (a_t a_numbers : Nat) (v_bits : Int32) (v_size : Int32) (v_numbers : Nat → Int64) : va_W := [(a_t, .inr (1, [.int v_bits, .int v_size, .ref a_numbers])), (a_numbers, .inl (cJ, 40, .inr (.inl v_numbers)))]
abbrev rX1_lay : Room := { frames := 1, cells := 0, slots := 0, locals := 24 }
def fX1_lay_15 (v_bits : Int32) (v_size : Int32) (v_numbers : Nat → Int64) (s1 : Int32) : Option (Int32 × Int32 × Int32 × (Nat → Int64)) :=
  bV (fJ7_fill_d0a16 40 v_numbers 0) (fun k1 =>
  some (s1, (v_bits, s1, k1)))
set_option maxRecDepth 100000 in
set_option maxHeartbeats 4000000 in
theorem LX1_lay_15 {p : Program} {l : Launch} {e : Env} {s : State} {m : MethodId} {args : Array Value} {below : List Frame} {meth : Method} {c : Code} {D : va_G} {cI cJ cZ cS : ClassId} {tb : Nat} {A : Nat → Prop} {a_t a_numbers : Nat} {rr : Int32} {kk' : Int32 × Int32 × (Nat → Int64)} (fx : q_Fx p s m args meth c cX1_lay 3 RX1 (some .int) D cI cJ cZ cS tb A) : ∀ {v_bits : Int32} {v_size : Int32} {v_numbers : Nat → Int64} {s1 : Int32} {H : Heap} {locs : List Loc} {ls : Array Slot}, q_H D A s (wX1_lay cI cJ cZ cS a_t a_numbers v_bits v_size v_numbers) H locs → lv_has ls 3 [(0, .ref a_t)] → fX1_lay_15 v_bits v_size v_numbers s1 = some (rr, kk') → W p l e rX1_lay s m args below meth c H locs 0 0 (MQ below (q_Ri D rr A ((fun k : Int32 × Int32 × (Nat → Int64) => (wX1_lay cI cJ cZ cS a_t a_numbers k.1 k.2.1 k.2.2)) kk')) args s 0 0 A) (F0 m 15 ls [.int s1, .ref a_t]) := by
  intro v_bits v_size v_numbers s1 H locs ls h hl hf
  have hx := fx.1
  have hb := fx.2.1
  unfold fX1_lay_15 at hf
  refine q_put (v := .int s1) (ws' := (wX1_lay cI cJ cZ cS a_t a_numbers v_bits s1 v_numbers)) fx inX1 tyX1 tyX1_ok nmX1 h 0 rfl rfl 1 (by decide) k_163 rfl rfl rfl (Nat.le_of_ble_eq_true rfl) rfl dX1_lay_15 (fun H locs h => ?_)
  refine lv_aload_n hx hb dX1_lay_18 rfl (lv_at hl 0 rfl) ?_
  refine q_get (v := .ref a_numbers) fx inX1 h 0 rfl rfl 2 (by decide) k_165 rfl dX1_lay_19 ?_
  refine lv_lconst (v := 0) hx hb dX1_lay_22 (by decide) ?_
  obtain ⟨k1, hg, hf⟩ := bV_inv hf
  refine q_cv (rest := []) (ws' := (wX1_lay cI cJ cZ cS a_t a_numbers v_bits s1 k1)) (w1 := (wJ7_fill_d0a16 cI cJ cZ cS 40 a_numbers k1)) fx h [1] rfl rfl rfl rfl (q_runS fx h hl.1 [1] rfl rfl (tJ7_fill_d0a16 l D cI cJ cZ cS tb 40 a_numbers H.size v_numbers 0 k1 hg) msJ7_fill_d0a16 k_544 ⟨rfl, rfl⟩ ⟨Nat.le_of_ble_eq_true rfl, Nat.le_of_ble_eq_true rfl⟩ rfl rfl (Nat.le_of_ble_eq_true rfl) dX1_lay_23 ⟨Nat.le_of_ble_eq_true rfl, Nat.le_of_ble_eq_true rfl⟩) (fun H locs h => ?_)
  refine lv_aload_n hx hb dX1_lay_26 rfl (lv_at hl 0 rfl) ?_
  refine q_get (v := .int s1) fx inX1 h 0 rfl rfl 1 (by decide) k_163 rfl dX1_lay_27 ?_
  exact q_reti (fun k : Int32 × Int32 × (Nat → Int64) => (wX1_lay cI cJ cZ cS a_t a_numbers k.1 k.2.1 k.2.2)) fx hf h dX1_lay_30
def fX1_lay (v_bits : Int32) (v_size : Int32) (v_numbers : Nat → Int64) (x1 : Int32) (x2 : Int32) : Option (Int32 × Int32 × Int32 × (Nat → Int64)) :=
  (if x1 = 0 then (
  fX1_lay_15  x1 v_size v_numbers 0)
  else (
  fX1_lay_15  x1 v_size v_numbers x2))
set_option maxRecDepth 100000 in
set_option maxHeartbeats 4000000 in
theorem tX1_lay (l : Launch) (D : va_G) (cI cJ cZ cS : ClassId) (tb : Nat) (a_t a_numbers : Nat) (sz : Nat) (v_bits : Int32) (v_size : Int32) (v_numbers : Nat → Int64) (x1 : Int32) (x2 : Int32) (rr : Int32) (kk' : Int32 × Int32 × (Nat → Int64)) (hf : fX1_lay v_bits v_size v_numbers x1 x2 = some (rr, kk')) : Met l yX1_lay (Cond.code yX1_lay cX1_lay 3 (some .int) :: wA) rX1_lay (q_Pre D cI cJ cZ cS tb [.ref a_t, .int x1, .int x2] sz (wX1_lay cI cJ cZ cS a_t a_numbers v_bits v_size v_numbers)) (q_Ri D rr (va_A (wX1_lay cI cJ cZ cS a_t a_numbers v_bits v_size v_numbers) sz) ((fun k : Int32 × Int32 × (Nat → Int64) => (wX1_lay cI cJ cZ cS a_t a_numbers k.1 k.2.1 k.2.2)) kk')) 0 0 (va_A (wX1_lay cI cJ cZ cS a_t a_numbers v_bits v_size v_numbers) sz) := by
  refine q_enter (Qf := fun A => (q_Ri D rr A ((fun k : Int32 × Int32 × (Nat → Int64) => (wX1_lay cI cJ cZ cS a_t a_numbers k.1 k.2.1 k.2.2)) kk'))) (by decide) rfl (Nat.le_of_ble_eq_true rfl) ?_
  intro p e s m below meth c A ls fx hname h hl
  have hx := fx.1
  have hb := fx.2.1
  have hl : lv_has ls 3 [(0, .ref a_t), (1, .int x1), (2, .int x2)] := hl
  generalize h9 : s.heap = H at h ⊢
  clear h9
  generalize h9 : ([] : List Loc) = locs at h ⊢
  clear h9
  unfold fX1_lay at hf
  refine lv_aload_n hx hb dX1_lay_0 rfl (lv_at hl 0 rfl) ?_
  refine lv_iload_n hx hb dX1_lay_1 rfl (lv_at hl 1 rfl) ?_
  refine q_put (v := .int x1) (ws' := (wX1_lay cI cJ cZ cS a_t a_numbers x1 v_size v_numbers)) fx inX1 tyX1 tyX1_ok nmX1 h 0 rfl rfl 0 (by decide) k_161 rfl rfl rfl (Nat.le_of_ble_eq_true rfl) rfl dX1_lay_2 (fun H locs h => ?_)
  refine lv_aload_n hx hb dX1_lay_5 rfl (lv_at hl 0 rfl) ?_
  refine lv_iload_n hx hb dX1_lay_6 rfl (lv_at hl 1 rfl) ?_
  refine lv_if_ne (tgt := 14) hx hb dX1_lay_7 (by decide) (fun c2 => ?_) (fun c2 => ?_)
  · have hf := it_f c2 hf
    refine lv_iload_n hx hb dX1_lay_14 rfl (lv_at hl 2 rfl) ?_
    exact LX1_lay_15 fx h (lv_sub hl [0] rfl) hf
  have hf := it_t c2 hf
  refine lv_iconst (v := 0) hx hb dX1_lay_10 (by decide) ?_
  refine lv_goto (tgt := 15) hx hb dX1_lay_11 (by decide) ?_
  exact LX1_lay_15 fx h (lv_sub hl [0] rfl) hf
/-! X4_sheet -/
abbrev wX4_sheet (cI cJ cZ cS : ClassId) (a_t a_party a_kept a_tape a_telephone a_sheets a_sheets0 a_sheets0_numbers a_sheets1 a_sheets1_numbers a_sheets2 a_sheets2_numbers a_sheets3 a_sheets3_numbers a_findings : Nat) (v_isKept : Int32) (v_sheets0_bits : Int32) (v_sheets0_size : Int32) (v_sheets0_numbers : Nat → Int64) (v_sheets1_bits : Int32) (v_sheets1_size : Int32) (v_sheets1_numbers : Nat → Int64) (v_sheets2_bits : Int32) (v_sheets2_size : Int32) (v_sheets2_numbers : Nat → Int64) (v_sheets3_bits : Int32) (v_sheets3_size : Int32) (v_sheets3_numbers : Nat → Int64) (v_findings : Nat → Int32) : va_W := [(a_t, .inr (4, [.ref a_party, .ref a_kept, .int v_isKept, .ref a_tape, .ref a_telephone, .ref a_sheets, .ref a_findings])), (a_sheets, .inl (cS, 4, .inr (.inr (.inr (.inr (q_sh a_sheets0 a_sheets1 a_sheets2 a_sheets3)))))), (a_sheets0, .inr (1, [.int v_sheets0_bits, .int v_sheets0_size, .ref a_sheets0_numbers])), (a_sheets0_numbers, .inl (cJ, 40, .inr (.inl v_sheets0_numbers))), (a_sheets1, .inr (1, [.int v_sheets1_bits, .int v_sheets1_size, .ref a_sheets1_numbers])), (a_sheets1_numbers, .inl (cJ, 40, .inr (.inl v_sheets1_numbers))), (a_sheets2, .inr (1, [.int v_sheets2_bits, .int v_sheets2_size, .ref a_sheets2_numbers])), (a_sheets2_numbers, .inl (cJ, 40, .inr (.inl v_sheets2_numbers))), (a_sheets3, .inr (1, [.int v_sheets3_bits, .int v_sheets3_size, .ref a_sheets3_numbers])), (a_sheets3_numbers, .inl (cJ, 40, .inr (.inl v_sheets3_numbers))), (a_findings, .inl (cI, 7, .inl v_findings))]
abbrev rX4_sheet : Room := { frames := 2, cells := 0, slots := 0, locals := 46 }
def fX4_sheet_36 (v_sheets0_bits : Int32) (v_sheets0_size : Int32) (v_sheets0_numbers : Nat → Int64) (v_sheets1_bits : Int32) (v_sheets1_size : Int32) (v_sheets1_numbers : Nat → Int64) (v_sheets2_bits : Int32) (v_sheets2_size : Int32) (v_sheets2_numbers : Nat → Int64) (v_sheets3_bits : Int32) (v_sheets3_size : Int32) (v_sheets3_numbers : Nat → Int64) (v_findings : Nat → Int32) (y1 : Int32) (y2 : Int32) (y3 : Int32) : Option (Int32 × Int32 × Int32 × (Nat → Int64) × Int32 × Int32 × (Nat → Int64) × Int32 × Int32 × (Nat → Int64) × Int32 × Int32 × (Nat → Int64) × (Nat → Int32)) :=
  (if (0 : Int32) ≤ y3 then (
  (if y3 ≤ 40 then (
  sel4 y1 (
  bR (fX1_lay v_sheets0_bits v_sheets0_size v_sheets0_numbers y2 y3) (fun r4 k4 =>
  some (r4, (k4.1, k4.2.1, k4.2.2, v_sheets1_bits, v_sheets1_size, v_sheets1_numbers, v_sheets2_bits, v_sheets2_size, v_sheets2_numbers, v_sheets3_bits, v_sheets3_size, v_sheets3_numbers, v_findings))))
  (bR (fX1_lay v_sheets1_bits v_sheets1_size v_sheets1_numbers y2 y3) (fun r5 k5 =>
  some (r5, (v_sheets0_bits, v_sheets0_size, v_sheets0_numbers, k5.1, k5.2.1, k5.2.2, v_sheets2_bits, v_sheets2_size, v_sheets2_numbers, v_sheets3_bits, v_sheets3_size, v_sheets3_numbers, v_findings))))
  (bR (fX1_lay v_sheets2_bits v_sheets2_size v_sheets2_numbers y2 y3) (fun r6 k6 =>
  some (r6, (v_sheets0_bits, v_sheets0_size, v_sheets0_numbers, v_sheets1_bits, v_sheets1_size, v_sheets1_numbers, k6.1, k6.2.1, k6.2.2, v_sheets3_bits, v_sheets3_size, v_sheets3_numbers, v_findings))))
  (bR (fX1_lay v_sheets3_bits v_sheets3_size v_sheets3_numbers y2 y3) (fun r7 k7 =>
  some (r7, (v_sheets0_bits, v_sheets0_size, v_sheets0_numbers, v_sheets1_bits, v_sheets1_size, v_sheets1_numbers, v_sheets2_bits, v_sheets2_size, v_sheets2_numbers, k7.1, k7.2.1, k7.2.2, v_findings)))))
  else (
  bR (fX4_found v_findings (-1000000001)) (fun r8 k8 =>
  some (r8, (v_sheets0_bits, v_sheets0_size, v_sheets0_numbers, v_sheets1_bits, v_sheets1_size, v_sheets1_numbers, v_sheets2_bits, v_sheets2_size, v_sheets2_numbers, v_sheets3_bits, v_sheets3_size, v_sheets3_numbers, k8))))))
  else (
  bR (fX4_found v_findings (-1000000007)) (fun r9 k9 =>
  some (r9, (v_sheets0_bits, v_sheets0_size, v_sheets0_numbers, v_sheets1_bits, v_sheets1_size, v_sheets1_numbers, v_sheets2_bits, v_sheets2_size, v_sheets2_numbers, v_sheets3_bits, v_sheets3_size, v_sheets3_numbers, k9)))))
set_option maxRecDepth 100000 in
set_option maxHeartbeats 4000000 in
theorem LX4_sheet_36 {p : Program} {l : Launch} {e : Env} {s : State} {m : MethodId} {args : Array Value} {below : List Frame} {meth : Method} {c : Code} {D : va_G} {cI cJ cZ cS : ClassId} {tb : Nat} {A : Nat → Prop} {a_t a_party a_kept a_tape a_telephone a_sheets a_sheets0 a_sheets0_numbers a_sheets1 a_sheets1_numbers a_sheets2 a_sheets2_numbers a_sheets3 a_sheets3_numbers a_findings : Nat} {v_isKept : Int32} {rr : Int32} {kk' : Int32 × Int32 × (Nat → Int64) × Int32 × Int32 × (Nat → Int64) × Int32 × Int32 × (Nat → Int64) × Int32 × Int32 × (Nat → Int64) × (Nat → Int32)} (fx : q_Fx p s m args meth c cX4_sheet 4 RX4 (some .int) D cI cJ cZ cS tb A) : ∀ {v_sheets0_bits : Int32} {v_sheets0_size : Int32} {v_sheets0_numbers : Nat → Int64} {v_sheets1_bits : Int32} {v_sheets1_size : Int32} {v_sheets1_numbers : Nat → Int64} {v_sheets2_bits : Int32} {v_sheets2_size : Int32} {v_sheets2_numbers : Nat → Int64} {v_sheets3_bits : Int32} {v_sheets3_size : Int32} {v_sheets3_numbers : Nat → Int64} {v_findings : Nat → Int32} {y1 : Int32} {y2 : Int32} {y3 : Int32} {H : Heap} {locs : List Loc} {ls : Array Slot}, q_H D A s (wX4_sheet cI cJ cZ cS a_t a_party a_kept a_tape a_telephone a_sheets a_sheets0 a_sheets0_numbers a_sheets1 a_sheets1_numbers a_sheets2 a_sheets2_numbers a_sheets3 a_sheets3_numbers a_findings v_isKept v_sheets0_bits v_sheets0_size v_sheets0_numbers v_sheets1_bits v_sheets1_size v_sheets1_numbers v_sheets2_bits v_sheets2_size v_sheets2_numbers v_sheets3_bits v_sheets3_size v_sheets3_numbers v_findings) H locs → lv_has ls 4 [(0, .ref a_t), (1, .int y1), (2, .int y2), (3, .int y3)] → fX4_sheet_36 v_sheets0_bits v_sheets0_size v_sheets0_numbers v_sheets1_bits v_sheets1_size v_sheets1_numbers v_sheets2_bits v_sheets2_size v_sheets2_numbers v_sheets3_bits v_sheets3_size v_sheets3_numbers v_findings y1 y2 y3 = some (rr, kk') → W p l e rX4_sheet s m args below meth c H locs 0 0 (MQ below (q_Ri D rr A ((fun k : Int32 × Int32 × (Nat → Int64) × Int32 × Int32 × (Nat → Int64) × Int32 × Int32 × (Nat → Int64) × Int32 × Int32 × (Nat → Int64) × (Nat → Int32) => (wX4_sheet cI cJ cZ cS a_t a_party a_kept a_tape a_telephone a_sheets a_sheets0 a_sheets0_numbers a_sheets1 a_sheets1_numbers a_sheets2 a_sheets2_numbers a_sheets3 a_sheets3_numbers a_findings v_isKept k.1 k.2.1 k.2.2.1 k.2.2.2.1 k.2.2.2.2.1 k.2.2.2.2.2.1 k.2.2.2.2.2.2.1 k.2.2.2.2.2.2.2.1 k.2.2.2.2.2.2.2.2.1 k.2.2.2.2.2.2.2.2.2.1 k.2.2.2.2.2.2.2.2.2.2.1 k.2.2.2.2.2.2.2.2.2.2.2.1 k.2.2.2.2.2.2.2.2.2.2.2.2)) kk')) args s 0 0 A) (F0 m 36 ls []) := by
  intro v_sheets0_bits v_sheets0_size v_sheets0_numbers v_sheets1_bits v_sheets1_size v_sheets1_numbers v_sheets2_bits v_sheets2_size v_sheets2_numbers v_sheets3_bits v_sheets3_size v_sheets3_numbers v_findings y1 y2 y3 H locs ls h hl hf
  have hx := fx.1
  have hb := fx.2.1
  unfold fX4_sheet_36 at hf
  refine lv_iload_n hx hb dX4_sheet_36 rfl (lv_at hl 3 rfl) ?_
  refine lv_if_ge (tgt := 47) hx hb dX4_sheet_37 (by decide) (fun c1 => ?_) (fun c1 => ?_)
  · have hf := it_t c1 hf
    refine lv_iload_n hx hb dX4_sheet_47 rfl (lv_at hl 3 rfl) ?_
    refine lv_bipush (v := 40) hx hb dX4_sheet_48 (by decide) ?_
    refine lv_icmp_le (tgt := 62) hx hb dX4_sheet_50 (by decide) (fun c2 => ?_) (fun c2 => ?_)
    · have hf := it_t c2 hf
      refine lv_aload_n hx hb dX4_sheet_62 rfl (lv_at hl 0 rfl) ?_
      refine q_get (v := .ref a_sheets) fx inX4 h 0 rfl rfl 5 (by decide) k_179 rfl dX4_sheet_63 ?_
      refine lv_iload_n hx hb dX4_sheet_66 rfl (lv_at hl 1 rfl) ?_
      rcases sel4_inv hf with ⟨c3, hf⟩ | ⟨c3, hf⟩ | ⟨c3, hf⟩ | ⟨c3, hf⟩
      · refine q_aald (v := a_sheets0) fx h 1 rfl c3 (vinK (by decide)) rfl dX4_sheet_67 ?_
        refine lv_iload_n hx hb dX4_sheet_68 rfl (lv_at hl 2 rfl) ?_
        refine lv_iload_n hx hb dX4_sheet_69 rfl (lv_at hl 3 rfl) ?_
        obtain ⟨r4, k4, hg, hf⟩ := bR_inv hf
        refine q_ci (rest := []) (ws' := (wX4_sheet cI cJ cZ cS a_t a_party a_kept a_tape a_telephone a_sheets a_sheets0 a_sheets0_numbers a_sheets1 a_sheets1_numbers a_sheets2 a_sheets2_numbers a_sheets3 a_sheets3_numbers a_findings v_isKept k4.1 k4.2.1 k4.2.2 v_sheets1_bits v_sheets1_size v_sheets1_numbers v_sheets2_bits v_sheets2_size v_sheets2_numbers v_sheets3_bits v_sheets3_size v_sheets3_numbers v_findings)) (w1 := (wX1_lay cI cJ cZ cS a_sheets0 a_sheets0_numbers k4.1 k4.2.1 k4.2.2)) fx h [2, 3] rfl rfl rfl rfl (q_runV fx h hl.1 [2, 3] rfl rfl (tX1_lay l D cI cJ cZ cS tb a_sheets0 a_sheets0_numbers H.size v_sheets0_bits v_sheets0_size v_sheets0_numbers y2 y3 r4 k4 hg) mvX1_lay k_540 ⟨rfl, rfl⟩ ⟨Nat.le_of_ble_eq_true rfl, Nat.le_of_ble_eq_true rfl⟩ rfl rfl rfl rfl (Nat.le_of_ble_eq_true rfl) dX4_sheet_70 ⟨Nat.le_of_ble_eq_true rfl, Nat.le_of_ble_eq_true rfl⟩) (fun H locs h => ?_)
        exact q_reti (fun k : Int32 × Int32 × (Nat → Int64) × Int32 × Int32 × (Nat → Int64) × Int32 × Int32 × (Nat → Int64) × Int32 × Int32 × (Nat → Int64) × (Nat → Int32) => (wX4_sheet cI cJ cZ cS a_t a_party a_kept a_tape a_telephone a_sheets a_sheets0 a_sheets0_numbers a_sheets1 a_sheets1_numbers a_sheets2 a_sheets2_numbers a_sheets3 a_sheets3_numbers a_findings v_isKept k.1 k.2.1 k.2.2.1 k.2.2.2.1 k.2.2.2.2.1 k.2.2.2.2.2.1 k.2.2.2.2.2.2.1 k.2.2.2.2.2.2.2.1 k.2.2.2.2.2.2.2.2.1 k.2.2.2.2.2.2.2.2.2.1 k.2.2.2.2.2.2.2.2.2.2.1 k.2.2.2.2.2.2.2.2.2.2.2.1 k.2.2.2.2.2.2.2.2.2.2.2.2)) fx hf h dX4_sheet_73
      · refine q_aald (v := a_sheets1) fx h 1 rfl c3 (vinK (by decide)) rfl dX4_sheet_67 ?_
        refine lv_iload_n hx hb dX4_sheet_68 rfl (lv_at hl 2 rfl) ?_
        refine lv_iload_n hx hb dX4_sheet_69 rfl (lv_at hl 3 rfl) ?_
        obtain ⟨r5, k5, hg, hf⟩ := bR_inv hf
        refine q_ci (rest := []) (ws' := (wX4_sheet cI cJ cZ cS a_t a_party a_kept a_tape a_telephone a_sheets a_sheets0 a_sheets0_numbers a_sheets1 a_sheets1_numbers a_sheets2 a_sheets2_numbers a_sheets3 a_sheets3_numbers a_findings v_isKept v_sheets0_bits v_sheets0_size v_sheets0_numbers k5.1 k5.2.1 k5.2.2 v_sheets2_bits v_sheets2_size v_sheets2_numbers v_sheets3_bits v_sheets3_size v_sheets3_numbers v_findings)) (w1 := (wX1_lay cI cJ cZ cS a_sheets1 a_sheets1_numbers k5.1 k5.2.1 k5.2.2)) fx h [4, 5] rfl rfl rfl rfl (q_runV fx h hl.1 [4, 5] rfl rfl (tX1_lay l D cI cJ cZ cS tb a_sheets1 a_sheets1_numbers H.size v_sheets1_bits v_sheets1_size v_sheets1_numbers y2 y3 r5 k5 hg) mvX1_lay k_540 ⟨rfl, rfl⟩ ⟨Nat.le_of_ble_eq_true rfl, Nat.le_of_ble_eq_true rfl⟩ rfl rfl rfl rfl (Nat.le_of_ble_eq_true rfl) dX4_sheet_70 ⟨Nat.le_of_ble_eq_true rfl, Nat.le_of_ble_eq_true rfl⟩) (fun H locs h => ?_)
        exact q_reti (fun k : Int32 × Int32 × (Nat → Int64) × Int32 × Int32 × (Nat → Int64) × Int32 × Int32 × (Nat → Int64) × Int32 × Int32 × (Nat → Int64) × (Nat → Int32) => (wX4_sheet cI cJ cZ cS a_t a_party a_kept a_tape a_telephone a_sheets a_sheets0 a_sheets0_numbers a_sheets1 a_sheets1_numbers a_sheets2 a_sheets2_numbers a_sheets3 a_sheets3_numbers a_findings v_isKept k.1 k.2.1 k.2.2.1 k.2.2.2.1 k.2.2.2.2.1 k.2.2.2.2.2.1 k.2.2.2.2.2.2.1 k.2.2.2.2.2.2.2.1 k.2.2.2.2.2.2.2.2.1 k.2.2.2.2.2.2.2.2.2.1 k.2.2.2.2.2.2.2.2.2.2.1 k.2.2.2.2.2.2.2.2.2.2.2.1 k.2.2.2.2.2.2.2.2.2.2.2.2)) fx hf h dX4_sheet_73
      · refine q_aald (v := a_sheets2) fx h 1 rfl c3 (vinK (by decide)) rfl dX4_sheet_67 ?_
        refine lv_iload_n hx hb dX4_sheet_68 rfl (lv_at hl 2 rfl) ?_
        refine lv_iload_n hx hb dX4_sheet_69 rfl (lv_at hl 3 rfl) ?_
        obtain ⟨r6, k6, hg, hf⟩ := bR_inv hf
        refine q_ci (rest := []) (ws' := (wX4_sheet cI cJ cZ cS a_t a_party a_kept a_tape a_telephone a_sheets a_sheets0 a_sheets0_numbers a_sheets1 a_sheets1_numbers a_sheets2 a_sheets2_numbers a_sheets3 a_sheets3_numbers a_findings v_isKept v_sheets0_bits v_sheets0_size v_sheets0_numbers v_sheets1_bits v_sheets1_size v_sheets1_numbers k6.1 k6.2.1 k6.2.2 v_sheets3_bits v_sheets3_size v_sheets3_numbers v_findings)) (w1 := (wX1_lay cI cJ cZ cS a_sheets2 a_sheets2_numbers k6.1 k6.2.1 k6.2.2)) fx h [6, 7] rfl rfl rfl rfl (q_runV fx h hl.1 [6, 7] rfl rfl (tX1_lay l D cI cJ cZ cS tb a_sheets2 a_sheets2_numbers H.size v_sheets2_bits v_sheets2_size v_sheets2_numbers y2 y3 r6 k6 hg) mvX1_lay k_540 ⟨rfl, rfl⟩ ⟨Nat.le_of_ble_eq_true rfl, Nat.le_of_ble_eq_true rfl⟩ rfl rfl rfl rfl (Nat.le_of_ble_eq_true rfl) dX4_sheet_70 ⟨Nat.le_of_ble_eq_true rfl, Nat.le_of_ble_eq_true rfl⟩) (fun H locs h => ?_)
        exact q_reti (fun k : Int32 × Int32 × (Nat → Int64) × Int32 × Int32 × (Nat → Int64) × Int32 × Int32 × (Nat → Int64) × Int32 × Int32 × (Nat → Int64) × (Nat → Int32) => (wX4_sheet cI cJ cZ cS a_t a_party a_kept a_tape a_telephone a_sheets a_sheets0 a_sheets0_numbers a_sheets1 a_sheets1_numbers a_sheets2 a_sheets2_numbers a_sheets3 a_sheets3_numbers a_findings v_isKept k.1 k.2.1 k.2.2.1 k.2.2.2.1 k.2.2.2.2.1 k.2.2.2.2.2.1 k.2.2.2.2.2.2.1 k.2.2.2.2.2.2.2.1 k.2.2.2.2.2.2.2.2.1 k.2.2.2.2.2.2.2.2.2.1 k.2.2.2.2.2.2.2.2.2.2.1 k.2.2.2.2.2.2.2.2.2.2.2.1 k.2.2.2.2.2.2.2.2.2.2.2.2)) fx hf h dX4_sheet_73
      · refine q_aald (v := a_sheets3) fx h 1 rfl c3 (vinK (by decide)) rfl dX4_sheet_67 ?_
        refine lv_iload_n hx hb dX4_sheet_68 rfl (lv_at hl 2 rfl) ?_
        refine lv_iload_n hx hb dX4_sheet_69 rfl (lv_at hl 3 rfl) ?_
        obtain ⟨r7, k7, hg, hf⟩ := bR_inv hf
        refine q_ci (rest := []) (ws' := (wX4_sheet cI cJ cZ cS a_t a_party a_kept a_tape a_telephone a_sheets a_sheets0 a_sheets0_numbers a_sheets1 a_sheets1_numbers a_sheets2 a_sheets2_numbers a_sheets3 a_sheets3_numbers a_findings v_isKept v_sheets0_bits v_sheets0_size v_sheets0_numbers v_sheets1_bits v_sheets1_size v_sheets1_numbers v_sheets2_bits v_sheets2_size v_sheets2_numbers k7.1 k7.2.1 k7.2.2 v_findings)) (w1 := (wX1_lay cI cJ cZ cS a_sheets3 a_sheets3_numbers k7.1 k7.2.1 k7.2.2)) fx h [8, 9] rfl rfl rfl rfl (q_runV fx h hl.1 [8, 9] rfl rfl (tX1_lay l D cI cJ cZ cS tb a_sheets3 a_sheets3_numbers H.size v_sheets3_bits v_sheets3_size v_sheets3_numbers y2 y3 r7 k7 hg) mvX1_lay k_540 ⟨rfl, rfl⟩ ⟨Nat.le_of_ble_eq_true rfl, Nat.le_of_ble_eq_true rfl⟩ rfl rfl rfl rfl (Nat.le_of_ble_eq_true rfl) dX4_sheet_70 ⟨Nat.le_of_ble_eq_true rfl, Nat.le_of_ble_eq_true rfl⟩) (fun H locs h => ?_)
        exact q_reti (fun k : Int32 × Int32 × (Nat → Int64) × Int32 × Int32 × (Nat → Int64) × Int32 × Int32 × (Nat → Int64) × Int32 × Int32 × (Nat → Int64) × (Nat → Int32) => (wX4_sheet cI cJ cZ cS a_t a_party a_kept a_tape a_telephone a_sheets a_sheets0 a_sheets0_numbers a_sheets1 a_sheets1_numbers a_sheets2 a_sheets2_numbers a_sheets3 a_sheets3_numbers a_findings v_isKept k.1 k.2.1 k.2.2.1 k.2.2.2.1 k.2.2.2.2.1 k.2.2.2.2.2.1 k.2.2.2.2.2.2.1 k.2.2.2.2.2.2.2.1 k.2.2.2.2.2.2.2.2.1 k.2.2.2.2.2.2.2.2.2.1 k.2.2.2.2.2.2.2.2.2.2.1 k.2.2.2.2.2.2.2.2.2.2.2.1 k.2.2.2.2.2.2.2.2.2.2.2.2)) fx hf h dX4_sheet_73
    have hf := it_f c2 hf
    refine lv_aload_n hx hb dX4_sheet_53 rfl (lv_at hl 0 rfl) ?_
    refine q_ldc fx k_206 dX4_sheet_54 ?_
    obtain ⟨r8, k8, hg, hf⟩ := bR_inv hf
    refine q_ci (rest := []) (ws' := (wX4_sheet cI cJ cZ cS a_t a_party a_kept a_tape a_telephone a_sheets a_sheets0 a_sheets0_numbers a_sheets1 a_sheets1_numbers a_sheets2 a_sheets2_numbers a_sheets3 a_sheets3_numbers a_findings v_isKept v_sheets0_bits v_sheets0_size v_sheets0_numbers v_sheets1_bits v_sheets1_size v_sheets1_numbers v_sheets2_bits v_sheets2_size v_sheets2_numbers v_sheets3_bits v_sheets3_size v_sheets3_numbers k8)) (w1 := (wX4_found cI cJ cZ cS a_t a_party a_kept a_tape a_telephone a_sheets a_findings v_isKept k8)) fx h [0, 10] rfl rfl rfl rfl (q_runV fx h hl.1 [0, 10] rfl rfl (tX4_found l D cI cJ cZ cS tb a_t a_party a_kept a_tape a_telephone a_sheets a_findings H.size v_isKept v_findings (-1000000001) r8 k8 hg) mvX4_found k_207 ⟨rfl, rfl⟩ ⟨Nat.le_of_ble_eq_true rfl, Nat.le_of_ble_eq_true rfl⟩ rfl rfl rfl rfl (Nat.le_of_ble_eq_true rfl) dX4_sheet_56 ⟨Nat.le_of_ble_eq_true rfl, Nat.le_of_ble_eq_true rfl⟩) (fun H locs h => ?_)
    refine lv_goto (tgt := 73) hx hb dX4_sheet_59 (by decide) ?_
    exact q_reti (fun k : Int32 × Int32 × (Nat → Int64) × Int32 × Int32 × (Nat → Int64) × Int32 × Int32 × (Nat → Int64) × Int32 × Int32 × (Nat → Int64) × (Nat → Int32) => (wX4_sheet cI cJ cZ cS a_t a_party a_kept a_tape a_telephone a_sheets a_sheets0 a_sheets0_numbers a_sheets1 a_sheets1_numbers a_sheets2 a_sheets2_numbers a_sheets3 a_sheets3_numbers a_findings v_isKept k.1 k.2.1 k.2.2.1 k.2.2.2.1 k.2.2.2.2.1 k.2.2.2.2.2.1 k.2.2.2.2.2.2.1 k.2.2.2.2.2.2.2.1 k.2.2.2.2.2.2.2.2.1 k.2.2.2.2.2.2.2.2.2.1 k.2.2.2.2.2.2.2.2.2.2.1 k.2.2.2.2.2.2.2.2.2.2.2.1 k.2.2.2.2.2.2.2.2.2.2.2.2)) fx hf h dX4_sheet_73
  have hf := it_f c1 hf
  refine lv_aload_n hx hb dX4_sheet_40 rfl (lv_at hl 0 rfl) ?_
  refine q_ldc fx k_539 dX4_sheet_41 ?_
  obtain ⟨r9, k9, hg, hf⟩ := bR_inv hf
  refine q_ci (rest := []) (ws' := (wX4_sheet cI cJ cZ cS a_t a_party a_kept a_tape a_telephone a_sheets a_sheets0 a_sheets0_numbers a_sheets1 a_sheets1_numbers a_sheets2 a_sheets2_numbers a_sheets3 a_sheets3_numbers a_findings v_isKept v_sheets0_bits v_sheets0_size v_sheets0_numbers v_sheets1_bits v_sheets1_size v_sheets1_numbers v_sheets2_bits v_sheets2_size v_sheets2_numbers v_sheets3_bits v_sheets3_size v_sheets3_numbers k9)) (w1 := (wX4_found cI cJ cZ cS a_t a_party a_kept a_tape a_telephone a_sheets a_findings v_isKept k9)) fx h [0, 10] rfl rfl rfl rfl (q_runV fx h hl.1 [0, 10] rfl rfl (tX4_found l D cI cJ cZ cS tb a_t a_party a_kept a_tape a_telephone a_sheets a_findings H.size v_isKept v_findings (-1000000007) r9 k9 hg) mvX4_found k_207 ⟨rfl, rfl⟩ ⟨Nat.le_of_ble_eq_true rfl, Nat.le_of_ble_eq_true rfl⟩ rfl rfl rfl rfl (Nat.le_of_ble_eq_true rfl) dX4_sheet_43 ⟨Nat.le_of_ble_eq_true rfl, Nat.le_of_ble_eq_true rfl⟩) (fun H locs h => ?_)
  exact q_reti (fun k : Int32 × Int32 × (Nat → Int64) × Int32 × Int32 × (Nat → Int64) × Int32 × Int32 × (Nat → Int64) × Int32 × Int32 × (Nat → Int64) × (Nat → Int32) => (wX4_sheet cI cJ cZ cS a_t a_party a_kept a_tape a_telephone a_sheets a_sheets0 a_sheets0_numbers a_sheets1 a_sheets1_numbers a_sheets2 a_sheets2_numbers a_sheets3 a_sheets3_numbers a_findings v_isKept k.1 k.2.1 k.2.2.1 k.2.2.2.1 k.2.2.2.2.1 k.2.2.2.2.2.1 k.2.2.2.2.2.2.1 k.2.2.2.2.2.2.2.1 k.2.2.2.2.2.2.2.2.1 k.2.2.2.2.2.2.2.2.2.1 k.2.2.2.2.2.2.2.2.2.2.1 k.2.2.2.2.2.2.2.2.2.2.2.1 k.2.2.2.2.2.2.2.2.2.2.2.2)) fx hf h dX4_sheet_46
def fX4_sheet_29 (v_sheets0_bits : Int32) (v_sheets0_size : Int32) (v_sheets0_numbers : Nat → Int64) (v_sheets1_bits : Int32) (v_sheets1_size : Int32) (v_sheets1_numbers : Nat → Int64) (v_sheets2_bits : Int32) (v_sheets2_size : Int32) (v_sheets2_numbers : Nat → Int64) (v_sheets3_bits : Int32) (v_sheets3_size : Int32) (v_sheets3_numbers : Nat → Int64) (v_findings : Nat → Int32) : Option (Int32 × Int32 × Int32 × (Nat → Int64) × Int32 × Int32 × (Nat → Int64) × Int32 × Int32 × (Nat → Int64) × Int32 × Int32 × (Nat → Int64) × (Nat → Int32)) :=
  bR (fX4_found v_findings (-1000000001)) (fun r10 k10 =>
  some (r10, (v_sheets0_bits, v_sheets0_size, v_sheets0_numbers, v_sheets1_bits, v_sheets1_size, v_sheets1_numbers, v_sheets2_bits, v_sheets2_size, v_sheets2_numbers, v_sheets3_bits, v_sheets3_size, v_sheets3_numbers, k10)))
set_option maxRecDepth 100000 in
set_option maxHeartbeats 4000000 in
theorem LX4_sheet_29 {p : Program} {l : Launch} {e : Env} {s : State} {m : MethodId} {args : Array Value} {below : List Frame} {meth : Method} {c : Code} {D : va_G} {cI cJ cZ cS : ClassId} {tb : Nat} {A : Nat → Prop} {a_t a_party a_kept a_tape a_telephone a_sheets a_sheets0 a_sheets0_numbers a_sheets1 a_sheets1_numbers a_sheets2 a_sheets2_numbers a_sheets3 a_sheets3_numbers a_findings : Nat} {v_isKept : Int32} {rr : Int32} {kk' : Int32 × Int32 × (Nat → Int64) × Int32 × Int32 × (Nat → Int64) × Int32 × Int32 × (Nat → Int64) × Int32 × Int32 × (Nat → Int64) × (Nat → Int32)} (fx : q_Fx p s m args meth c cX4_sheet 4 RX4 (some .int) D cI cJ cZ cS tb A) : ∀ {v_sheets0_bits : Int32} {v_sheets0_size : Int32} {v_sheets0_numbers : Nat → Int64} {v_sheets1_bits : Int32} {v_sheets1_size : Int32} {v_sheets1_numbers : Nat → Int64} {v_sheets2_bits : Int32} {v_sheets2_size : Int32} {v_sheets2_numbers : Nat → Int64} {v_sheets3_bits : Int32} {v_sheets3_size : Int32} {v_sheets3_numbers : Nat → Int64} {v_findings : Nat → Int32} {H : Heap} {locs : List Loc} {ls : Array Slot}, q_H D A s (wX4_sheet cI cJ cZ cS a_t a_party a_kept a_tape a_telephone a_sheets a_sheets0 a_sheets0_numbers a_sheets1 a_sheets1_numbers a_sheets2 a_sheets2_numbers a_sheets3 a_sheets3_numbers a_findings v_isKept v_sheets0_bits v_sheets0_size v_sheets0_numbers v_sheets1_bits v_sheets1_size v_sheets1_numbers v_sheets2_bits v_sheets2_size v_sheets2_numbers v_sheets3_bits v_sheets3_size v_sheets3_numbers v_findings) H locs → lv_has ls 4 [(0, .ref a_t)] → fX4_sheet_29 v_sheets0_bits v_sheets0_size v_sheets0_numbers v_sheets1_bits v_sheets1_size v_sheets1_numbers v_sheets2_bits v_sheets2_size v_sheets2_numbers v_sheets3_bits v_sheets3_size v_sheets3_numbers v_findings = some (rr, kk') → W p l e rX4_sheet s m args below meth c H locs 0 0 (MQ below (q_Ri D rr A ((fun k : Int32 × Int32 × (Nat → Int64) × Int32 × Int32 × (Nat → Int64) × Int32 × Int32 × (Nat → Int64) × Int32 × Int32 × (Nat → Int64) × (Nat → Int32) => (wX4_sheet cI cJ cZ cS a_t a_party a_kept a_tape a_telephone a_sheets a_sheets0 a_sheets0_numbers a_sheets1 a_sheets1_numbers a_sheets2 a_sheets2_numbers a_sheets3 a_sheets3_numbers a_findings v_isKept k.1 k.2.1 k.2.2.1 k.2.2.2.1 k.2.2.2.2.1 k.2.2.2.2.2.1 k.2.2.2.2.2.2.1 k.2.2.2.2.2.2.2.1 k.2.2.2.2.2.2.2.2.1 k.2.2.2.2.2.2.2.2.2.1 k.2.2.2.2.2.2.2.2.2.2.1 k.2.2.2.2.2.2.2.2.2.2.2.1 k.2.2.2.2.2.2.2.2.2.2.2.2)) kk')) args s 0 0 A) (F0 m 29 ls []) := by
  intro v_sheets0_bits v_sheets0_size v_sheets0_numbers v_sheets1_bits v_sheets1_size v_sheets1_numbers v_sheets2_bits v_sheets2_size v_sheets2_numbers v_sheets3_bits v_sheets3_size v_sheets3_numbers v_findings H locs ls h hl hf
  have hx := fx.1
  have hb := fx.2.1
  unfold fX4_sheet_29 at hf
  refine lv_aload_n hx hb dX4_sheet_29 rfl (lv_at hl 0 rfl) ?_
  refine q_ldc fx k_206 dX4_sheet_30 ?_
  obtain ⟨r10, k10, hg, hf⟩ := bR_inv hf
  refine q_ci (rest := []) (ws' := (wX4_sheet cI cJ cZ cS a_t a_party a_kept a_tape a_telephone a_sheets a_sheets0 a_sheets0_numbers a_sheets1 a_sheets1_numbers a_sheets2 a_sheets2_numbers a_sheets3 a_sheets3_numbers a_findings v_isKept v_sheets0_bits v_sheets0_size v_sheets0_numbers v_sheets1_bits v_sheets1_size v_sheets1_numbers v_sheets2_bits v_sheets2_size v_sheets2_numbers v_sheets3_bits v_sheets3_size v_sheets3_numbers k10)) (w1 := (wX4_found cI cJ cZ cS a_t a_party a_kept a_tape a_telephone a_sheets a_findings v_isKept k10)) fx h [0, 10] rfl rfl rfl rfl (q_runV fx h hl.1 [0, 10] rfl rfl (tX4_found l D cI cJ cZ cS tb a_t a_party a_kept a_tape a_telephone a_sheets a_findings H.size v_isKept v_findings (-1000000001) r10 k10 hg) mvX4_found k_207 ⟨rfl, rfl⟩ ⟨Nat.le_of_ble_eq_true rfl, Nat.le_of_ble_eq_true rfl⟩ rfl rfl rfl rfl (Nat.le_of_ble_eq_true rfl) dX4_sheet_32 ⟨Nat.le_of_ble_eq_true rfl, Nat.le_of_ble_eq_true rfl⟩) (fun H locs h => ?_)
  exact q_reti (fun k : Int32 × Int32 × (Nat → Int64) × Int32 × Int32 × (Nat → Int64) × Int32 × Int32 × (Nat → Int64) × Int32 × Int32 × (Nat → Int64) × (Nat → Int32) => (wX4_sheet cI cJ cZ cS a_t a_party a_kept a_tape a_telephone a_sheets a_sheets0 a_sheets0_numbers a_sheets1 a_sheets1_numbers a_sheets2 a_sheets2_numbers a_sheets3 a_sheets3_numbers a_findings v_isKept k.1 k.2.1 k.2.2.1 k.2.2.2.1 k.2.2.2.2.1 k.2.2.2.2.2.1 k.2.2.2.2.2.2.1 k.2.2.2.2.2.2.2.1 k.2.2.2.2.2.2.2.2.1 k.2.2.2.2.2.2.2.2.2.1 k.2.2.2.2.2.2.2.2.2.2.1 k.2.2.2.2.2.2.2.2.2.2.2.1 k.2.2.2.2.2.2.2.2.2.2.2.2)) fx hf h dX4_sheet_35
def fX4_sheet (v_sheets0_bits : Int32) (v_sheets0_size : Int32) (v_sheets0_numbers : Nat → Int64) (v_sheets1_bits : Int32) (v_sheets1_size : Int32) (v_sheets1_numbers : Nat → Int64) (v_sheets2_bits : Int32) (v_sheets2_size : Int32) (v_sheets2_numbers : Nat → Int64) (v_sheets3_bits : Int32) (v_sheets3_size : Int32) (v_sheets3_numbers : Nat → Int64) (v_findings : Nat → Int32) (x1 : Int32) (x2 : Int32) (x3 : Int32) : Option (Int32 × Int32 × Int32 × (Nat → Int64) × Int32 × Int32 × (Nat → Int64) × Int32 × Int32 × (Nat → Int64) × Int32 × Int32 × (Nat → Int64) × (Nat → Int32)) :=
  bR (fX4_isSheet x1) (fun r11 k11 =>
  (if r11 = 0 then (
  fX4_sheet_29  v_sheets0_bits v_sheets0_size v_sheets0_numbers v_sheets1_bits v_sheets1_size v_sheets1_numbers v_sheets2_bits v_sheets2_size v_sheets2_numbers v_sheets3_bits v_sheets3_size v_sheets3_numbers v_findings)
  else (
  (if x2 = 0 then (
  fX4_sheet_36  v_sheets0_bits v_sheets0_size v_sheets0_numbers v_sheets1_bits v_sheets1_size v_sheets1_numbers v_sheets2_bits v_sheets2_size v_sheets2_numbers v_sheets3_bits v_sheets3_size v_sheets3_numbers v_findings x1 x2 x3)
  else (
  (if x2 = 8 then (
  fX4_sheet_36  v_sheets0_bits v_sheets0_size v_sheets0_numbers v_sheets1_bits v_sheets1_size v_sheets1_numbers v_sheets2_bits v_sheets2_size v_sheets2_numbers v_sheets3_bits v_sheets3_size v_sheets3_numbers v_findings x1 x2 x3)
  else (
  (if x2 = 16 then (
  fX4_sheet_36  v_sheets0_bits v_sheets0_size v_sheets0_numbers v_sheets1_bits v_sheets1_size v_sheets1_numbers v_sheets2_bits v_sheets2_size v_sheets2_numbers v_sheets3_bits v_sheets3_size v_sheets3_numbers v_findings x1 x2 x3)
  else (
  (if x2 = 64 then (
  fX4_sheet_36  v_sheets0_bits v_sheets0_size v_sheets0_numbers v_sheets1_bits v_sheets1_size v_sheets1_numbers v_sheets2_bits v_sheets2_size v_sheets2_numbers v_sheets3_bits v_sheets3_size v_sheets3_numbers v_findings x1 x2 x3)
  else (
  fX4_sheet_29  v_sheets0_bits v_sheets0_size v_sheets0_numbers v_sheets1_bits v_sheets1_size v_sheets1_numbers v_sheets2_bits v_sheets2_size v_sheets2_numbers v_sheets3_bits v_sheets3_size v_sheets3_numbers v_findings)))))))))))
set_option maxRecDepth 100000 in
set_option maxHeartbeats 4000000 in
theorem tX4_sheet (l : Launch) (D : va_G) (cI cJ cZ cS : ClassId) (tb : Nat) (a_t a_party a_kept a_tape a_telephone a_sheets a_sheets0 a_sheets0_numbers a_sheets1 a_sheets1_numbers a_sheets2 a_sheets2_numbers a_sheets3 a_sheets3_numbers a_findings : Nat) (sz : Nat) (v_isKept : Int32) (v_sheets0_bits : Int32) (v_sheets0_size : Int32) (v_sheets0_numbers : Nat → Int64) (v_sheets1_bits : Int32) (v_sheets1_size : Int32) (v_sheets1_numbers : Nat → Int64) (v_sheets2_bits : Int32) (v_sheets2_size : Int32) (v_sheets2_numbers : Nat → Int64) (v_sheets3_bits : Int32) (v_sheets3_size : Int32) (v_sheets3_numbers : Nat → Int64) (v_findings : Nat → Int32) (x1 : Int32) (x2 : Int32) (x3 : Int32) (rr : Int32) (kk' : Int32 × Int32 × (Nat → Int64) × Int32 × Int32 × (Nat → Int64) × Int32 × Int32 × (Nat → Int64) × Int32 × Int32 × (Nat → Int64) × (Nat → Int32)) (hf : fX4_sheet v_sheets0_bits v_sheets0_size v_sheets0_numbers v_sheets1_bits v_sheets1_size v_sheets1_numbers v_sheets2_bits v_sheets2_size v_sheets2_numbers v_sheets3_bits v_sheets3_size v_sheets3_numbers v_findings x1 x2 x3 = some (rr, kk')) : Met l yX4_sheet (Cond.code yX4_sheet cX4_sheet 4 (some .int) :: wA) rX4_sheet (q_Pre D cI cJ cZ cS tb [.ref a_t, .int x1, .int x2, .int x3] sz (wX4_sheet cI cJ cZ cS a_t a_party a_kept a_tape a_telephone a_sheets a_sheets0 a_sheets0_numbers a_sheets1 a_sheets1_numbers a_sheets2 a_sheets2_numbers a_sheets3 a_sheets3_numbers a_findings v_isKept v_sheets0_bits v_sheets0_size v_sheets0_numbers v_sheets1_bits v_sheets1_size v_sheets1_numbers v_sheets2_bits v_sheets2_size v_sheets2_numbers v_sheets3_bits v_sheets3_size v_sheets3_numbers v_findings)) (q_Ri D rr (va_A (wX4_sheet cI cJ cZ cS a_t a_party a_kept a_tape a_telephone a_sheets a_sheets0 a_sheets0_numbers a_sheets1 a_sheets1_numbers a_sheets2 a_sheets2_numbers a_sheets3 a_sheets3_numbers a_findings v_isKept v_sheets0_bits v_sheets0_size v_sheets0_numbers v_sheets1_bits v_sheets1_size v_sheets1_numbers v_sheets2_bits v_sheets2_size v_sheets2_numbers v_sheets3_bits v_sheets3_size v_sheets3_numbers v_findings) sz) ((fun k : Int32 × Int32 × (Nat → Int64) × Int32 × Int32 × (Nat → Int64) × Int32 × Int32 × (Nat → Int64) × Int32 × Int32 × (Nat → Int64) × (Nat → Int32) => (wX4_sheet cI cJ cZ cS a_t a_party a_kept a_tape a_telephone a_sheets a_sheets0 a_sheets0_numbers a_sheets1 a_sheets1_numbers a_sheets2 a_sheets2_numbers a_sheets3 a_sheets3_numbers a_findings v_isKept k.1 k.2.1 k.2.2.1 k.2.2.2.1 k.2.2.2.2.1 k.2.2.2.2.2.1 k.2.2.2.2.2.2.1 k.2.2.2.2.2.2.2.1 k.2.2.2.2.2.2.2.2.1 k.2.2.2.2.2.2.2.2.2.1 k.2.2.2.2.2.2.2.2.2.2.1 k.2.2.2.2.2.2.2.2.2.2.2.1 k.2.2.2.2.2.2.2.2.2.2.2.2)) kk')) 0 0 (va_A (wX4_sheet cI cJ cZ cS a_t a_party a_kept a_tape a_telephone a_sheets a_sheets0 a_sheets0_numbers a_sheets1 a_sheets1_numbers a_sheets2 a_sheets2_numbers a_sheets3 a_sheets3_numbers a_findings v_isKept v_sheets0_bits v_sheets0_size v_sheets0_numbers v_sheets1_bits v_sheets1_size v_sheets1_numbers v_sheets2_bits v_sheets2_size v_sheets2_numbers v_sheets3_bits v_sheets3_size v_sheets3_numbers v_findings) sz) := by
  refine q_enter (Qf := fun A => (q_Ri D rr A ((fun k : Int32 × Int32 × (Nat → Int64) × Int32 × Int32 × (Nat → Int64) × Int32 × Int32 × (Nat → Int64) × Int32 × Int32 × (Nat → Int64) × (Nat → Int32) => (wX4_sheet cI cJ cZ cS a_t a_party a_kept a_tape a_telephone a_sheets a_sheets0 a_sheets0_numbers a_sheets1 a_sheets1_numbers a_sheets2 a_sheets2_numbers a_sheets3 a_sheets3_numbers a_findings v_isKept k.1 k.2.1 k.2.2.1 k.2.2.2.1 k.2.2.2.2.1 k.2.2.2.2.2.1 k.2.2.2.2.2.2.1 k.2.2.2.2.2.2.2.1 k.2.2.2.2.2.2.2.2.1 k.2.2.2.2.2.2.2.2.2.1 k.2.2.2.2.2.2.2.2.2.2.1 k.2.2.2.2.2.2.2.2.2.2.2.1 k.2.2.2.2.2.2.2.2.2.2.2.2)) kk'))) (by decide) rfl (Nat.le_of_ble_eq_true rfl) ?_
  intro p e s m below meth c A ls fx hname h hl
  have hx := fx.1
  have hb := fx.2.1
  have hl : lv_has ls 4 [(0, .ref a_t), (1, .int x1), (2, .int x2), (3, .int x3)] := hl
  generalize h9 : s.heap = H at h ⊢
  clear h9
  generalize h9 : ([] : List Loc) = locs at h ⊢
  clear h9
  unfold fX4_sheet at hf
  refine lv_iload_n hx hb dX4_sheet_0 rfl (lv_at hl 1 rfl) ?_
  obtain ⟨r11, k11, hg, hf⟩ := bR_inv hf
  refine q_ci (rest := []) (ws' := (wX4_sheet cI cJ cZ cS a_t a_party a_kept a_tape a_telephone a_sheets a_sheets0 a_sheets0_numbers a_sheets1 a_sheets1_numbers a_sheets2 a_sheets2_numbers a_sheets3 a_sheets3_numbers a_findings v_isKept v_sheets0_bits v_sheets0_size v_sheets0_numbers v_sheets1_bits v_sheets1_size v_sheets1_numbers v_sheets2_bits v_sheets2_size v_sheets2_numbers v_sheets3_bits v_sheets3_size v_sheets3_numbers v_findings)) (w1 := (wX4_isSheet cI cJ cZ cS)) fx h [] rfl rfl rfl rfl (q_runS fx h hl.1 [] rfl rfl (tX4_isSheet l D cI cJ cZ cS tb H.size x1 r11 k11 hg) msX4_isSheet k_536 ⟨rfl, rfl⟩ ⟨Nat.le_of_ble_eq_true rfl, Nat.le_of_ble_eq_true rfl⟩ rfl rfl (Nat.le_of_ble_eq_true rfl) dX4_sheet_1 ⟨Nat.le_of_ble_eq_true rfl, Nat.le_of_ble_eq_true rfl⟩) (fun H locs h => ?_)
  refine lv_if_eq (tgt := 29) hx hb dX4_sheet_4 (by decide) (fun c12 => ?_) (fun c12 => ?_)
  · have hf := it_t c12 hf
    exact LX4_sheet_29 fx h (lv_sub hl [0] rfl) hf
  have hf := it_f c12 hf
  refine lv_iload_n hx hb dX4_sheet_7 rfl (lv_at hl 2 rfl) ?_
  refine lv_if_eq (tgt := 36) hx hb dX4_sheet_8 (by decide) (fun c13 => ?_) (fun c13 => ?_)
  · have hf := it_t c13 hf
    exact LX4_sheet_36 fx h (lv_sub hl [0, 1, 2, 3] rfl) hf
  have hf := it_f c13 hf
  refine lv_iload_n hx hb dX4_sheet_11 rfl (lv_at hl 2 rfl) ?_
  refine lv_bipush (v := 8) hx hb dX4_sheet_12 (by decide) ?_
  refine lv_icmp_eq (tgt := 36) hx hb dX4_sheet_14 (by decide) (fun c14 => ?_) (fun c14 => ?_)
  · have hf := it_t c14 hf
    exact LX4_sheet_36 fx h (lv_sub hl [0, 1, 2, 3] rfl) hf
  have hf := it_f c14 hf
  refine lv_iload_n hx hb dX4_sheet_17 rfl (lv_at hl 2 rfl) ?_
  refine lv_bipush (v := 16) hx hb dX4_sheet_18 (by decide) ?_
  refine lv_icmp_eq (tgt := 36) hx hb dX4_sheet_20 (by decide) (fun c15 => ?_) (fun c15 => ?_)
  · have hf := it_t c15 hf
    exact LX4_sheet_36 fx h (lv_sub hl [0, 1, 2, 3] rfl) hf
  have hf := it_f c15 hf
  refine lv_iload_n hx hb dX4_sheet_23 rfl (lv_at hl 2 rfl) ?_
  refine lv_bipush (v := 64) hx hb dX4_sheet_24 (by decide) ?_
  refine lv_icmp_eq (tgt := 36) hx hb dX4_sheet_26 (by decide) (fun c16 => ?_) (fun c16 => ?_)
  · have hf := it_t c16 hf
    exact LX4_sheet_36 fx h (lv_sub hl [0, 1, 2, 3] rfl) hf
  have hf := it_f c16 hf
  exact LX4_sheet_29 fx h (lv_sub hl [0] rfl) hf
/-! X1_isMissing -/
abbrev wX1_isMissing (cI cJ cZ cS : ClassId) (a_t a_numbers : Nat) (v_bits : Int32) (v_size : Int32) : va_W := [(a_t, .inr (1, [.int v_bits, .int v_size, .ref a_numbers]))]
abbrev rX1_isMissing : Room := { frames := 0, cells := 0, slots := 0, locals := 0 }
def fX1_isMissing (v_bits : Int32) : Option (Int32 × Unit) :=
  (if v_bits = 0 then (
  some (1, ()))
  else (
  some (0, ())))
set_option maxRecDepth 100000 in
set_option maxHeartbeats 4000000 in
theorem tX1_isMissing (l : Launch) (D : va_G) (cI cJ cZ cS : ClassId) (tb : Nat) (a_t a_numbers : Nat) (sz : Nat) (v_bits : Int32) (v_size : Int32) (rr : Int32) (kk' : Unit) (hf : fX1_isMissing v_bits = some (rr, kk')) : Met l yX1_isMissing (Cond.code yX1_isMissing cX1_isMissing 1 (some .boolean) :: wA) rX1_isMissing (q_Pre D cI cJ cZ cS tb [.ref a_t] sz (wX1_isMissing cI cJ cZ cS a_t a_numbers v_bits v_size)) (q_Ri D rr (va_A (wX1_isMissing cI cJ cZ cS a_t a_numbers v_bits v_size) sz) ((fun k : Unit => (wX1_isMissing cI cJ cZ cS a_t a_numbers v_bits v_size)) kk')) 0 0 (va_A (wX1_isMissing cI cJ cZ cS a_t a_numbers v_bits v_size) sz) := by
  refine q_enter (Qf := fun A => (q_Ri D rr A ((fun k : Unit => (wX1_isMissing cI cJ cZ cS a_t a_numbers v_bits v_size)) kk'))) (by decide) rfl (Nat.le_of_ble_eq_true rfl) ?_
  intro p e s m below meth c A ls fx hname h hl
  have hx := fx.1
  have hb := fx.2.1
  have hl : lv_has ls 1 [(0, .ref a_t)] := hl
  generalize h9 : s.heap = H at h ⊢
  clear h9
  generalize h9 : ([] : List Loc) = locs at h ⊢
  clear h9
  unfold fX1_isMissing at hf
  refine lv_aload_n hx hb dX1_isMissing_0 rfl (lv_at hl 0 rfl) ?_
  refine q_get (v := .int v_bits) fx inX1 h 0 rfl rfl 0 (by decide) k_161 rfl dX1_isMissing_1 ?_
  refine lv_if_ne (tgt := 11) hx hb dX1_isMissing_4 (by decide) (fun c1 => ?_) (fun c1 => ?_)
  · have hf := it_f c1 hf
    refine lv_iconst (v := 0) hx hb dX1_isMissing_11 (by decide) ?_
    exact q_retz (fun k : Unit => (wX1_isMissing cI cJ cZ cS a_t a_numbers v_bits v_size)) fx rfl hf h dX1_isMissing_12
  have hf := it_t c1 hf
  refine lv_iconst (v := 1) hx hb dX1_isMissing_7 (by decide) ?_
  refine lv_goto (tgt := 12) hx hb dX1_isMissing_8 (by decide) ?_
  exact q_retz (fun k : Unit => (wX1_isMissing cI cJ cZ cS a_t a_numbers v_bits v_size)) fx rfl hf h dX1_isMissing_12
end
section
/-! X4_sheetLack -/
abbrev wX4_sheetLack (cI cJ cZ cS : ClassId) (a_t a_party a_kept a_tape a_telephone a_sheets a_sheets0 a_sheets0_numbers a_sheets1 a_sheets1_numbers a_sheets2 a_sheets2_numbers a_sheets3 a_sheets3_numbers a_findings : Nat) (v_isKept : Int32) (v_sheets0_bits : Int32) (v_sheets0_size : Int32) (v_sheets1_bits : Int32) (v_sheets1_size : Int32) (v_sheets2_bits : Int32) (v_sheets2_size : Int32) (v_sheets3_bits : Int32) (v_sheets3_size : Int32) : va_W := [(a_t, .inr (4, [.ref a_party, .ref a_kept, .int v_isKept, .ref a_tape, .ref a_telephone, .ref a_sheets, .ref a_findings])), (a_sheets, .inl (cS, 4, .inr (.inr (.inr (.inr (q_sh a_sheets0 a_sheets1 a_sheets2 a_sheets3)))))), (a_sheets0, .inr (1, [.int v_sheets0_bits, .int v_sheets0_size, .ref a_sheets0_numbers])), (a_sheets1, .inr (1, [.int v_sheets1_bits, .int v_sheets1_size, .ref a_sheets1_numbers])), (a_sheets2, .inr (1, [.int v_sheets2_bits, .int v_sheets2_size, .ref a_sheets2_numbers])), (a_sheets3, .inr (1, [.int v_sheets3_bits, .int v_sheets3_size, .ref a_sheets3_numbers]))]
abbrev rX4_sheetLack : Room := { frames := 1, cells := 0, slots := 0, locals := 20 }
def fX4_sheetLack (v_sheets0_bits : Int32) (v_sheets1_bits : Int32) (v_sheets2_bits : Int32) (v_sheets3_bits : Int32) (x1 : Int32) : Option (Int32 × Unit) :=
  bR (fX4_isSheet x1) (fun r1 k1 =>
  (if r1 = 0 then (
  some ((-1000000001), ()))
  else (
  sel4 x1 (
  bR (fX1_isMissing v_sheets0_bits) (fun r4 k4 =>
  (if r4 = 0 then (
  some (0, ()))
  else (
  some ((-1000000006), ())))))
  (bR (fX1_isMissing v_sheets1_bits) (fun r6 k6 =>
  (if r6 = 0 then (
  some (0, ()))
  else (
  some ((-1000000006), ())))))
  (bR (fX1_isMissing v_sheets2_bits) (fun r8 k8 =>
  (if r8 = 0 then (
  some (0, ()))
  else (
  some ((-1000000006), ())))))
  (bR (fX1_isMissing v_sheets3_bits) (fun r10 k10 =>
  (if r10 = 0 then (
  some (0, ()))
  else (
  some ((-1000000006), ()))))))))
set_option maxRecDepth 100000 in
set_option maxHeartbeats 4000000 in
theorem tX4_sheetLack (l : Launch) (D : va_G) (cI cJ cZ cS : ClassId) (tb : Nat) (a_t a_party a_kept a_tape a_telephone a_sheets a_sheets0 a_sheets0_numbers a_sheets1 a_sheets1_numbers a_sheets2 a_sheets2_numbers a_sheets3 a_sheets3_numbers a_findings : Nat) (sz : Nat) (v_isKept : Int32) (v_sheets0_bits : Int32) (v_sheets0_size : Int32) (v_sheets1_bits : Int32) (v_sheets1_size : Int32) (v_sheets2_bits : Int32) (v_sheets2_size : Int32) (v_sheets3_bits : Int32) (v_sheets3_size : Int32) (x1 : Int32) (rr : Int32) (kk' : Unit) (hf : fX4_sheetLack v_sheets0_bits v_sheets1_bits v_sheets2_bits v_sheets3_bits x1 = some (rr, kk')) : Met l yX4_sheetLack (Cond.code yX4_sheetLack cX4_sheetLack 2 (some .int) :: wA) rX4_sheetLack (q_Pre D cI cJ cZ cS tb [.ref a_t, .int x1] sz (wX4_sheetLack cI cJ cZ cS a_t a_party a_kept a_tape a_telephone a_sheets a_sheets0 a_sheets0_numbers a_sheets1 a_sheets1_numbers a_sheets2 a_sheets2_numbers a_sheets3 a_sheets3_numbers a_findings v_isKept v_sheets0_bits v_sheets0_size v_sheets1_bits v_sheets1_size v_sheets2_bits v_sheets2_size v_sheets3_bits v_sheets3_size)) (q_Ri D rr (va_A (wX4_sheetLack cI cJ cZ cS a_t a_party a_kept a_tape a_telephone a_sheets a_sheets0 a_sheets0_numbers a_sheets1 a_sheets1_numbers a_sheets2 a_sheets2_numbers a_sheets3 a_sheets3_numbers a_findings v_isKept v_sheets0_bits v_sheets0_size v_sheets1_bits v_sheets1_size v_sheets2_bits v_sheets2_size v_sheets3_bits v_sheets3_size) sz) ((fun k : Unit => (wX4_sheetLack cI cJ cZ cS a_t a_party a_kept a_tape a_telephone a_sheets a_sheets0 a_sheets0_numbers a_sheets1 a_sheets1_numbers a_sheets2 a_sheets2_numbers a_sheets3 a_sheets3_numbers a_findings v_isKept v_sheets0_bits v_sheets0_size v_sheets1_bits v_sheets1_size v_sheets2_bits v_sheets2_size v_sheets3_bits v_sheets3_size)) kk')) 0 0 (va_A (wX4_sheetLack cI cJ cZ cS a_t a_party a_kept a_tape a_telephone a_sheets a_sheets0 a_sheets0_numbers a_sheets1 a_sheets1_numbers a_sheets2 a_sheets2_numbers a_sheets3 a_sheets3_numbers a_findings v_isKept v_sheets0_bits v_sheets0_size v_sheets1_bits v_sheets1_size v_sheets2_bits v_sheets2_size v_sheets3_bits v_sheets3_size) sz) := by
  refine q_enter (Qf := fun A => (q_Ri D rr A ((fun k : Unit => (wX4_sheetLack cI cJ cZ cS a_t a_party a_kept a_tape a_telephone a_sheets a_sheets0 a_sheets0_numbers a_sheets1 a_sheets1_numbers a_sheets2 a_sheets2_numbers a_sheets3 a_sheets3_numbers a_findings v_isKept v_sheets0_bits v_sheets0_size v_sheets1_bits v_sheets1_size v_sheets2_bits v_sheets2_size v_sheets3_bits v_sheets3_size)) kk'))) (by decide) rfl (Nat.le_of_ble_eq_true rfl) ?_
  intro p e s m below meth c A ls fx hname h hl
  have hx := fx.1
  have hb := fx.2.1
  have hl : lv_has ls 2 [(0, .ref a_t), (1, .int x1)] := hl
  generalize h9 : s.heap = H at h ⊢
  clear h9
  generalize h9 : ([] : List Loc) = locs at h ⊢
  clear h9
  unfold fX4_sheetLack at hf
  refine lv_iload_n hx hb dX4_sheetLack_0 rfl (lv_at hl 1 rfl) ?_
  obtain ⟨r1, k1, hg, hf⟩ := bR_inv hf
  refine q_ci (rest := []) (ws' := (wX4_sheetLack cI cJ cZ cS a_t a_party a_kept a_tape a_telephone a_sheets a_sheets0 a_sheets0_numbers a_sheets1 a_sheets1_numbers a_sheets2 a_sheets2_numbers a_sheets3 a_sheets3_numbers a_findings v_isKept v_sheets0_bits v_sheets0_size v_sheets1_bits v_sheets1_size v_sheets2_bits v_sheets2_size v_sheets3_bits v_sheets3_size)) (w1 := (wX4_isSheet cI cJ cZ cS)) fx h [] rfl rfl rfl rfl (q_runS fx h hl.1 [] rfl rfl (tX4_isSheet l D cI cJ cZ cS tb H.size x1 r1 k1 hg) msX4_isSheet k_536 ⟨rfl, rfl⟩ ⟨Nat.le_of_ble_eq_true rfl, Nat.le_of_ble_eq_true rfl⟩ rfl rfl (Nat.le_of_ble_eq_true rfl) dX4_sheetLack_1 ⟨Nat.le_of_ble_eq_true rfl, Nat.le_of_ble_eq_true rfl⟩) (fun H locs h => ?_)
  refine lv_if_ne (tgt := 10) hx hb dX4_sheetLack_4 (by decide) (fun c2 => ?_) (fun c2 => ?_)
  · have hf := it_f c2 hf
    refine lv_aload_n hx hb dX4_sheetLack_10 rfl (lv_at hl 0 rfl) ?_
    refine q_get (v := .ref a_sheets) fx inX4 h 0 rfl rfl 5 (by decide) k_179 rfl dX4_sheetLack_11 ?_
    refine lv_iload_n hx hb dX4_sheetLack_14 rfl (lv_at hl 1 rfl) ?_
    rcases sel4_inv hf with ⟨c3, hf⟩ | ⟨c3, hf⟩ | ⟨c3, hf⟩ | ⟨c3, hf⟩
    · refine q_aald (v := a_sheets0) fx h 1 rfl c3 (vinK (by decide)) rfl dX4_sheetLack_15 ?_
      obtain ⟨r4, k4, hg, hf⟩ := bR_inv hf
      refine q_ci (rest := []) (ws' := (wX4_sheetLack cI cJ cZ cS a_t a_party a_kept a_tape a_telephone a_sheets a_sheets0 a_sheets0_numbers a_sheets1 a_sheets1_numbers a_sheets2 a_sheets2_numbers a_sheets3 a_sheets3_numbers a_findings v_isKept v_sheets0_bits v_sheets0_size v_sheets1_bits v_sheets1_size v_sheets2_bits v_sheets2_size v_sheets3_bits v_sheets3_size)) (w1 := (wX1_isMissing cI cJ cZ cS a_sheets0 a_sheets0_numbers v_sheets0_bits v_sheets0_size)) fx h [2] rfl rfl rfl rfl (q_runV fx h hl.1 [2] rfl rfl (tX1_isMissing l D cI cJ cZ cS tb a_sheets0 a_sheets0_numbers H.size v_sheets0_bits v_sheets0_size r4 k4 hg) mvX1_isMissing k_553 ⟨rfl, rfl⟩ ⟨Nat.le_of_ble_eq_true rfl, Nat.le_of_ble_eq_true rfl⟩ rfl rfl rfl rfl (Nat.le_of_ble_eq_true rfl) dX4_sheetLack_16 ⟨Nat.le_of_ble_eq_true rfl, Nat.le_of_ble_eq_true rfl⟩) (fun H locs h => ?_)
      refine lv_if_eq (tgt := 27) hx hb dX4_sheetLack_19 (by decide) (fun c5 => ?_) (fun c5 => ?_)
      · have hf := it_t c5 hf
        refine lv_iconst (v := 0) hx hb dX4_sheetLack_27 (by decide) ?_
        exact q_reti (fun k : Unit => (wX4_sheetLack cI cJ cZ cS a_t a_party a_kept a_tape a_telephone a_sheets a_sheets0 a_sheets0_numbers a_sheets1 a_sheets1_numbers a_sheets2 a_sheets2_numbers a_sheets3 a_sheets3_numbers a_findings v_isKept v_sheets0_bits v_sheets0_size v_sheets1_bits v_sheets1_size v_sheets2_bits v_sheets2_size v_sheets3_bits v_sheets3_size)) fx hf h dX4_sheetLack_28
      have hf := it_f c5 hf
      refine q_ldc fx k_557 dX4_sheetLack_22 ?_
      refine lv_goto (tgt := 28) hx hb dX4_sheetLack_24 (by decide) ?_
      exact q_reti (fun k : Unit => (wX4_sheetLack cI cJ cZ cS a_t a_party a_kept a_tape a_telephone a_sheets a_sheets0 a_sheets0_numbers a_sheets1 a_sheets1_numbers a_sheets2 a_sheets2_numbers a_sheets3 a_sheets3_numbers a_findings v_isKept v_sheets0_bits v_sheets0_size v_sheets1_bits v_sheets1_size v_sheets2_bits v_sheets2_size v_sheets3_bits v_sheets3_size)) fx hf h dX4_sheetLack_28
    · refine q_aald (v := a_sheets1) fx h 1 rfl c3 (vinK (by decide)) rfl dX4_sheetLack_15 ?_
      obtain ⟨r6, k6, hg, hf⟩ := bR_inv hf
      refine q_ci (rest := []) (ws' := (wX4_sheetLack cI cJ cZ cS a_t a_party a_kept a_tape a_telephone a_sheets a_sheets0 a_sheets0_numbers a_sheets1 a_sheets1_numbers a_sheets2 a_sheets2_numbers a_sheets3 a_sheets3_numbers a_findings v_isKept v_sheets0_bits v_sheets0_size v_sheets1_bits v_sheets1_size v_sheets2_bits v_sheets2_size v_sheets3_bits v_sheets3_size)) (w1 := (wX1_isMissing cI cJ cZ cS a_sheets1 a_sheets1_numbers v_sheets1_bits v_sheets1_size)) fx h [3] rfl rfl rfl rfl (q_runV fx h hl.1 [3] rfl rfl (tX1_isMissing l D cI cJ cZ cS tb a_sheets1 a_sheets1_numbers H.size v_sheets1_bits v_sheets1_size r6 k6 hg) mvX1_isMissing k_553 ⟨rfl, rfl⟩ ⟨Nat.le_of_ble_eq_true rfl, Nat.le_of_ble_eq_true rfl⟩ rfl rfl rfl rfl (Nat.le_of_ble_eq_true rfl) dX4_sheetLack_16 ⟨Nat.le_of_ble_eq_true rfl, Nat.le_of_ble_eq_true rfl⟩) (fun H locs h => ?_)
      refine lv_if_eq (tgt := 27) hx hb dX4_sheetLack_19 (by decide) (fun c7 => ?_) (fun c7 => ?_)
      · have hf := it_t c7 hf
        refine lv_iconst (v := 0) hx hb dX4_sheetLack_27 (by decide) ?_
        exact q_reti (fun k : Unit => (wX4_sheetLack cI cJ cZ cS a_t a_party a_kept a_tape a_telephone a_sheets a_sheets0 a_sheets0_numbers a_sheets1 a_sheets1_numbers a_sheets2 a_sheets2_numbers a_sheets3 a_sheets3_numbers a_findings v_isKept v_sheets0_bits v_sheets0_size v_sheets1_bits v_sheets1_size v_sheets2_bits v_sheets2_size v_sheets3_bits v_sheets3_size)) fx hf h dX4_sheetLack_28
      have hf := it_f c7 hf
      refine q_ldc fx k_557 dX4_sheetLack_22 ?_
      refine lv_goto (tgt := 28) hx hb dX4_sheetLack_24 (by decide) ?_
      exact q_reti (fun k : Unit => (wX4_sheetLack cI cJ cZ cS a_t a_party a_kept a_tape a_telephone a_sheets a_sheets0 a_sheets0_numbers a_sheets1 a_sheets1_numbers a_sheets2 a_sheets2_numbers a_sheets3 a_sheets3_numbers a_findings v_isKept v_sheets0_bits v_sheets0_size v_sheets1_bits v_sheets1_size v_sheets2_bits v_sheets2_size v_sheets3_bits v_sheets3_size)) fx hf h dX4_sheetLack_28
    · refine q_aald (v := a_sheets2) fx h 1 rfl c3 (vinK (by decide)) rfl dX4_sheetLack_15 ?_
      obtain ⟨r8, k8, hg, hf⟩ := bR_inv hf
      refine q_ci (rest := []) (ws' := (wX4_sheetLack cI cJ cZ cS a_t a_party a_kept a_tape a_telephone a_sheets a_sheets0 a_sheets0_numbers a_sheets1 a_sheets1_numbers a_sheets2 a_sheets2_numbers a_sheets3 a_sheets3_numbers a_findings v_isKept v_sheets0_bits v_sheets0_size v_sheets1_bits v_sheets1_size v_sheets2_bits v_sheets2_size v_sheets3_bits v_sheets3_size)) (w1 := (wX1_isMissing cI cJ cZ cS a_sheets2 a_sheets2_numbers v_sheets2_bits v_sheets2_size)) fx h [4] rfl rfl rfl rfl (q_runV fx h hl.1 [4] rfl rfl (tX1_isMissing l D cI cJ cZ cS tb a_sheets2 a_sheets2_numbers H.size v_sheets2_bits v_sheets2_size r8 k8 hg) mvX1_isMissing k_553 ⟨rfl, rfl⟩ ⟨Nat.le_of_ble_eq_true rfl, Nat.le_of_ble_eq_true rfl⟩ rfl rfl rfl rfl (Nat.le_of_ble_eq_true rfl) dX4_sheetLack_16 ⟨Nat.le_of_ble_eq_true rfl, Nat.le_of_ble_eq_true rfl⟩) (fun H locs h => ?_)
      refine lv_if_eq (tgt := 27) hx hb dX4_sheetLack_19 (by decide) (fun c9 => ?_) (fun c9 => ?_)
      · have hf := it_t c9 hf
        refine lv_iconst (v := 0) hx hb dX4_sheetLack_27 (by decide) ?_
        exact q_reti (fun k : Unit => (wX4_sheetLack cI cJ cZ cS a_t a_party a_kept a_tape a_telephone a_sheets a_sheets0 a_sheets0_numbers a_sheets1 a_sheets1_numbers a_sheets2 a_sheets2_numbers a_sheets3 a_sheets3_numbers a_findings v_isKept v_sheets0_bits v_sheets0_size v_sheets1_bits v_sheets1_size v_sheets2_bits v_sheets2_size v_sheets3_bits v_sheets3_size)) fx hf h dX4_sheetLack_28
      have hf := it_f c9 hf
      refine q_ldc fx k_557 dX4_sheetLack_22 ?_
      refine lv_goto (tgt := 28) hx hb dX4_sheetLack_24 (by decide) ?_
      exact q_reti (fun k : Unit => (wX4_sheetLack cI cJ cZ cS a_t a_party a_kept a_tape a_telephone a_sheets a_sheets0 a_sheets0_numbers a_sheets1 a_sheets1_numbers a_sheets2 a_sheets2_numbers a_sheets3 a_sheets3_numbers a_findings v_isKept v_sheets0_bits v_sheets0_size v_sheets1_bits v_sheets1_size v_sheets2_bits v_sheets2_size v_sheets3_bits v_sheets3_size)) fx hf h dX4_sheetLack_28
    · refine q_aald (v := a_sheets3) fx h 1 rfl c3 (vinK (by decide)) rfl dX4_sheetLack_15 ?_
      obtain ⟨r10, k10, hg, hf⟩ := bR_inv hf
      refine q_ci (rest := []) (ws' := (wX4_sheetLack cI cJ cZ cS a_t a_party a_kept a_tape a_telephone a_sheets a_sheets0 a_sheets0_numbers a_sheets1 a_sheets1_numbers a_sheets2 a_sheets2_numbers a_sheets3 a_sheets3_numbers a_findings v_isKept v_sheets0_bits v_sheets0_size v_sheets1_bits v_sheets1_size v_sheets2_bits v_sheets2_size v_sheets3_bits v_sheets3_size)) (w1 := (wX1_isMissing cI cJ cZ cS a_sheets3 a_sheets3_numbers v_sheets3_bits v_sheets3_size)) fx h [5] rfl rfl rfl rfl (q_runV fx h hl.1 [5] rfl rfl (tX1_isMissing l D cI cJ cZ cS tb a_sheets3 a_sheets3_numbers H.size v_sheets3_bits v_sheets3_size r10 k10 hg) mvX1_isMissing k_553 ⟨rfl, rfl⟩ ⟨Nat.le_of_ble_eq_true rfl, Nat.le_of_ble_eq_true rfl⟩ rfl rfl rfl rfl (Nat.le_of_ble_eq_true rfl) dX4_sheetLack_16 ⟨Nat.le_of_ble_eq_true rfl, Nat.le_of_ble_eq_true rfl⟩) (fun H locs h => ?_)
      refine lv_if_eq (tgt := 27) hx hb dX4_sheetLack_19 (by decide) (fun c11 => ?_) (fun c11 => ?_)
      · have hf := it_t c11 hf
        refine lv_iconst (v := 0) hx hb dX4_sheetLack_27 (by decide) ?_
        exact q_reti (fun k : Unit => (wX4_sheetLack cI cJ cZ cS a_t a_party a_kept a_tape a_telephone a_sheets a_sheets0 a_sheets0_numbers a_sheets1 a_sheets1_numbers a_sheets2 a_sheets2_numbers a_sheets3 a_sheets3_numbers a_findings v_isKept v_sheets0_bits v_sheets0_size v_sheets1_bits v_sheets1_size v_sheets2_bits v_sheets2_size v_sheets3_bits v_sheets3_size)) fx hf h dX4_sheetLack_28
      have hf := it_f c11 hf
      refine q_ldc fx k_557 dX4_sheetLack_22 ?_
      refine lv_goto (tgt := 28) hx hb dX4_sheetLack_24 (by decide) ?_
      exact q_reti (fun k : Unit => (wX4_sheetLack cI cJ cZ cS a_t a_party a_kept a_tape a_telephone a_sheets a_sheets0 a_sheets0_numbers a_sheets1 a_sheets1_numbers a_sheets2 a_sheets2_numbers a_sheets3 a_sheets3_numbers a_findings v_isKept v_sheets0_bits v_sheets0_size v_sheets1_bits v_sheets1_size v_sheets2_bits v_sheets2_size v_sheets3_bits v_sheets3_size)) fx hf h dX4_sheetLack_28
  have hf := it_t c2 hf
  refine q_ldc fx k_206 dX4_sheetLack_7 ?_
  exact q_reti (fun k : Unit => (wX4_sheetLack cI cJ cZ cS a_t a_party a_kept a_tape a_telephone a_sheets a_sheets0 a_sheets0_numbers a_sheets1 a_sheets1_numbers a_sheets2 a_sheets2_numbers a_sheets3 a_sheets3_numbers a_findings v_isKept v_sheets0_bits v_sheets0_size v_sheets1_bits v_sheets1_size v_sheets2_bits v_sheets2_size v_sheets3_bits v_sheets3_size)) fx hf h dX4_sheetLack_9
/-! X1_put -/
abbrev wX1_put (cI cJ cZ cS : ClassId) (a_t a_numbers : Nat) (v_bits : Int32) (v_size : Int32) (v_numbers : Nat → Int64) : va_W := [(a_t, .inr (1, [.int v_bits, .int v_size, .ref a_numbers])), (a_numbers, .inl (cJ, 40, .inr (.inl v_numbers)))]
abbrev rX1_put : Room := { frames := 0, cells := 0, slots := 0, locals := 0 }
def fX1_put_46 (v_bits : Int32) (v_numbers : Nat → Int64) (s1 : Int32) (s2 : Int64) (y4 : Int64) : Option (Int64 × (Nat → Int64)) :=
  gIn s1 40 (
  some (y4, (vp_updL v_numbers s1.toNatClampNeg s2)))
set_option maxRecDepth 100000 in
set_option maxHeartbeats 4000000 in
theorem LX1_put_46 {p : Program} {l : Launch} {e : Env} {s : State} {m : MethodId} {args : Array Value} {below : List Frame} {meth : Method} {c : Code} {D : va_G} {cI cJ cZ cS : ClassId} {tb : Nat} {A : Nat → Prop} {a_t a_numbers : Nat} {v_bits : Int32} {v_size : Int32} {rr : Int64} {kk' : (Nat → Int64)} (fx : q_Fx p s m args meth c cX1_put 6 RX1 (some .long) D cI cJ cZ cS tb A) : ∀ {v_numbers : Nat → Int64} {s1 : Int32} {s2 : Int64} {y4 : Int64} {H : Heap} {locs : List Loc} {ls : Array Slot}, q_H D A s (wX1_put cI cJ cZ cS a_t a_numbers v_bits v_size v_numbers) H locs → lv_has ls 6 [(4, .long y4)] → fX1_put_46 v_bits v_numbers s1 s2 y4 = some (rr, kk') → W p l e rX1_put s m args below meth c H locs 0 0 (MQ below (q_Rl D rr A ((fun k : (Nat → Int64) => (wX1_put cI cJ cZ cS a_t a_numbers v_bits v_size k)) kk')) args s 0 0 A) (F0 m 46 ls [.long s2, .int s1, .ref a_numbers]) := by
  intro v_numbers s1 s2 y4 H locs ls h hl hf
  have hx := fx.1
  have hb := fx.2.1
  unfold fX1_put_46 at hf
  obtain ⟨i1, hf⟩ := gIn_inv hf
  refine q_last (ws' := (wX1_put cI cJ cZ cS a_t a_numbers v_bits v_size (vp_updL v_numbers s1.toNatClampNeg s2))) fx h 1 rfl i1 rfl dX1_put_46 (fun H locs h => ?_)
  refine lv_lload hx hb dX1_put_47 (lv_at hl 0 rfl) ?_
  exact q_retl (fun k : (Nat → Int64) => (wX1_put cI cJ cZ cS a_t a_numbers v_bits v_size k)) fx hf h dX1_put_49
def fX1_put (v_bits : Int32) (v_numbers : Nat → Int64) (x1 : Int32) (x2 : Int64) : Option (Int64 × (Nat → Int64)) :=
  gIn x1 40 (
  nm (v_numbers x1.toNatClampNeg) (fun u3 =>
  (if v_bits = 8 then (
  fX1_put_46 v_bits v_numbers x1 (((x2.toInt32).toInt8.toInt32).toInt64) u3)
  else (
  (if v_bits = 16 then (
  fX1_put_46 v_bits v_numbers x1 (((x2.toInt32).toInt16.toInt32).toInt64) u3)
  else (
  fX1_put_46 v_bits v_numbers x1 x2 u3))))))
set_option maxRecDepth 100000 in
set_option maxHeartbeats 4000000 in
theorem tX1_put (l : Launch) (D : va_G) (cI cJ cZ cS : ClassId) (tb : Nat) (a_t a_numbers : Nat) (sz : Nat) (v_bits : Int32) (v_size : Int32) (v_numbers : Nat → Int64) (x1 : Int32) (x2 : Int64) (rr : Int64) (kk' : (Nat → Int64)) (hf : fX1_put v_bits v_numbers x1 x2 = some (rr, kk')) : Met l yX1_put (Cond.code yX1_put cX1_put 6 (some .long) :: wA) rX1_put (q_Pre D cI cJ cZ cS tb [.ref a_t, .int x1, .long x2] sz (wX1_put cI cJ cZ cS a_t a_numbers v_bits v_size v_numbers)) (q_Rl D rr (va_A (wX1_put cI cJ cZ cS a_t a_numbers v_bits v_size v_numbers) sz) ((fun k : (Nat → Int64) => (wX1_put cI cJ cZ cS a_t a_numbers v_bits v_size k)) kk')) 0 0 (va_A (wX1_put cI cJ cZ cS a_t a_numbers v_bits v_size v_numbers) sz) := by
  refine q_enter (Qf := fun A => (q_Rl D rr A ((fun k : (Nat → Int64) => (wX1_put cI cJ cZ cS a_t a_numbers v_bits v_size k)) kk'))) (by decide) rfl (Nat.le_of_ble_eq_true rfl) ?_
  intro p e s m below meth c A ls fx hname h hl
  have hx := fx.1
  have hb := fx.2.1
  have hl : lv_has ls 6 [(0, .ref a_t), (1, .int x1), (2, .long x2)] := hl
  generalize h9 : s.heap = H at h ⊢
  clear h9
  generalize h9 : ([] : List Loc) = locs at h ⊢
  clear h9
  unfold fX1_put at hf
  refine lv_aload_n hx hb dX1_put_0 rfl (lv_at hl 0 rfl) ?_
  refine q_get (v := .ref a_numbers) fx inX1 h 0 rfl rfl 2 (by decide) k_165 rfl dX1_put_1 ?_
  refine lv_iload_n hx hb dX1_put_4 rfl (lv_at hl 1 rfl) ?_
  obtain ⟨i2, hf⟩ := gIn_inv hf
  refine q_lald fx h 1 rfl i2 dX1_put_5 ?_
  obtain ⟨u3, eu3, hf⟩ := nm_inv hf
  refine lv_eql eu3 ?_
  refine lv_lstore (lv' := [(4, .long u3), (0, .ref a_t), (1, .int x1), (2, .long x2)]) hx hb dX1_put_6 hl (by decide) rfl (fun ls hl => ?_)
  refine lv_aload_n hx hb dX1_put_8 rfl (lv_at hl 1 rfl) ?_
  refine q_get (v := .ref a_numbers) fx inX1 h 0 rfl rfl 2 (by decide) k_165 rfl dX1_put_9 ?_
  refine lv_iload_n hx hb dX1_put_12 rfl (lv_at hl 2 rfl) ?_
  refine lv_aload_n hx hb dX1_put_13 rfl (lv_at hl 1 rfl) ?_
  refine q_get (v := .int v_bits) fx inX1 h 0 rfl rfl 0 (by decide) k_161 rfl dX1_put_14 ?_
  refine lv_bipush (v := 8) hx hb dX1_put_17 (by decide) ?_
  refine lv_icmp_ne (tgt := 29) hx hb dX1_put_19 (by decide) (fun c4 => ?_) (fun c4 => ?_)
  · have hf := it_f c4 hf
    refine lv_aload_n hx hb dX1_put_29 rfl (lv_at hl 1 rfl) ?_
    refine q_get (v := .int v_bits) fx inX1 h 0 rfl rfl 0 (by decide) k_161 rfl dX1_put_30 ?_
    refine lv_bipush (v := 16) hx hb dX1_put_33 (by decide) ?_
    refine lv_icmp_ne (tgt := 45) hx hb dX1_put_35 (by decide) (fun c5 => ?_) (fun c5 => ?_)
    · have hf := it_f c5 hf
      refine lv_lload_n hx hb dX1_put_45 rfl (lv_at hl 3 rfl) ?_
      exact LX1_put_46 fx h (lv_sub hl [0] rfl) hf
    have hf := it_t c5 hf
    refine lv_lload_n hx hb dX1_put_38 rfl (lv_at hl 3 rfl) ?_
    refine lv_l2i hx hb dX1_put_39 rfl ?_
    refine lv_i2s hx hb dX1_put_40 rfl ?_
    refine lv_i2l hx hb dX1_put_41 rfl ?_
    refine lv_goto (tgt := 46) hx hb dX1_put_42 (by decide) ?_
    exact LX1_put_46 fx h (lv_sub hl [0] rfl) hf
  have hf := it_t c4 hf
  refine lv_lload_n hx hb dX1_put_22 rfl (lv_at hl 3 rfl) ?_
  refine lv_l2i hx hb dX1_put_23 rfl ?_
  refine lv_i2b hx hb dX1_put_24 rfl ?_
  refine lv_i2l hx hb dX1_put_25 rfl ?_
  refine lv_goto (tgt := 46) hx hb dX1_put_26 (by decide) ?_
  exact LX1_put_46 fx h (lv_sub hl [0] rfl) hf
/-! X4_write -/
abbrev wX4_write (cI cJ cZ cS : ClassId) (a_t a_party a_kept a_tape a_telephone a_sheets a_sheets0 a_sheets0_numbers a_sheets1 a_sheets1_numbers a_sheets2 a_sheets2_numbers a_sheets3 a_sheets3_numbers a_findings : Nat) (v_isKept : Int32) (v_sheets0_bits : Int32) (v_sheets0_size : Int32) (v_sheets0_numbers : Nat → Int64) (v_sheets1_bits : Int32) (v_sheets1_size : Int32) (v_sheets1_numbers : Nat → Int64) (v_sheets2_bits : Int32) (v_sheets2_size : Int32) (v_sheets2_numbers : Nat → Int64) (v_sheets3_bits : Int32) (v_sheets3_size : Int32) (v_sheets3_numbers : Nat → Int64) (v_findings : Nat → Int32) : va_W := [(a_t, .inr (4, [.ref a_party, .ref a_kept, .int v_isKept, .ref a_tape, .ref a_telephone, .ref a_sheets, .ref a_findings])), (a_sheets, .inl (cS, 4, .inr (.inr (.inr (.inr (q_sh a_sheets0 a_sheets1 a_sheets2 a_sheets3)))))), (a_sheets0, .inr (1, [.int v_sheets0_bits, .int v_sheets0_size, .ref a_sheets0_numbers])), (a_sheets0_numbers, .inl (cJ, 40, .inr (.inl v_sheets0_numbers))), (a_sheets1, .inr (1, [.int v_sheets1_bits, .int v_sheets1_size, .ref a_sheets1_numbers])), (a_sheets1_numbers, .inl (cJ, 40, .inr (.inl v_sheets1_numbers))), (a_sheets2, .inr (1, [.int v_sheets2_bits, .int v_sheets2_size, .ref a_sheets2_numbers])), (a_sheets2_numbers, .inl (cJ, 40, .inr (.inl v_sheets2_numbers))), (a_sheets3, .inr (1, [.int v_sheets3_bits, .int v_sheets3_size, .ref a_sheets3_numbers])), (a_sheets3_numbers, .inl (cJ, 40, .inr (.inl v_sheets3_numbers))), (a_findings, .inl (cI, 7, .inl v_findings))]
abbrev rX4_write : Room := { frames := 2, cells := 0, slots := 0, locals := 41 }
def fX4_write_37 (v_sheets0_bits : Int32) (v_sheets0_size : Int32) (v_sheets1_bits : Int32) (v_sheets1_size : Int32) (v_sheets2_bits : Int32) (v_sheets2_size : Int32) (v_sheets3_bits : Int32) (v_sheets3_size : Int32) (v_sheets0_numbers : Nat → Int64) (v_sheets1_numbers : Nat → Int64) (v_sheets2_numbers : Nat → Int64) (v_sheets3_numbers : Nat → Int64) (v_findings : Nat → Int32) : Option (Int64 × (Nat → Int64) × (Nat → Int64) × (Nat → Int64) × (Nat → Int64) × (Nat → Int32)) :=
  bR (fX4_found v_findings (-1000000001)) (fun r1 k1 =>
  some (r1.toInt64, (v_sheets0_numbers, v_sheets1_numbers, v_sheets2_numbers, v_sheets3_numbers, k1)))
set_option maxRecDepth 100000 in
set_option maxHeartbeats 4000000 in
theorem LX4_write_37 {p : Program} {l : Launch} {e : Env} {s : State} {m : MethodId} {args : Array Value} {below : List Frame} {meth : Method} {c : Code} {D : va_G} {cI cJ cZ cS : ClassId} {tb : Nat} {A : Nat → Prop} {a_t a_party a_kept a_tape a_telephone a_sheets a_sheets0 a_sheets0_numbers a_sheets1 a_sheets1_numbers a_sheets2 a_sheets2_numbers a_sheets3 a_sheets3_numbers a_findings : Nat} {v_isKept : Int32} {v_sheets0_bits : Int32} {v_sheets0_size : Int32} {v_sheets1_bits : Int32} {v_sheets1_size : Int32} {v_sheets2_bits : Int32} {v_sheets2_size : Int32} {v_sheets3_bits : Int32} {v_sheets3_size : Int32} {rr : Int64} {kk' : (Nat → Int64) × (Nat → Int64) × (Nat → Int64) × (Nat → Int64) × (Nat → Int32)} (fx : q_Fx p s m args meth c cX4_write 6 RX4 (some .long) D cI cJ cZ cS tb A) : ∀ {v_sheets0_numbers : Nat → Int64} {v_sheets1_numbers : Nat → Int64} {v_sheets2_numbers : Nat → Int64} {v_sheets3_numbers : Nat → Int64} {v_findings : Nat → Int32} {H : Heap} {locs : List Loc} {ls : Array Slot}, q_H D A s (wX4_write cI cJ cZ cS a_t a_party a_kept a_tape a_telephone a_sheets a_sheets0 a_sheets0_numbers a_sheets1 a_sheets1_numbers a_sheets2 a_sheets2_numbers a_sheets3 a_sheets3_numbers a_findings v_isKept v_sheets0_bits v_sheets0_size v_sheets0_numbers v_sheets1_bits v_sheets1_size v_sheets1_numbers v_sheets2_bits v_sheets2_size v_sheets2_numbers v_sheets3_bits v_sheets3_size v_sheets3_numbers v_findings) H locs → lv_has ls 6 [(0, .ref a_t)] → fX4_write_37 v_sheets0_bits v_sheets0_size v_sheets1_bits v_sheets1_size v_sheets2_bits v_sheets2_size v_sheets3_bits v_sheets3_size v_sheets0_numbers v_sheets1_numbers v_sheets2_numbers v_sheets3_numbers v_findings = some (rr, kk') → W p l e rX4_write s m args below meth c H locs 0 0 (MQ below (q_Rl D rr A ((fun k : (Nat → Int64) × (Nat → Int64) × (Nat → Int64) × (Nat → Int64) × (Nat → Int32) => (wX4_write cI cJ cZ cS a_t a_party a_kept a_tape a_telephone a_sheets a_sheets0 a_sheets0_numbers a_sheets1 a_sheets1_numbers a_sheets2 a_sheets2_numbers a_sheets3 a_sheets3_numbers a_findings v_isKept v_sheets0_bits v_sheets0_size k.1 v_sheets1_bits v_sheets1_size k.2.1 v_sheets2_bits v_sheets2_size k.2.2.1 v_sheets3_bits v_sheets3_size k.2.2.2.1 k.2.2.2.2)) kk')) args s 0 0 A) (F0 m 37 ls []) := by
  intro v_sheets0_numbers v_sheets1_numbers v_sheets2_numbers v_sheets3_numbers v_findings H locs ls h hl hf
  have hx := fx.1
  have hb := fx.2.1
  unfold fX4_write_37 at hf
  refine lv_aload_n hx hb dX4_write_37 rfl (lv_at hl 0 rfl) ?_
  refine q_ldc fx k_206 dX4_write_38 ?_
  obtain ⟨r1, k1, hg, hf⟩ := bR_inv hf
  refine q_ci (rest := []) (ws' := (wX4_write cI cJ cZ cS a_t a_party a_kept a_tape a_telephone a_sheets a_sheets0 a_sheets0_numbers a_sheets1 a_sheets1_numbers a_sheets2 a_sheets2_numbers a_sheets3 a_sheets3_numbers a_findings v_isKept v_sheets0_bits v_sheets0_size v_sheets0_numbers v_sheets1_bits v_sheets1_size v_sheets1_numbers v_sheets2_bits v_sheets2_size v_sheets2_numbers v_sheets3_bits v_sheets3_size v_sheets3_numbers k1)) (w1 := (wX4_found cI cJ cZ cS a_t a_party a_kept a_tape a_telephone a_sheets a_findings v_isKept k1)) fx h [0, 10] rfl rfl rfl rfl (q_runV fx h hl.1 [0, 10] rfl rfl (tX4_found l D cI cJ cZ cS tb a_t a_party a_kept a_tape a_telephone a_sheets a_findings H.size v_isKept v_findings (-1000000001) r1 k1 hg) mvX4_found k_207 ⟨rfl, rfl⟩ ⟨Nat.le_of_ble_eq_true rfl, Nat.le_of_ble_eq_true rfl⟩ rfl rfl rfl rfl (Nat.le_of_ble_eq_true rfl) dX4_write_40 ⟨Nat.le_of_ble_eq_true rfl, Nat.le_of_ble_eq_true rfl⟩) (fun H locs h => ?_)
  refine lv_i2l hx hb dX4_write_43 rfl ?_
  exact q_retl (fun k : (Nat → Int64) × (Nat → Int64) × (Nat → Int64) × (Nat → Int64) × (Nat → Int32) => (wX4_write cI cJ cZ cS a_t a_party a_kept a_tape a_telephone a_sheets a_sheets0 a_sheets0_numbers a_sheets1 a_sheets1_numbers a_sheets2 a_sheets2_numbers a_sheets3 a_sheets3_numbers a_findings v_isKept v_sheets0_bits v_sheets0_size k.1 v_sheets1_bits v_sheets1_size k.2.1 v_sheets2_bits v_sheets2_size k.2.2.1 v_sheets3_bits v_sheets3_size k.2.2.2.1 k.2.2.2.2)) fx hf h dX4_write_44
def fX4_write (v_sheets0_bits : Int32) (v_sheets0_size : Int32) (v_sheets0_numbers : Nat → Int64) (v_sheets1_bits : Int32) (v_sheets1_size : Int32) (v_sheets1_numbers : Nat → Int64) (v_sheets2_bits : Int32) (v_sheets2_size : Int32) (v_sheets2_numbers : Nat → Int64) (v_sheets3_bits : Int32) (v_sheets3_size : Int32) (v_sheets3_numbers : Nat → Int64) (v_findings : Nat → Int32) (x1 : Int32) (x2 : Int32) (x3 : Int64) : Option (Int64 × (Nat → Int64) × (Nat → Int64) × (Nat → Int64) × (Nat → Int64) × (Nat → Int32)) :=
  bR (fX4_sheetLack v_sheets0_bits v_sheets1_bits v_sheets2_bits v_sheets3_bits x1) (fun r2 k2 =>
  (if r2 = 0 then (
  (if x2 < 0 then (
  fX4_write_37 v_sheets0_bits v_sheets0_size v_sheets1_bits v_sheets1_size v_sheets2_bits v_sheets2_size v_sheets3_bits v_sheets3_size v_sheets0_numbers v_sheets1_numbers v_sheets2_numbers v_sheets3_numbers v_findings)
  else (
  sel4 x1 (
  (if x2 < v_sheets0_size then (
  bR (fX1_put v_sheets0_bits v_sheets0_numbers x2 x3) (fun r7 k7 =>
  some (r7, (k7, v_sheets1_numbers, v_sheets2_numbers, v_sheets3_numbers, v_findings))))
  else (
  fX4_write_37 v_sheets0_bits v_sheets0_size v_sheets1_bits v_sheets1_size v_sheets2_bits v_sheets2_size v_sheets3_bits v_sheets3_size v_sheets0_numbers v_sheets1_numbers v_sheets2_numbers v_sheets3_numbers v_findings)))
  ((if x2 < v_sheets1_size then (
  bR (fX1_put v_sheets1_bits v_sheets1_numbers x2 x3) (fun r9 k9 =>
  some (r9, (v_sheets0_numbers, k9, v_sheets2_numbers, v_sheets3_numbers, v_findings))))
  else (
  fX4_write_37 v_sheets0_bits v_sheets0_size v_sheets1_bits v_sheets1_size v_sheets2_bits v_sheets2_size v_sheets3_bits v_sheets3_size v_sheets0_numbers v_sheets1_numbers v_sheets2_numbers v_sheets3_numbers v_findings)))
  ((if x2 < v_sheets2_size then (
  bR (fX1_put v_sheets2_bits v_sheets2_numbers x2 x3) (fun r11 k11 =>
  some (r11, (v_sheets0_numbers, v_sheets1_numbers, k11, v_sheets3_numbers, v_findings))))
  else (
  fX4_write_37 v_sheets0_bits v_sheets0_size v_sheets1_bits v_sheets1_size v_sheets2_bits v_sheets2_size v_sheets3_bits v_sheets3_size v_sheets0_numbers v_sheets1_numbers v_sheets2_numbers v_sheets3_numbers v_findings)))
  ((if x2 < v_sheets3_size then (
  bR (fX1_put v_sheets3_bits v_sheets3_numbers x2 x3) (fun r13 k13 =>
  some (r13, (v_sheets0_numbers, v_sheets1_numbers, v_sheets2_numbers, k13, v_findings))))
  else (
  fX4_write_37 v_sheets0_bits v_sheets0_size v_sheets1_bits v_sheets1_size v_sheets2_bits v_sheets2_size v_sheets3_bits v_sheets3_size v_sheets0_numbers v_sheets1_numbers v_sheets2_numbers v_sheets3_numbers v_findings))))))
  else (
  bR (fX4_found v_findings r2) (fun r14 k14 =>
  some (r14.toInt64, (v_sheets0_numbers, v_sheets1_numbers, v_sheets2_numbers, v_sheets3_numbers, k14))))))
set_option maxRecDepth 100000 in
set_option maxHeartbeats 4000000 in
theorem tX4_write (l : Launch) (D : va_G) (cI cJ cZ cS : ClassId) (tb : Nat) (a_t a_party a_kept a_tape a_telephone a_sheets a_sheets0 a_sheets0_numbers a_sheets1 a_sheets1_numbers a_sheets2 a_sheets2_numbers a_sheets3 a_sheets3_numbers a_findings : Nat) (sz : Nat) (v_isKept : Int32) (v_sheets0_bits : Int32) (v_sheets0_size : Int32) (v_sheets0_numbers : Nat → Int64) (v_sheets1_bits : Int32) (v_sheets1_size : Int32) (v_sheets1_numbers : Nat → Int64) (v_sheets2_bits : Int32) (v_sheets2_size : Int32) (v_sheets2_numbers : Nat → Int64) (v_sheets3_bits : Int32) (v_sheets3_size : Int32) (v_sheets3_numbers : Nat → Int64) (v_findings : Nat → Int32) (x1 : Int32) (x2 : Int32) (x3 : Int64) (rr : Int64) (kk' : (Nat → Int64) × (Nat → Int64) × (Nat → Int64) × (Nat → Int64) × (Nat → Int32)) (hf : fX4_write v_sheets0_bits v_sheets0_size v_sheets0_numbers v_sheets1_bits v_sheets1_size v_sheets1_numbers v_sheets2_bits v_sheets2_size v_sheets2_numbers v_sheets3_bits v_sheets3_size v_sheets3_numbers v_findings x1 x2 x3 = some (rr, kk')) : Met l yX4_write (Cond.code yX4_write cX4_write 6 (some .long) :: wA) rX4_write (q_Pre D cI cJ cZ cS tb [.ref a_t, .int x1, .int x2, .long x3] sz (wX4_write cI cJ cZ cS a_t a_party a_kept a_tape a_telephone a_sheets a_sheets0 a_sheets0_numbers a_sheets1 a_sheets1_numbers a_sheets2 a_sheets2_numbers a_sheets3 a_sheets3_numbers a_findings v_isKept v_sheets0_bits v_sheets0_size v_sheets0_numbers v_sheets1_bits v_sheets1_size v_sheets1_numbers v_sheets2_bits v_sheets2_size v_sheets2_numbers v_sheets3_bits v_sheets3_size v_sheets3_numbers v_findings)) (q_Rl D rr (va_A (wX4_write cI cJ cZ cS a_t a_party a_kept a_tape a_telephone a_sheets a_sheets0 a_sheets0_numbers a_sheets1 a_sheets1_numbers a_sheets2 a_sheets2_numbers a_sheets3 a_sheets3_numbers a_findings v_isKept v_sheets0_bits v_sheets0_size v_sheets0_numbers v_sheets1_bits v_sheets1_size v_sheets1_numbers v_sheets2_bits v_sheets2_size v_sheets2_numbers v_sheets3_bits v_sheets3_size v_sheets3_numbers v_findings) sz) ((fun k : (Nat → Int64) × (Nat → Int64) × (Nat → Int64) × (Nat → Int64) × (Nat → Int32) => (wX4_write cI cJ cZ cS a_t a_party a_kept a_tape a_telephone a_sheets a_sheets0 a_sheets0_numbers a_sheets1 a_sheets1_numbers a_sheets2 a_sheets2_numbers a_sheets3 a_sheets3_numbers a_findings v_isKept v_sheets0_bits v_sheets0_size k.1 v_sheets1_bits v_sheets1_size k.2.1 v_sheets2_bits v_sheets2_size k.2.2.1 v_sheets3_bits v_sheets3_size k.2.2.2.1 k.2.2.2.2)) kk')) 0 0 (va_A (wX4_write cI cJ cZ cS a_t a_party a_kept a_tape a_telephone a_sheets a_sheets0 a_sheets0_numbers a_sheets1 a_sheets1_numbers a_sheets2 a_sheets2_numbers a_sheets3 a_sheets3_numbers a_findings v_isKept v_sheets0_bits v_sheets0_size v_sheets0_numbers v_sheets1_bits v_sheets1_size v_sheets1_numbers v_sheets2_bits v_sheets2_size v_sheets2_numbers v_sheets3_bits v_sheets3_size v_sheets3_numbers v_findings) sz) := by
  refine q_enter (Qf := fun A => (q_Rl D rr A ((fun k : (Nat → Int64) × (Nat → Int64) × (Nat → Int64) × (Nat → Int64) × (Nat → Int32) => (wX4_write cI cJ cZ cS a_t a_party a_kept a_tape a_telephone a_sheets a_sheets0 a_sheets0_numbers a_sheets1 a_sheets1_numbers a_sheets2 a_sheets2_numbers a_sheets3 a_sheets3_numbers a_findings v_isKept v_sheets0_bits v_sheets0_size k.1 v_sheets1_bits v_sheets1_size k.2.1 v_sheets2_bits v_sheets2_size k.2.2.1 v_sheets3_bits v_sheets3_size k.2.2.2.1 k.2.2.2.2)) kk'))) (by decide) rfl (Nat.le_of_ble_eq_true rfl) ?_
  intro p e s m below meth c A ls fx hname h hl
  have hx := fx.1
  have hb := fx.2.1
  have hl : lv_has ls 6 [(0, .ref a_t), (1, .int x1), (2, .int x2), (3, .long x3)] := hl
  generalize h9 : s.heap = H at h ⊢
  clear h9
  generalize h9 : ([] : List Loc) = locs at h ⊢
  clear h9
  unfold fX4_write at hf
  refine lv_aload_n hx hb dX4_write_0 rfl (lv_at hl 0 rfl) ?_
  refine lv_iload_n hx hb dX4_write_1 rfl (lv_at hl 1 rfl) ?_
  obtain ⟨r2, k2, hg, hf⟩ := bR_inv hf
  refine q_ci (rest := []) (ws' := (wX4_write cI cJ cZ cS a_t a_party a_kept a_tape a_telephone a_sheets a_sheets0 a_sheets0_numbers a_sheets1 a_sheets1_numbers a_sheets2 a_sheets2_numbers a_sheets3 a_sheets3_numbers a_findings v_isKept v_sheets0_bits v_sheets0_size v_sheets0_numbers v_sheets1_bits v_sheets1_size v_sheets1_numbers v_sheets2_bits v_sheets2_size v_sheets2_numbers v_sheets3_bits v_sheets3_size v_sheets3_numbers v_findings)) (w1 := (wX4_sheetLack cI cJ cZ cS a_t a_party a_kept a_tape a_telephone a_sheets a_sheets0 a_sheets0_numbers a_sheets1 a_sheets1_numbers a_sheets2 a_sheets2_numbers a_sheets3 a_sheets3_numbers a_findings v_isKept v_sheets0_bits v_sheets0_size v_sheets1_bits v_sheets1_size v_sheets2_bits v_sheets2_size v_sheets3_bits v_sheets3_size)) fx h [0, 1, 2, 4, 6, 8] rfl rfl rfl rfl (q_runV fx h hl.1 [0, 1, 2, 4, 6, 8] rfl rfl (tX4_sheetLack l D cI cJ cZ cS tb a_t a_party a_kept a_tape a_telephone a_sheets a_sheets0 a_sheets0_numbers a_sheets1 a_sheets1_numbers a_sheets2 a_sheets2_numbers a_sheets3 a_sheets3_numbers a_findings H.size v_isKept v_sheets0_bits v_sheets0_size v_sheets1_bits v_sheets1_size v_sheets2_bits v_sheets2_size v_sheets3_bits v_sheets3_size x1 r2 k2 hg) mvX4_sheetLack k_549 ⟨rfl, rfl⟩ ⟨Nat.le_of_ble_eq_true rfl, Nat.le_of_ble_eq_true rfl⟩ rfl rfl rfl rfl (Nat.le_of_ble_eq_true rfl) dX4_write_2 ⟨Nat.le_of_ble_eq_true rfl, Nat.le_of_ble_eq_true rfl⟩) (fun H locs h => ?_)
  refine lv_istore (lv' := [(5, .int r2), (0, .ref a_t), (1, .int x1), (2, .int x2), (3, .long x3)]) hx hb dX4_write_5 hl (by decide) rfl (fun ls hl => ?_)
  refine lv_iload hx hb dX4_write_7 (lv_at hl 0 rfl) ?_
  refine lv_if_eq (tgt := 20) hx hb dX4_write_9 (by decide) (fun c3 => ?_) (fun c3 => ?_)
  · have hf := it_t c3 hf
    refine lv_iload_n hx hb dX4_write_20 rfl (lv_at hl 3 rfl) ?_
    refine lv_if_lt (tgt := 37) hx hb dX4_write_21 (by decide) (fun c4 => ?_) (fun c4 => ?_)
    · have hf := it_t c4 hf
      exact LX4_write_37 fx h (lv_sub hl [1] rfl) hf
    have hf := it_f c4 hf
    refine lv_iload_n hx hb dX4_write_24 rfl (lv_at hl 3 rfl) ?_
    refine lv_aload_n hx hb dX4_write_25 rfl (lv_at hl 1 rfl) ?_
    refine q_get (v := .ref a_sheets) fx inX4 h 0 rfl rfl 5 (by decide) k_179 rfl dX4_write_26 ?_
    refine lv_iload_n hx hb dX4_write_29 rfl (lv_at hl 2 rfl) ?_
    rcases sel4_inv hf with ⟨c5, hf⟩ | ⟨c5, hf⟩ | ⟨c5, hf⟩ | ⟨c5, hf⟩
    · refine q_aald (v := a_sheets0) fx h 1 rfl c5 (vinK (by decide)) rfl dX4_write_30 ?_
      refine q_getN (v := .int v_sheets0_size) fx inX1 h 2 rfl rfl 1 (by decide) nf_10 rfl dX4_write_31 ?_
      refine lv_icmp_lt (tgt := 45) hx hb dX4_write_34 (by decide) (fun c6 => ?_) (fun c6 => ?_)
      · have hf := it_t c6 hf
        refine lv_aload_n hx hb dX4_write_45 rfl (lv_at hl 1 rfl) ?_
        refine q_get (v := .ref a_sheets) fx inX4 h 0 rfl rfl 5 (by decide) k_179 rfl dX4_write_46 ?_
        refine lv_iload_n hx hb dX4_write_49 rfl (lv_at hl 2 rfl) ?_
        refine q_aald (v := a_sheets0) fx h 1 rfl c5 (vinK (by decide)) rfl dX4_write_50 ?_
        refine lv_iload_n hx hb dX4_write_51 rfl (lv_at hl 3 rfl) ?_
        refine lv_lload_n hx hb dX4_write_52 rfl (lv_at hl 4 rfl) ?_
        obtain ⟨r7, k7, hg, hf⟩ := bR_inv hf
        refine q_cl (rest := []) (ws' := (wX4_write cI cJ cZ cS a_t a_party a_kept a_tape a_telephone a_sheets a_sheets0 a_sheets0_numbers a_sheets1 a_sheets1_numbers a_sheets2 a_sheets2_numbers a_sheets3 a_sheets3_numbers a_findings v_isKept v_sheets0_bits v_sheets0_size k7 v_sheets1_bits v_sheets1_size v_sheets1_numbers v_sheets2_bits v_sheets2_size v_sheets2_numbers v_sheets3_bits v_sheets3_size v_sheets3_numbers v_findings)) (w1 := (wX1_put cI cJ cZ cS a_sheets0 a_sheets0_numbers v_sheets0_bits v_sheets0_size k7)) fx h [2, 3] rfl rfl rfl rfl (q_runV fx h hl.1 [2, 3] rfl rfl (tX1_put l D cI cJ cZ cS tb a_sheets0 a_sheets0_numbers H.size v_sheets0_bits v_sheets0_size v_sheets0_numbers x2 x3 r7 k7 hg) mvX1_put k_558 ⟨rfl, rfl⟩ ⟨Nat.le_of_ble_eq_true rfl, Nat.le_of_ble_eq_true rfl⟩ rfl rfl rfl rfl (Nat.le_of_ble_eq_true rfl) dX4_write_53 ⟨Nat.le_of_ble_eq_true rfl, Nat.le_of_ble_eq_true rfl⟩) (fun H locs h => ?_)
        exact q_retl (fun k : (Nat → Int64) × (Nat → Int64) × (Nat → Int64) × (Nat → Int64) × (Nat → Int32) => (wX4_write cI cJ cZ cS a_t a_party a_kept a_tape a_telephone a_sheets a_sheets0 a_sheets0_numbers a_sheets1 a_sheets1_numbers a_sheets2 a_sheets2_numbers a_sheets3 a_sheets3_numbers a_findings v_isKept v_sheets0_bits v_sheets0_size k.1 v_sheets1_bits v_sheets1_size k.2.1 v_sheets2_bits v_sheets2_size k.2.2.1 v_sheets3_bits v_sheets3_size k.2.2.2.1 k.2.2.2.2)) fx hf h dX4_write_56
      have hf := it_f c6 hf
      exact LX4_write_37 fx h (lv_sub hl [1] rfl) hf
    · refine q_aald (v := a_sheets1) fx h 1 rfl c5 (vinK (by decide)) rfl dX4_write_30 ?_
      refine q_getN (v := .int v_sheets1_size) fx inX1 h 4 rfl rfl 1 (by decide) nf_10 rfl dX4_write_31 ?_
      refine lv_icmp_lt (tgt := 45) hx hb dX4_write_34 (by decide) (fun c8 => ?_) (fun c8 => ?_)
      · have hf := it_t c8 hf
        refine lv_aload_n hx hb dX4_write_45 rfl (lv_at hl 1 rfl) ?_
        refine q_get (v := .ref a_sheets) fx inX4 h 0 rfl rfl 5 (by decide) k_179 rfl dX4_write_46 ?_
        refine lv_iload_n hx hb dX4_write_49 rfl (lv_at hl 2 rfl) ?_
        refine q_aald (v := a_sheets1) fx h 1 rfl c5 (vinK (by decide)) rfl dX4_write_50 ?_
        refine lv_iload_n hx hb dX4_write_51 rfl (lv_at hl 3 rfl) ?_
        refine lv_lload_n hx hb dX4_write_52 rfl (lv_at hl 4 rfl) ?_
        obtain ⟨r9, k9, hg, hf⟩ := bR_inv hf
        refine q_cl (rest := []) (ws' := (wX4_write cI cJ cZ cS a_t a_party a_kept a_tape a_telephone a_sheets a_sheets0 a_sheets0_numbers a_sheets1 a_sheets1_numbers a_sheets2 a_sheets2_numbers a_sheets3 a_sheets3_numbers a_findings v_isKept v_sheets0_bits v_sheets0_size v_sheets0_numbers v_sheets1_bits v_sheets1_size k9 v_sheets2_bits v_sheets2_size v_sheets2_numbers v_sheets3_bits v_sheets3_size v_sheets3_numbers v_findings)) (w1 := (wX1_put cI cJ cZ cS a_sheets1 a_sheets1_numbers v_sheets1_bits v_sheets1_size k9)) fx h [4, 5] rfl rfl rfl rfl (q_runV fx h hl.1 [4, 5] rfl rfl (tX1_put l D cI cJ cZ cS tb a_sheets1 a_sheets1_numbers H.size v_sheets1_bits v_sheets1_size v_sheets1_numbers x2 x3 r9 k9 hg) mvX1_put k_558 ⟨rfl, rfl⟩ ⟨Nat.le_of_ble_eq_true rfl, Nat.le_of_ble_eq_true rfl⟩ rfl rfl rfl rfl (Nat.le_of_ble_eq_true rfl) dX4_write_53 ⟨Nat.le_of_ble_eq_true rfl, Nat.le_of_ble_eq_true rfl⟩) (fun H locs h => ?_)
        exact q_retl (fun k : (Nat → Int64) × (Nat → Int64) × (Nat → Int64) × (Nat → Int64) × (Nat → Int32) => (wX4_write cI cJ cZ cS a_t a_party a_kept a_tape a_telephone a_sheets a_sheets0 a_sheets0_numbers a_sheets1 a_sheets1_numbers a_sheets2 a_sheets2_numbers a_sheets3 a_sheets3_numbers a_findings v_isKept v_sheets0_bits v_sheets0_size k.1 v_sheets1_bits v_sheets1_size k.2.1 v_sheets2_bits v_sheets2_size k.2.2.1 v_sheets3_bits v_sheets3_size k.2.2.2.1 k.2.2.2.2)) fx hf h dX4_write_56
      have hf := it_f c8 hf
      exact LX4_write_37 fx h (lv_sub hl [1] rfl) hf
    · refine q_aald (v := a_sheets2) fx h 1 rfl c5 (vinK (by decide)) rfl dX4_write_30 ?_
      refine q_getN (v := .int v_sheets2_size) fx inX1 h 6 rfl rfl 1 (by decide) nf_10 rfl dX4_write_31 ?_
      refine lv_icmp_lt (tgt := 45) hx hb dX4_write_34 (by decide) (fun c10 => ?_) (fun c10 => ?_)
      · have hf := it_t c10 hf
        refine lv_aload_n hx hb dX4_write_45 rfl (lv_at hl 1 rfl) ?_
        refine q_get (v := .ref a_sheets) fx inX4 h 0 rfl rfl 5 (by decide) k_179 rfl dX4_write_46 ?_
        refine lv_iload_n hx hb dX4_write_49 rfl (lv_at hl 2 rfl) ?_
        refine q_aald (v := a_sheets2) fx h 1 rfl c5 (vinK (by decide)) rfl dX4_write_50 ?_
        refine lv_iload_n hx hb dX4_write_51 rfl (lv_at hl 3 rfl) ?_
        refine lv_lload_n hx hb dX4_write_52 rfl (lv_at hl 4 rfl) ?_
        obtain ⟨r11, k11, hg, hf⟩ := bR_inv hf
        refine q_cl (rest := []) (ws' := (wX4_write cI cJ cZ cS a_t a_party a_kept a_tape a_telephone a_sheets a_sheets0 a_sheets0_numbers a_sheets1 a_sheets1_numbers a_sheets2 a_sheets2_numbers a_sheets3 a_sheets3_numbers a_findings v_isKept v_sheets0_bits v_sheets0_size v_sheets0_numbers v_sheets1_bits v_sheets1_size v_sheets1_numbers v_sheets2_bits v_sheets2_size k11 v_sheets3_bits v_sheets3_size v_sheets3_numbers v_findings)) (w1 := (wX1_put cI cJ cZ cS a_sheets2 a_sheets2_numbers v_sheets2_bits v_sheets2_size k11)) fx h [6, 7] rfl rfl rfl rfl (q_runV fx h hl.1 [6, 7] rfl rfl (tX1_put l D cI cJ cZ cS tb a_sheets2 a_sheets2_numbers H.size v_sheets2_bits v_sheets2_size v_sheets2_numbers x2 x3 r11 k11 hg) mvX1_put k_558 ⟨rfl, rfl⟩ ⟨Nat.le_of_ble_eq_true rfl, Nat.le_of_ble_eq_true rfl⟩ rfl rfl rfl rfl (Nat.le_of_ble_eq_true rfl) dX4_write_53 ⟨Nat.le_of_ble_eq_true rfl, Nat.le_of_ble_eq_true rfl⟩) (fun H locs h => ?_)
        exact q_retl (fun k : (Nat → Int64) × (Nat → Int64) × (Nat → Int64) × (Nat → Int64) × (Nat → Int32) => (wX4_write cI cJ cZ cS a_t a_party a_kept a_tape a_telephone a_sheets a_sheets0 a_sheets0_numbers a_sheets1 a_sheets1_numbers a_sheets2 a_sheets2_numbers a_sheets3 a_sheets3_numbers a_findings v_isKept v_sheets0_bits v_sheets0_size k.1 v_sheets1_bits v_sheets1_size k.2.1 v_sheets2_bits v_sheets2_size k.2.2.1 v_sheets3_bits v_sheets3_size k.2.2.2.1 k.2.2.2.2)) fx hf h dX4_write_56
      have hf := it_f c10 hf
      exact LX4_write_37 fx h (lv_sub hl [1] rfl) hf
    · refine q_aald (v := a_sheets3) fx h 1 rfl c5 (vinK (by decide)) rfl dX4_write_30 ?_
      refine q_getN (v := .int v_sheets3_size) fx inX1 h 8 rfl rfl 1 (by decide) nf_10 rfl dX4_write_31 ?_
      refine lv_icmp_lt (tgt := 45) hx hb dX4_write_34 (by decide) (fun c12 => ?_) (fun c12 => ?_)
      · have hf := it_t c12 hf
        refine lv_aload_n hx hb dX4_write_45 rfl (lv_at hl 1 rfl) ?_
        refine q_get (v := .ref a_sheets) fx inX4 h 0 rfl rfl 5 (by decide) k_179 rfl dX4_write_46 ?_
        refine lv_iload_n hx hb dX4_write_49 rfl (lv_at hl 2 rfl) ?_
        refine q_aald (v := a_sheets3) fx h 1 rfl c5 (vinK (by decide)) rfl dX4_write_50 ?_
        refine lv_iload_n hx hb dX4_write_51 rfl (lv_at hl 3 rfl) ?_
        refine lv_lload_n hx hb dX4_write_52 rfl (lv_at hl 4 rfl) ?_
        obtain ⟨r13, k13, hg, hf⟩ := bR_inv hf
        refine q_cl (rest := []) (ws' := (wX4_write cI cJ cZ cS a_t a_party a_kept a_tape a_telephone a_sheets a_sheets0 a_sheets0_numbers a_sheets1 a_sheets1_numbers a_sheets2 a_sheets2_numbers a_sheets3 a_sheets3_numbers a_findings v_isKept v_sheets0_bits v_sheets0_size v_sheets0_numbers v_sheets1_bits v_sheets1_size v_sheets1_numbers v_sheets2_bits v_sheets2_size v_sheets2_numbers v_sheets3_bits v_sheets3_size k13 v_findings)) (w1 := (wX1_put cI cJ cZ cS a_sheets3 a_sheets3_numbers v_sheets3_bits v_sheets3_size k13)) fx h [8, 9] rfl rfl rfl rfl (q_runV fx h hl.1 [8, 9] rfl rfl (tX1_put l D cI cJ cZ cS tb a_sheets3 a_sheets3_numbers H.size v_sheets3_bits v_sheets3_size v_sheets3_numbers x2 x3 r13 k13 hg) mvX1_put k_558 ⟨rfl, rfl⟩ ⟨Nat.le_of_ble_eq_true rfl, Nat.le_of_ble_eq_true rfl⟩ rfl rfl rfl rfl (Nat.le_of_ble_eq_true rfl) dX4_write_53 ⟨Nat.le_of_ble_eq_true rfl, Nat.le_of_ble_eq_true rfl⟩) (fun H locs h => ?_)
        exact q_retl (fun k : (Nat → Int64) × (Nat → Int64) × (Nat → Int64) × (Nat → Int64) × (Nat → Int32) => (wX4_write cI cJ cZ cS a_t a_party a_kept a_tape a_telephone a_sheets a_sheets0 a_sheets0_numbers a_sheets1 a_sheets1_numbers a_sheets2 a_sheets2_numbers a_sheets3 a_sheets3_numbers a_findings v_isKept v_sheets0_bits v_sheets0_size k.1 v_sheets1_bits v_sheets1_size k.2.1 v_sheets2_bits v_sheets2_size k.2.2.1 v_sheets3_bits v_sheets3_size k.2.2.2.1 k.2.2.2.2)) fx hf h dX4_write_56
      have hf := it_f c12 hf
      exact LX4_write_37 fx h (lv_sub hl [1] rfl) hf
  have hf := it_f c3 hf
  refine lv_aload_n hx hb dX4_write_12 rfl (lv_at hl 1 rfl) ?_
  refine lv_iload hx hb dX4_write_13 (lv_at hl 0 rfl) ?_
  obtain ⟨r14, k14, hg, hf⟩ := bR_inv hf
  refine q_ci (rest := []) (ws' := (wX4_write cI cJ cZ cS a_t a_party a_kept a_tape a_telephone a_sheets a_sheets0 a_sheets0_numbers a_sheets1 a_sheets1_numbers a_sheets2 a_sheets2_numbers a_sheets3 a_sheets3_numbers a_findings v_isKept v_sheets0_bits v_sheets0_size v_sheets0_numbers v_sheets1_bits v_sheets1_size v_sheets1_numbers v_sheets2_bits v_sheets2_size v_sheets2_numbers v_sheets3_bits v_sheets3_size v_sheets3_numbers k14)) (w1 := (wX4_found cI cJ cZ cS a_t a_party a_kept a_tape a_telephone a_sheets a_findings v_isKept k14)) fx h [0, 10] rfl rfl rfl rfl (q_runV fx h hl.1 [0, 10] rfl rfl (tX4_found l D cI cJ cZ cS tb a_t a_party a_kept a_tape a_telephone a_sheets a_findings H.size v_isKept v_findings r2 r14 k14 hg) mvX4_found k_207 ⟨rfl, rfl⟩ ⟨Nat.le_of_ble_eq_true rfl, Nat.le_of_ble_eq_true rfl⟩ rfl rfl rfl rfl (Nat.le_of_ble_eq_true rfl) dX4_write_15 ⟨Nat.le_of_ble_eq_true rfl, Nat.le_of_ble_eq_true rfl⟩) (fun H locs h => ?_)
  refine lv_i2l hx hb dX4_write_18 rfl ?_
  exact q_retl (fun k : (Nat → Int64) × (Nat → Int64) × (Nat → Int64) × (Nat → Int64) × (Nat → Int32) => (wX4_write cI cJ cZ cS a_t a_party a_kept a_tape a_telephone a_sheets a_sheets0 a_sheets0_numbers a_sheets1 a_sheets1_numbers a_sheets2 a_sheets2_numbers a_sheets3 a_sheets3_numbers a_findings v_isKept v_sheets0_bits v_sheets0_size k.1 v_sheets1_bits v_sheets1_size k.2.1 v_sheets2_bits v_sheets2_size k.2.2.1 v_sheets3_bits v_sheets3_size k.2.2.2.1 k.2.2.2.2)) fx hf h dX4_write_19
/-! X1_hasRun -/
abbrev wX1_hasRun (cI cJ cZ cS : ClassId) (a_t a_numbers : Nat) (v_bits : Int32) (v_size : Int32) : va_W := [(a_t, .inr (1, [.int v_bits, .int v_size, .ref a_numbers]))]
abbrev rX1_hasRun : Room := { frames := 0, cells := 0, slots := 0, locals := 0 }
def fX1_hasRun (v_size : Int32) (x1 : Int32) (x2 : Int32) : Option (Int32 × Unit) :=
  (if x1 < 0 then (
  some (0, ()))
  else (
  (if x2 < 0 then (
  some (0, ()))
  else (
  (if v_size < x2 then (
  some (0, ()))
  else (
  (if (v_size - x2) < x1 then (
  some (0, ()))
  else (
  some (1, ())))))))))
set_option maxRecDepth 100000 in
set_option maxHeartbeats 4000000 in
theorem tX1_hasRun (l : Launch) (D : va_G) (cI cJ cZ cS : ClassId) (tb : Nat) (a_t a_numbers : Nat) (sz : Nat) (v_bits : Int32) (v_size : Int32) (x1 : Int32) (x2 : Int32) (rr : Int32) (kk' : Unit) (hf : fX1_hasRun v_size x1 x2 = some (rr, kk')) : Met l yX1_hasRun (Cond.code yX1_hasRun cX1_hasRun 3 (some .boolean) :: wA) rX1_hasRun (q_Pre D cI cJ cZ cS tb [.ref a_t, .int x1, .int x2] sz (wX1_hasRun cI cJ cZ cS a_t a_numbers v_bits v_size)) (q_Ri D rr (va_A (wX1_hasRun cI cJ cZ cS a_t a_numbers v_bits v_size) sz) ((fun k : Unit => (wX1_hasRun cI cJ cZ cS a_t a_numbers v_bits v_size)) kk')) 0 0 (va_A (wX1_hasRun cI cJ cZ cS a_t a_numbers v_bits v_size) sz) := by
  refine q_enter (Qf := fun A => (q_Ri D rr A ((fun k : Unit => (wX1_hasRun cI cJ cZ cS a_t a_numbers v_bits v_size)) kk'))) (by decide) rfl (Nat.le_of_ble_eq_true rfl) ?_
  intro p e s m below meth c A ls fx hname h hl
  have hx := fx.1
  have hb := fx.2.1
  have hl : lv_has ls 3 [(0, .ref a_t), (1, .int x1), (2, .int x2)] := hl
  generalize h9 : s.heap = H at h ⊢
  clear h9
  generalize h9 : ([] : List Loc) = locs at h ⊢
  clear h9
  unfold fX1_hasRun at hf
  refine lv_iload_n hx hb dX1_hasRun_0 rfl (lv_at hl 1 rfl) ?_
  refine lv_if_lt (tgt := 30) hx hb dX1_hasRun_1 (by decide) (fun c1 => ?_) (fun c1 => ?_)
  · have hf := it_t c1 hf
    refine lv_iconst (v := 0) hx hb dX1_hasRun_30 (by decide) ?_
    exact q_retz (fun k : Unit => (wX1_hasRun cI cJ cZ cS a_t a_numbers v_bits v_size)) fx rfl hf h dX1_hasRun_31
  have hf := it_f c1 hf
  refine lv_iload_n hx hb dX1_hasRun_4 rfl (lv_at hl 2 rfl) ?_
  refine lv_if_lt (tgt := 30) hx hb dX1_hasRun_5 (by decide) (fun c2 => ?_) (fun c2 => ?_)
  · have hf := it_t c2 hf
    refine lv_iconst (v := 0) hx hb dX1_hasRun_30 (by decide) ?_
    exact q_retz (fun k : Unit => (wX1_hasRun cI cJ cZ cS a_t a_numbers v_bits v_size)) fx rfl hf h dX1_hasRun_31
  have hf := it_f c2 hf
  refine lv_iload_n hx hb dX1_hasRun_8 rfl (lv_at hl 2 rfl) ?_
  refine lv_aload_n hx hb dX1_hasRun_9 rfl (lv_at hl 0 rfl) ?_
  refine q_get (v := .int v_size) fx inX1 h 0 rfl rfl 1 (by decide) k_163 rfl dX1_hasRun_10 ?_
  refine lv_icmp_gt (tgt := 30) hx hb dX1_hasRun_13 (by decide) (fun c3 => ?_) (fun c3 => ?_)
  · have hf := it_t c3 hf
    refine lv_iconst (v := 0) hx hb dX1_hasRun_30 (by decide) ?_
    exact q_retz (fun k : Unit => (wX1_hasRun cI cJ cZ cS a_t a_numbers v_bits v_size)) fx rfl hf h dX1_hasRun_31
  have hf := it_f c3 hf
  refine lv_iload_n hx hb dX1_hasRun_16 rfl (lv_at hl 1 rfl) ?_
  refine lv_aload_n hx hb dX1_hasRun_17 rfl (lv_at hl 0 rfl) ?_
  refine q_get (v := .int v_size) fx inX1 h 0 rfl rfl 1 (by decide) k_163 rfl dX1_hasRun_18 ?_
  refine lv_iload_n hx hb dX1_hasRun_21 rfl (lv_at hl 2 rfl) ?_
  refine lv_isub hx hb dX1_hasRun_22 ?_
  refine lv_icmp_gt (tgt := 30) hx hb dX1_hasRun_23 (by decide) (fun c4 => ?_) (fun c4 => ?_)
  · have hf := it_t c4 hf
    refine lv_iconst (v := 0) hx hb dX1_hasRun_30 (by decide) ?_
    exact q_retz (fun k : Unit => (wX1_hasRun cI cJ cZ cS a_t a_numbers v_bits v_size)) fx rfl hf h dX1_hasRun_31
  have hf := it_f c4 hf
  refine lv_iconst (v := 1) hx hb dX1_hasRun_26 (by decide) ?_
  refine lv_goto (tgt := 31) hx hb dX1_hasRun_27 (by decide) ?_
  exact q_retz (fun k : Unit => (wX1_hasRun cI cJ cZ cS a_t a_numbers v_bits v_size)) fx rfl hf h dX1_hasRun_31
end
section
/-! X4_copy -/
abbrev wX4_copy (cI cJ cZ cS : ClassId) (a_t a_party a_kept a_tape a_telephone a_sheets a_sheets0 a_sheets0_numbers a_sheets1 a_sheets1_numbers a_sheets2 a_sheets2_numbers a_sheets3 a_sheets3_numbers a_findings : Nat) (v_isKept : Int32) (v_sheets0_bits : Int32) (v_sheets0_size : Int32) (v_sheets0_numbers : Nat → Int64) (v_sheets1_bits : Int32) (v_sheets1_size : Int32) (v_sheets1_numbers : Nat → Int64) (v_sheets2_bits : Int32) (v_sheets2_size : Int32) (v_sheets2_numbers : Nat → Int64) (v_sheets3_bits : Int32) (v_sheets3_size : Int32) (v_sheets3_numbers : Nat → Int64) (v_findings : Nat → Int32) : va_W := [(a_t, .inr (4, [.ref a_party, .ref a_kept, .int v_isKept, .ref a_tape, .ref a_telephone, .ref a_sheets, .ref a_findings])), (a_sheets, .inl (cS, 4, .inr (.inr (.inr (.inr (q_sh a_sheets0 a_sheets1 a_sheets2 a_sheets3)))))), (a_sheets0, .inr (1, [.int v_sheets0_bits, .int v_sheets0_size, .ref a_sheets0_numbers])), (a_sheets0_numbers, .inl (cJ, 40, .inr (.inl v_sheets0_numbers))), (a_sheets1, .inr (1, [.int v_sheets1_bits, .int v_sheets1_size, .ref a_sheets1_numbers])), (a_sheets1_numbers, .inl (cJ, 40, .inr (.inl v_sheets1_numbers))), (a_sheets2, .inr (1, [.int v_sheets2_bits, .int v_sheets2_size, .ref a_sheets2_numbers])), (a_sheets2_numbers, .inl (cJ, 40, .inr (.inl v_sheets2_numbers))), (a_sheets3, .inr (1, [.int v_sheets3_bits, .int v_sheets3_size, .ref a_sheets3_numbers])), (a_sheets3_numbers, .inl (cJ, 40, .inr (.inl v_sheets3_numbers))), (a_findings, .inl (cI, 7, .inl v_findings))]
abbrev rX4_copy : Room := { frames := 1, cells := 0, slots := 0, locals := 30 }
def fX4_copy_111 (v_sheets0_bits : Int32) (v_sheets0_size : Int32) (v_sheets1_bits : Int32) (v_sheets1_size : Int32) (v_sheets2_bits : Int32) (v_sheets2_size : Int32) (v_sheets3_bits : Int32) (v_sheets3_size : Int32) (v_sheets0_numbers : Nat → Int64) (v_sheets1_numbers : Nat → Int64) (v_sheets2_numbers : Nat → Int64) (v_sheets3_numbers : Nat → Int64) (v_findings : Nat → Int32) : Option (Int32 × (Nat → Int64) × (Nat → Int64) × (Nat → Int64) × (Nat → Int64) × (Nat → Int32)) :=
  bR (fX4_found v_findings (-1000000001)) (fun r1 k1 =>
  some (r1, (v_sheets0_numbers, v_sheets1_numbers, v_sheets2_numbers, v_sheets3_numbers, k1)))
set_option maxRecDepth 100000 in
set_option maxHeartbeats 4000000 in
theorem LX4_copy_111 {p : Program} {l : Launch} {e : Env} {s : State} {m : MethodId} {args : Array Value} {below : List Frame} {meth : Method} {c : Code} {D : va_G} {cI cJ cZ cS : ClassId} {tb : Nat} {A : Nat → Prop} {a_t a_party a_kept a_tape a_telephone a_sheets a_sheets0 a_sheets0_numbers a_sheets1 a_sheets1_numbers a_sheets2 a_sheets2_numbers a_sheets3 a_sheets3_numbers a_findings : Nat} {v_isKept : Int32} {v_sheets0_bits : Int32} {v_sheets0_size : Int32} {v_sheets1_bits : Int32} {v_sheets1_size : Int32} {v_sheets2_bits : Int32} {v_sheets2_size : Int32} {v_sheets3_bits : Int32} {v_sheets3_size : Int32} {rr : Int32} {kk' : (Nat → Int64) × (Nat → Int64) × (Nat → Int64) × (Nat → Int64) × (Nat → Int32)} (fx : q_Fx p s m args meth c cX4_copy 6 RX4 (some .int) D cI cJ cZ cS tb A) : ∀ {v_sheets0_numbers : Nat → Int64} {v_sheets1_numbers : Nat → Int64} {v_sheets2_numbers : Nat → Int64} {v_sheets3_numbers : Nat → Int64} {v_findings : Nat → Int32} {H : Heap} {locs : List Loc} {ls : Array Slot}, q_H D A s (wX4_copy cI cJ cZ cS a_t a_party a_kept a_tape a_telephone a_sheets a_sheets0 a_sheets0_numbers a_sheets1 a_sheets1_numbers a_sheets2 a_sheets2_numbers a_sheets3 a_sheets3_numbers a_findings v_isKept v_sheets0_bits v_sheets0_size v_sheets0_numbers v_sheets1_bits v_sheets1_size v_sheets1_numbers v_sheets2_bits v_sheets2_size v_sheets2_numbers v_sheets3_bits v_sheets3_size v_sheets3_numbers v_findings) H locs → lv_has ls 6 [(0, .ref a_t)] → fX4_copy_111 v_sheets0_bits v_sheets0_size v_sheets1_bits v_sheets1_size v_sheets2_bits v_sheets2_size v_sheets3_bits v_sheets3_size v_sheets0_numbers v_sheets1_numbers v_sheets2_numbers v_sheets3_numbers v_findings = some (rr, kk') → W p l e rX4_copy s m args below meth c H locs 0 0 (MQ below (q_Ri D rr A ((fun k : (Nat → Int64) × (Nat → Int64) × (Nat → Int64) × (Nat → Int64) × (Nat → Int32) => (wX4_copy cI cJ cZ cS a_t a_party a_kept a_tape a_telephone a_sheets a_sheets0 a_sheets0_numbers a_sheets1 a_sheets1_numbers a_sheets2 a_sheets2_numbers a_sheets3 a_sheets3_numbers a_findings v_isKept v_sheets0_bits v_sheets0_size k.1 v_sheets1_bits v_sheets1_size k.2.1 v_sheets2_bits v_sheets2_size k.2.2.1 v_sheets3_bits v_sheets3_size k.2.2.2.1 k.2.2.2.2)) kk')) args s 0 0 A) (F0 m 111 ls []) := by
  intro v_sheets0_numbers v_sheets1_numbers v_sheets2_numbers v_sheets3_numbers v_findings H locs ls h hl hf
  have hx := fx.1
  have hb := fx.2.1
  unfold fX4_copy_111 at hf
  refine lv_aload_n hx hb dX4_copy_111 rfl (lv_at hl 0 rfl) ?_
  refine q_ldc fx k_206 dX4_copy_112 ?_
  obtain ⟨r1, k1, hg, hf⟩ := bR_inv hf
  refine q_ci (rest := []) (ws' := (wX4_copy cI cJ cZ cS a_t a_party a_kept a_tape a_telephone a_sheets a_sheets0 a_sheets0_numbers a_sheets1 a_sheets1_numbers a_sheets2 a_sheets2_numbers a_sheets3 a_sheets3_numbers a_findings v_isKept v_sheets0_bits v_sheets0_size v_sheets0_numbers v_sheets1_bits v_sheets1_size v_sheets1_numbers v_sheets2_bits v_sheets2_size v_sheets2_numbers v_sheets3_bits v_sheets3_size v_sheets3_numbers k1)) (w1 := (wX4_found cI cJ cZ cS a_t a_party a_kept a_tape a_telephone a_sheets a_findings v_isKept k1)) fx h [0, 10] rfl rfl rfl rfl (q_runV fx h hl.1 [0, 10] rfl rfl (tX4_found l D cI cJ cZ cS tb a_t a_party a_kept a_tape a_telephone a_sheets a_findings H.size v_isKept v_findings (-1000000001) r1 k1 hg) mvX4_found k_207 ⟨rfl, rfl⟩ ⟨Nat.le_of_ble_eq_true rfl, Nat.le_of_ble_eq_true rfl⟩ rfl rfl rfl rfl (Nat.le_of_ble_eq_true rfl) dX4_copy_114 ⟨Nat.le_of_ble_eq_true rfl, Nat.le_of_ble_eq_true rfl⟩) (fun H locs h => ?_)
  exact q_reti (fun k : (Nat → Int64) × (Nat → Int64) × (Nat → Int64) × (Nat → Int64) × (Nat → Int32) => (wX4_copy cI cJ cZ cS a_t a_party a_kept a_tape a_telephone a_sheets a_sheets0 a_sheets0_numbers a_sheets1 a_sheets1_numbers a_sheets2 a_sheets2_numbers a_sheets3 a_sheets3_numbers a_findings v_isKept v_sheets0_bits v_sheets0_size k.1 v_sheets1_bits v_sheets1_size k.2.1 v_sheets2_bits v_sheets2_size k.2.2.1 v_sheets3_bits v_sheets3_size k.2.2.2.1 k.2.2.2.2)) fx hf h dX4_copy_117
def fX4_copy_45 (v_sheets0_bits : Int32) (v_sheets0_size : Int32) (v_sheets1_bits : Int32) (v_sheets1_size : Int32) (v_sheets2_bits : Int32) (v_sheets2_size : Int32) (v_sheets3_bits : Int32) (v_sheets3_size : Int32) (v_sheets0_numbers : Nat → Int64) (v_sheets1_numbers : Nat → Int64) (v_sheets2_numbers : Nat → Int64) (v_sheets3_numbers : Nat → Int64) (v_findings : Nat → Int32) : Option (Int32 × (Nat → Int64) × (Nat → Int64) × (Nat → Int64) × (Nat → Int64) × (Nat → Int32)) :=
  bR (fX4_found v_findings (-1000000006)) (fun r2 k2 =>
  some (r2, (v_sheets0_numbers, v_sheets1_numbers, v_sheets2_numbers, v_sheets3_numbers, k2)))
set_option maxRecDepth 100000 in
set_option maxHeartbeats 4000000 in
theorem LX4_copy_45 {p : Program} {l : Launch} {e : Env} {s : State} {m : MethodId} {args : Array Value} {below : List Frame} {meth : Method} {c : Code} {D : va_G} {cI cJ cZ cS : ClassId} {tb : Nat} {A : Nat → Prop} {a_t a_party a_kept a_tape a_telephone a_sheets a_sheets0 a_sheets0_numbers a_sheets1 a_sheets1_numbers a_sheets2 a_sheets2_numbers a_sheets3 a_sheets3_numbers a_findings : Nat} {v_isKept : Int32} {v_sheets0_bits : Int32} {v_sheets0_size : Int32} {v_sheets1_bits : Int32} {v_sheets1_size : Int32} {v_sheets2_bits : Int32} {v_sheets2_size : Int32} {v_sheets3_bits : Int32} {v_sheets3_size : Int32} {rr : Int32} {kk' : (Nat → Int64) × (Nat → Int64) × (Nat → Int64) × (Nat → Int64) × (Nat → Int32)} (fx : q_Fx p s m args meth c cX4_copy 6 RX4 (some .int) D cI cJ cZ cS tb A) : ∀ {v_sheets0_numbers : Nat → Int64} {v_sheets1_numbers : Nat → Int64} {v_sheets2_numbers : Nat → Int64} {v_sheets3_numbers : Nat → Int64} {v_findings : Nat → Int32} {H : Heap} {locs : List Loc} {ls : Array Slot}, q_H D A s (wX4_copy cI cJ cZ cS a_t a_party a_kept a_tape a_telephone a_sheets a_sheets0 a_sheets0_numbers a_sheets1 a_sheets1_numbers a_sheets2 a_sheets2_numbers a_sheets3 a_sheets3_numbers a_findings v_isKept v_sheets0_bits v_sheets0_size v_sheets0_numbers v_sheets1_bits v_sheets1_size v_sheets1_numbers v_sheets2_bits v_sheets2_size v_sheets2_numbers v_sheets3_bits v_sheets3_size v_sheets3_numbers v_findings) H locs → lv_has ls 6 [(0, .ref a_t)] → fX4_copy_45 v_sheets0_bits v_sheets0_size v_sheets1_bits v_sheets1_size v_sheets2_bits v_sheets2_size v_sheets3_bits v_sheets3_size v_sheets0_numbers v_sheets1_numbers v_sheets2_numbers v_sheets3_numbers v_findings = some (rr, kk') → W p l e rX4_copy s m args below meth c H locs 0 0 (MQ below (q_Ri D rr A ((fun k : (Nat → Int64) × (Nat → Int64) × (Nat → Int64) × (Nat → Int64) × (Nat → Int32) => (wX4_copy cI cJ cZ cS a_t a_party a_kept a_tape a_telephone a_sheets a_sheets0 a_sheets0_numbers a_sheets1 a_sheets1_numbers a_sheets2 a_sheets2_numbers a_sheets3 a_sheets3_numbers a_findings v_isKept v_sheets0_bits v_sheets0_size k.1 v_sheets1_bits v_sheets1_size k.2.1 v_sheets2_bits v_sheets2_size k.2.2.1 v_sheets3_bits v_sheets3_size k.2.2.2.1 k.2.2.2.2)) kk')) args s 0 0 A) (F0 m 45 ls []) := by
  intro v_sheets0_numbers v_sheets1_numbers v_sheets2_numbers v_sheets3_numbers v_findings H locs ls h hl hf
  have hx := fx.1
  have hb := fx.2.1
  unfold fX4_copy_45 at hf
  refine lv_aload_n hx hb dX4_copy_45 rfl (lv_at hl 0 rfl) ?_
  refine q_ldc fx k_557 dX4_copy_46 ?_
  obtain ⟨r2, k2, hg, hf⟩ := bR_inv hf
  refine q_ci (rest := []) (ws' := (wX4_copy cI cJ cZ cS a_t a_party a_kept a_tape a_telephone a_sheets a_sheets0 a_sheets0_numbers a_sheets1 a_sheets1_numbers a_sheets2 a_sheets2_numbers a_sheets3 a_sheets3_numbers a_findings v_isKept v_sheets0_bits v_sheets0_size v_sheets0_numbers v_sheets1_bits v_sheets1_size v_sheets1_numbers v_sheets2_bits v_sheets2_size v_sheets2_numbers v_sheets3_bits v_sheets3_size v_sheets3_numbers k2)) (w1 := (wX4_found cI cJ cZ cS a_t a_party a_kept a_tape a_telephone a_sheets a_findings v_isKept k2)) fx h [0, 10] rfl rfl rfl rfl (q_runV fx h hl.1 [0, 10] rfl rfl (tX4_found l D cI cJ cZ cS tb a_t a_party a_kept a_tape a_telephone a_sheets a_findings H.size v_isKept v_findings (-1000000006) r2 k2 hg) mvX4_found k_207 ⟨rfl, rfl⟩ ⟨Nat.le_of_ble_eq_true rfl, Nat.le_of_ble_eq_true rfl⟩ rfl rfl rfl rfl (Nat.le_of_ble_eq_true rfl) dX4_copy_48 ⟨Nat.le_of_ble_eq_true rfl, Nat.le_of_ble_eq_true rfl⟩) (fun H locs h => ?_)
  exact q_reti (fun k : (Nat → Int64) × (Nat → Int64) × (Nat → Int64) × (Nat → Int64) × (Nat → Int32) => (wX4_copy cI cJ cZ cS a_t a_party a_kept a_tape a_telephone a_sheets a_sheets0 a_sheets0_numbers a_sheets1 a_sheets1_numbers a_sheets2 a_sheets2_numbers a_sheets3 a_sheets3_numbers a_findings v_isKept v_sheets0_bits v_sheets0_size k.1 v_sheets1_bits v_sheets1_size k.2.1 v_sheets2_bits v_sheets2_size k.2.2.1 v_sheets3_bits v_sheets3_size k.2.2.2.1 k.2.2.2.2)) fx hf h dX4_copy_51
def fX4_copy_14 (v_sheets0_bits : Int32) (v_sheets0_size : Int32) (v_sheets1_bits : Int32) (v_sheets1_size : Int32) (v_sheets2_bits : Int32) (v_sheets2_size : Int32) (v_sheets3_bits : Int32) (v_sheets3_size : Int32) (v_sheets0_numbers : Nat → Int64) (v_sheets1_numbers : Nat → Int64) (v_sheets2_numbers : Nat → Int64) (v_sheets3_numbers : Nat → Int64) (v_findings : Nat → Int32) : Option (Int32 × (Nat → Int64) × (Nat → Int64) × (Nat → Int64) × (Nat → Int64) × (Nat → Int32)) :=
  bR (fX4_found v_findings (-1000000001)) (fun r3 k3 =>
  some (r3, (v_sheets0_numbers, v_sheets1_numbers, v_sheets2_numbers, v_sheets3_numbers, k3)))
set_option maxRecDepth 100000 in
set_option maxHeartbeats 4000000 in
theorem LX4_copy_14 {p : Program} {l : Launch} {e : Env} {s : State} {m : MethodId} {args : Array Value} {below : List Frame} {meth : Method} {c : Code} {D : va_G} {cI cJ cZ cS : ClassId} {tb : Nat} {A : Nat → Prop} {a_t a_party a_kept a_tape a_telephone a_sheets a_sheets0 a_sheets0_numbers a_sheets1 a_sheets1_numbers a_sheets2 a_sheets2_numbers a_sheets3 a_sheets3_numbers a_findings : Nat} {v_isKept : Int32} {v_sheets0_bits : Int32} {v_sheets0_size : Int32} {v_sheets1_bits : Int32} {v_sheets1_size : Int32} {v_sheets2_bits : Int32} {v_sheets2_size : Int32} {v_sheets3_bits : Int32} {v_sheets3_size : Int32} {rr : Int32} {kk' : (Nat → Int64) × (Nat → Int64) × (Nat → Int64) × (Nat → Int64) × (Nat → Int32)} (fx : q_Fx p s m args meth c cX4_copy 6 RX4 (some .int) D cI cJ cZ cS tb A) : ∀ {v_sheets0_numbers : Nat → Int64} {v_sheets1_numbers : Nat → Int64} {v_sheets2_numbers : Nat → Int64} {v_sheets3_numbers : Nat → Int64} {v_findings : Nat → Int32} {H : Heap} {locs : List Loc} {ls : Array Slot}, q_H D A s (wX4_copy cI cJ cZ cS a_t a_party a_kept a_tape a_telephone a_sheets a_sheets0 a_sheets0_numbers a_sheets1 a_sheets1_numbers a_sheets2 a_sheets2_numbers a_sheets3 a_sheets3_numbers a_findings v_isKept v_sheets0_bits v_sheets0_size v_sheets0_numbers v_sheets1_bits v_sheets1_size v_sheets1_numbers v_sheets2_bits v_sheets2_size v_sheets2_numbers v_sheets3_bits v_sheets3_size v_sheets3_numbers v_findings) H locs → lv_has ls 6 [(0, .ref a_t)] → fX4_copy_14 v_sheets0_bits v_sheets0_size v_sheets1_bits v_sheets1_size v_sheets2_bits v_sheets2_size v_sheets3_bits v_sheets3_size v_sheets0_numbers v_sheets1_numbers v_sheets2_numbers v_sheets3_numbers v_findings = some (rr, kk') → W p l e rX4_copy s m args below meth c H locs 0 0 (MQ below (q_Ri D rr A ((fun k : (Nat → Int64) × (Nat → Int64) × (Nat → Int64) × (Nat → Int64) × (Nat → Int32) => (wX4_copy cI cJ cZ cS a_t a_party a_kept a_tape a_telephone a_sheets a_sheets0 a_sheets0_numbers a_sheets1 a_sheets1_numbers a_sheets2 a_sheets2_numbers a_sheets3 a_sheets3_numbers a_findings v_isKept v_sheets0_bits v_sheets0_size k.1 v_sheets1_bits v_sheets1_size k.2.1 v_sheets2_bits v_sheets2_size k.2.2.1 v_sheets3_bits v_sheets3_size k.2.2.2.1 k.2.2.2.2)) kk')) args s 0 0 A) (F0 m 14 ls []) := by
  intro v_sheets0_numbers v_sheets1_numbers v_sheets2_numbers v_sheets3_numbers v_findings H locs ls h hl hf
  have hx := fx.1
  have hb := fx.2.1
  unfold fX4_copy_14 at hf
  refine lv_aload_n hx hb dX4_copy_14 rfl (lv_at hl 0 rfl) ?_
  refine q_ldc fx k_206 dX4_copy_15 ?_
  obtain ⟨r3, k3, hg, hf⟩ := bR_inv hf
  refine q_ci (rest := []) (ws' := (wX4_copy cI cJ cZ cS a_t a_party a_kept a_tape a_telephone a_sheets a_sheets0 a_sheets0_numbers a_sheets1 a_sheets1_numbers a_sheets2 a_sheets2_numbers a_sheets3 a_sheets3_numbers a_findings v_isKept v_sheets0_bits v_sheets0_size v_sheets0_numbers v_sheets1_bits v_sheets1_size v_sheets1_numbers v_sheets2_bits v_sheets2_size v_sheets2_numbers v_sheets3_bits v_sheets3_size v_sheets3_numbers k3)) (w1 := (wX4_found cI cJ cZ cS a_t a_party a_kept a_tape a_telephone a_sheets a_findings v_isKept k3)) fx h [0, 10] rfl rfl rfl rfl (q_runV fx h hl.1 [0, 10] rfl rfl (tX4_found l D cI cJ cZ cS tb a_t a_party a_kept a_tape a_telephone a_sheets a_findings H.size v_isKept v_findings (-1000000001) r3 k3 hg) mvX4_found k_207 ⟨rfl, rfl⟩ ⟨Nat.le_of_ble_eq_true rfl, Nat.le_of_ble_eq_true rfl⟩ rfl rfl rfl rfl (Nat.le_of_ble_eq_true rfl) dX4_copy_17 ⟨Nat.le_of_ble_eq_true rfl, Nat.le_of_ble_eq_true rfl⟩) (fun H locs h => ?_)
  exact q_reti (fun k : (Nat → Int64) × (Nat → Int64) × (Nat → Int64) × (Nat → Int64) × (Nat → Int32) => (wX4_copy cI cJ cZ cS a_t a_party a_kept a_tape a_telephone a_sheets a_sheets0 a_sheets0_numbers a_sheets1 a_sheets1_numbers a_sheets2 a_sheets2_numbers a_sheets3 a_sheets3_numbers a_findings v_isKept v_sheets0_bits v_sheets0_size k.1 v_sheets1_bits v_sheets1_size k.2.1 v_sheets2_bits v_sheets2_size k.2.2.1 v_sheets3_bits v_sheets3_size k.2.2.2.1 k.2.2.2.2)) fx hf h dX4_copy_20
def fX4_copy (v_sheets0_bits : Int32) (v_sheets0_size : Int32) (v_sheets0_numbers : Nat → Int64) (v_sheets1_bits : Int32) (v_sheets1_size : Int32) (v_sheets1_numbers : Nat → Int64) (v_sheets2_bits : Int32) (v_sheets2_size : Int32) (v_sheets2_numbers : Nat → Int64) (v_sheets3_bits : Int32) (v_sheets3_size : Int32) (v_sheets3_numbers : Nat → Int64) (v_findings : Nat → Int32) (x1 : Int32) (x2 : Int32) (x3 : Int32) (x4 : Int32) (x5 : Int32) : Option (Int32 × (Nat → Int64) × (Nat → Int64) × (Nat → Int64) × (Nat → Int64) × (Nat → Int32)) :=
  bR (fX4_isSheet x1) (fun r4 k4 =>
  (if r4 = 0 then (
  fX4_copy_14 v_sheets0_bits v_sheets0_size v_sheets1_bits v_sheets1_size v_sheets2_bits v_sheets2_size v_sheets3_bits v_sheets3_size v_sheets0_numbers v_sheets1_numbers v_sheets2_numbers v_sheets3_numbers v_findings)
  else (
  bR (fX4_isSheet x3) (fun r6 k6 =>
  (if r6 = 0 then (
  fX4_copy_14 v_sheets0_bits v_sheets0_size v_sheets1_bits v_sheets1_size v_sheets2_bits v_sheets2_size v_sheets3_bits v_sheets3_size v_sheets0_numbers v_sheets1_numbers v_sheets2_numbers v_sheets3_numbers v_findings)
  else (
  sel4 x1 (
  bR (fX1_isMissing v_sheets0_bits) (fun r9 k9 =>
  (if r9 = 0 then (
  sel4 x3 (
  bR (fX1_isMissing v_sheets0_bits) (fun r12 k12 =>
  (if r12 = 0 then (
  (if v_sheets0_bits = v_sheets0_bits then (
  bR (fX1_hasRun v_sheets0_size x2 x5) (fun r15 k15 =>
  (if r15 = 0 then (
  fX4_copy_111 v_sheets0_bits v_sheets0_size v_sheets1_bits v_sheets1_size v_sheets2_bits v_sheets2_size v_sheets3_bits v_sheets3_size v_sheets0_numbers v_sheets1_numbers v_sheets2_numbers v_sheets3_numbers v_findings)
  else (
  bR (fX1_hasRun v_sheets0_size x4 x5) (fun r17 k17 =>
  (if r17 = 0 then (
  fX4_copy_111 v_sheets0_bits v_sheets0_size v_sheets1_bits v_sheets1_size v_sheets2_bits v_sheets2_size v_sheets3_bits v_sheets3_size v_sheets0_numbers v_sheets1_numbers v_sheets2_numbers v_sheets3_numbers v_findings)
  else (
  gCp x2 x4 x5 40 40 (
  some (x5, ((va_cpy v_sheets0_numbers v_sheets0_numbers x2.toNatClampNeg x4.toNatClampNeg x5.toNatClampNeg), v_sheets1_numbers, v_sheets2_numbers, v_sheets3_numbers, v_findings))))))))))
  else (
  bR (fX4_found v_findings (-1000000003)) (fun r20 k20 =>
  some (r20, (v_sheets0_numbers, v_sheets1_numbers, v_sheets2_numbers, v_sheets3_numbers, k20))))))
  else (
  fX4_copy_45 v_sheets0_bits v_sheets0_size v_sheets1_bits v_sheets1_size v_sheets2_bits v_sheets2_size v_sheets3_bits v_sheets3_size v_sheets0_numbers v_sheets1_numbers v_sheets2_numbers v_sheets3_numbers v_findings))))
  (bR (fX1_isMissing v_sheets1_bits) (fun r21 k21 =>
  (if r21 = 0 then (
  (if v_sheets0_bits = v_sheets1_bits then (
  bR (fX1_hasRun v_sheets0_size x2 x5) (fun r24 k24 =>
  (if r24 = 0 then (
  fX4_copy_111 v_sheets0_bits v_sheets0_size v_sheets1_bits v_sheets1_size v_sheets2_bits v_sheets2_size v_sheets3_bits v_sheets3_size v_sheets0_numbers v_sheets1_numbers v_sheets2_numbers v_sheets3_numbers v_findings)
  else (
  bR (fX1_hasRun v_sheets1_size x4 x5) (fun r26 k26 =>
  (if r26 = 0 then (
  fX4_copy_111 v_sheets0_bits v_sheets0_size v_sheets1_bits v_sheets1_size v_sheets2_bits v_sheets2_size v_sheets3_bits v_sheets3_size v_sheets0_numbers v_sheets1_numbers v_sheets2_numbers v_sheets3_numbers v_findings)
  else (
  gCp x2 x4 x5 40 40 (
  some (x5, (v_sheets0_numbers, (va_cpy v_sheets0_numbers v_sheets1_numbers x2.toNatClampNeg x4.toNatClampNeg x5.toNatClampNeg), v_sheets2_numbers, v_sheets3_numbers, v_findings))))))))))
  else (
  bR (fX4_found v_findings (-1000000003)) (fun r29 k29 =>
  some (r29, (v_sheets0_numbers, v_sheets1_numbers, v_sheets2_numbers, v_sheets3_numbers, k29))))))
  else (
  fX4_copy_45 v_sheets0_bits v_sheets0_size v_sheets1_bits v_sheets1_size v_sheets2_bits v_sheets2_size v_sheets3_bits v_sheets3_size v_sheets0_numbers v_sheets1_numbers v_sheets2_numbers v_sheets3_numbers v_findings))))
  (bR (fX1_isMissing v_sheets2_bits) (fun r30 k30 =>
  (if r30 = 0 then (
  (if v_sheets0_bits = v_sheets2_bits then (
  bR (fX1_hasRun v_sheets0_size x2 x5) (fun r33 k33 =>
  (if r33 = 0 then (
  fX4_copy_111 v_sheets0_bits v_sheets0_size v_sheets1_bits v_sheets1_size v_sheets2_bits v_sheets2_size v_sheets3_bits v_sheets3_size v_sheets0_numbers v_sheets1_numbers v_sheets2_numbers v_sheets3_numbers v_findings)
  else (
  bR (fX1_hasRun v_sheets2_size x4 x5) (fun r35 k35 =>
  (if r35 = 0 then (
  fX4_copy_111 v_sheets0_bits v_sheets0_size v_sheets1_bits v_sheets1_size v_sheets2_bits v_sheets2_size v_sheets3_bits v_sheets3_size v_sheets0_numbers v_sheets1_numbers v_sheets2_numbers v_sheets3_numbers v_findings)
  else (
  gCp x2 x4 x5 40 40 (
  some (x5, (v_sheets0_numbers, v_sheets1_numbers, (va_cpy v_sheets0_numbers v_sheets2_numbers x2.toNatClampNeg x4.toNatClampNeg x5.toNatClampNeg), v_sheets3_numbers, v_findings))))))))))
  else (
  bR (fX4_found v_findings (-1000000003)) (fun r38 k38 =>
  some (r38, (v_sheets0_numbers, v_sheets1_numbers, v_sheets2_numbers, v_sheets3_numbers, k38))))))
  else (
  fX4_copy_45 v_sheets0_bits v_sheets0_size v_sheets1_bits v_sheets1_size v_sheets2_bits v_sheets2_size v_sheets3_bits v_sheets3_size v_sheets0_numbers v_sheets1_numbers v_sheets2_numbers v_sheets3_numbers v_findings))))
  (bR (fX1_isMissing v_sheets3_bits) (fun r39 k39 =>
  (if r39 = 0 then (
  (if v_sheets0_bits = v_sheets3_bits then (
  bR (fX1_hasRun v_sheets0_size x2 x5) (fun r42 k42 =>
  (if r42 = 0 then (
  fX4_copy_111 v_sheets0_bits v_sheets0_size v_sheets1_bits v_sheets1_size v_sheets2_bits v_sheets2_size v_sheets3_bits v_sheets3_size v_sheets0_numbers v_sheets1_numbers v_sheets2_numbers v_sheets3_numbers v_findings)
  else (
  bR (fX1_hasRun v_sheets3_size x4 x5) (fun r44 k44 =>
  (if r44 = 0 then (
  fX4_copy_111 v_sheets0_bits v_sheets0_size v_sheets1_bits v_sheets1_size v_sheets2_bits v_sheets2_size v_sheets3_bits v_sheets3_size v_sheets0_numbers v_sheets1_numbers v_sheets2_numbers v_sheets3_numbers v_findings)
  else (
  gCp x2 x4 x5 40 40 (
  some (x5, (v_sheets0_numbers, v_sheets1_numbers, v_sheets2_numbers, (va_cpy v_sheets0_numbers v_sheets3_numbers x2.toNatClampNeg x4.toNatClampNeg x5.toNatClampNeg), v_findings))))))))))
  else (
  bR (fX4_found v_findings (-1000000003)) (fun r47 k47 =>
  some (r47, (v_sheets0_numbers, v_sheets1_numbers, v_sheets2_numbers, v_sheets3_numbers, k47))))))
  else (
  fX4_copy_45 v_sheets0_bits v_sheets0_size v_sheets1_bits v_sheets1_size v_sheets2_bits v_sheets2_size v_sheets3_bits v_sheets3_size v_sheets0_numbers v_sheets1_numbers v_sheets2_numbers v_sheets3_numbers v_findings)))))
  else (
  fX4_copy_45 v_sheets0_bits v_sheets0_size v_sheets1_bits v_sheets1_size v_sheets2_bits v_sheets2_size v_sheets3_bits v_sheets3_size v_sheets0_numbers v_sheets1_numbers v_sheets2_numbers v_sheets3_numbers v_findings))))
  (bR (fX1_isMissing v_sheets1_bits) (fun r48 k48 =>
  (if r48 = 0 then (
  sel4 x3 (
  bR (fX1_isMissing v_sheets0_bits) (fun r51 k51 =>
  (if r51 = 0 then (
  (if v_sheets1_bits = v_sheets0_bits then (
  bR (fX1_hasRun v_sheets1_size x2 x5) (fun r54 k54 =>
  (if r54 = 0 then (
  fX4_copy_111 v_sheets0_bits v_sheets0_size v_sheets1_bits v_sheets1_size v_sheets2_bits v_sheets2_size v_sheets3_bits v_sheets3_size v_sheets0_numbers v_sheets1_numbers v_sheets2_numbers v_sheets3_numbers v_findings)
  else (
  bR (fX1_hasRun v_sheets0_size x4 x5) (fun r56 k56 =>
  (if r56 = 0 then (
  fX4_copy_111 v_sheets0_bits v_sheets0_size v_sheets1_bits v_sheets1_size v_sheets2_bits v_sheets2_size v_sheets3_bits v_sheets3_size v_sheets0_numbers v_sheets1_numbers v_sheets2_numbers v_sheets3_numbers v_findings)
  else (
  gCp x2 x4 x5 40 40 (
  some (x5, ((va_cpy v_sheets1_numbers v_sheets0_numbers x2.toNatClampNeg x4.toNatClampNeg x5.toNatClampNeg), v_sheets1_numbers, v_sheets2_numbers, v_sheets3_numbers, v_findings))))))))))
  else (
  bR (fX4_found v_findings (-1000000003)) (fun r59 k59 =>
  some (r59, (v_sheets0_numbers, v_sheets1_numbers, v_sheets2_numbers, v_sheets3_numbers, k59))))))
  else (
  fX4_copy_45 v_sheets0_bits v_sheets0_size v_sheets1_bits v_sheets1_size v_sheets2_bits v_sheets2_size v_sheets3_bits v_sheets3_size v_sheets0_numbers v_sheets1_numbers v_sheets2_numbers v_sheets3_numbers v_findings))))
  (bR (fX1_isMissing v_sheets1_bits) (fun r60 k60 =>
  (if r60 = 0 then (
  (if v_sheets1_bits = v_sheets1_bits then (
  bR (fX1_hasRun v_sheets1_size x2 x5) (fun r63 k63 =>
  (if r63 = 0 then (
  fX4_copy_111 v_sheets0_bits v_sheets0_size v_sheets1_bits v_sheets1_size v_sheets2_bits v_sheets2_size v_sheets3_bits v_sheets3_size v_sheets0_numbers v_sheets1_numbers v_sheets2_numbers v_sheets3_numbers v_findings)
  else (
  bR (fX1_hasRun v_sheets1_size x4 x5) (fun r65 k65 =>
  (if r65 = 0 then (
  fX4_copy_111 v_sheets0_bits v_sheets0_size v_sheets1_bits v_sheets1_size v_sheets2_bits v_sheets2_size v_sheets3_bits v_sheets3_size v_sheets0_numbers v_sheets1_numbers v_sheets2_numbers v_sheets3_numbers v_findings)
  else (
  gCp x2 x4 x5 40 40 (
  some (x5, (v_sheets0_numbers, (va_cpy v_sheets1_numbers v_sheets1_numbers x2.toNatClampNeg x4.toNatClampNeg x5.toNatClampNeg), v_sheets2_numbers, v_sheets3_numbers, v_findings))))))))))
  else (
  bR (fX4_found v_findings (-1000000003)) (fun r68 k68 =>
  some (r68, (v_sheets0_numbers, v_sheets1_numbers, v_sheets2_numbers, v_sheets3_numbers, k68))))))
  else (
  fX4_copy_45 v_sheets0_bits v_sheets0_size v_sheets1_bits v_sheets1_size v_sheets2_bits v_sheets2_size v_sheets3_bits v_sheets3_size v_sheets0_numbers v_sheets1_numbers v_sheets2_numbers v_sheets3_numbers v_findings))))
  (bR (fX1_isMissing v_sheets2_bits) (fun r69 k69 =>
  (if r69 = 0 then (
  (if v_sheets1_bits = v_sheets2_bits then (
  bR (fX1_hasRun v_sheets1_size x2 x5) (fun r72 k72 =>
  (if r72 = 0 then (
  fX4_copy_111 v_sheets0_bits v_sheets0_size v_sheets1_bits v_sheets1_size v_sheets2_bits v_sheets2_size v_sheets3_bits v_sheets3_size v_sheets0_numbers v_sheets1_numbers v_sheets2_numbers v_sheets3_numbers v_findings)
  else (
  bR (fX1_hasRun v_sheets2_size x4 x5) (fun r74 k74 =>
  (if r74 = 0 then (
  fX4_copy_111 v_sheets0_bits v_sheets0_size v_sheets1_bits v_sheets1_size v_sheets2_bits v_sheets2_size v_sheets3_bits v_sheets3_size v_sheets0_numbers v_sheets1_numbers v_sheets2_numbers v_sheets3_numbers v_findings)
  else (
  gCp x2 x4 x5 40 40 (
  some (x5, (v_sheets0_numbers, v_sheets1_numbers, (va_cpy v_sheets1_numbers v_sheets2_numbers x2.toNatClampNeg x4.toNatClampNeg x5.toNatClampNeg), v_sheets3_numbers, v_findings))))))))))
  else (
  bR (fX4_found v_findings (-1000000003)) (fun r77 k77 =>
  some (r77, (v_sheets0_numbers, v_sheets1_numbers, v_sheets2_numbers, v_sheets3_numbers, k77))))))
  else (
  fX4_copy_45 v_sheets0_bits v_sheets0_size v_sheets1_bits v_sheets1_size v_sheets2_bits v_sheets2_size v_sheets3_bits v_sheets3_size v_sheets0_numbers v_sheets1_numbers v_sheets2_numbers v_sheets3_numbers v_findings))))
  (bR (fX1_isMissing v_sheets3_bits) (fun r78 k78 =>
  (if r78 = 0 then (
  (if v_sheets1_bits = v_sheets3_bits then (
  bR (fX1_hasRun v_sheets1_size x2 x5) (fun r81 k81 =>
  (if r81 = 0 then (
  fX4_copy_111 v_sheets0_bits v_sheets0_size v_sheets1_bits v_sheets1_size v_sheets2_bits v_sheets2_size v_sheets3_bits v_sheets3_size v_sheets0_numbers v_sheets1_numbers v_sheets2_numbers v_sheets3_numbers v_findings)
  else (
  bR (fX1_hasRun v_sheets3_size x4 x5) (fun r83 k83 =>
  (if r83 = 0 then (
  fX4_copy_111 v_sheets0_bits v_sheets0_size v_sheets1_bits v_sheets1_size v_sheets2_bits v_sheets2_size v_sheets3_bits v_sheets3_size v_sheets0_numbers v_sheets1_numbers v_sheets2_numbers v_sheets3_numbers v_findings)
  else (
  gCp x2 x4 x5 40 40 (
  some (x5, (v_sheets0_numbers, v_sheets1_numbers, v_sheets2_numbers, (va_cpy v_sheets1_numbers v_sheets3_numbers x2.toNatClampNeg x4.toNatClampNeg x5.toNatClampNeg), v_findings))))))))))
  else (
  bR (fX4_found v_findings (-1000000003)) (fun r86 k86 =>
  some (r86, (v_sheets0_numbers, v_sheets1_numbers, v_sheets2_numbers, v_sheets3_numbers, k86))))))
  else (
  fX4_copy_45 v_sheets0_bits v_sheets0_size v_sheets1_bits v_sheets1_size v_sheets2_bits v_sheets2_size v_sheets3_bits v_sheets3_size v_sheets0_numbers v_sheets1_numbers v_sheets2_numbers v_sheets3_numbers v_findings)))))
  else (
  fX4_copy_45 v_sheets0_bits v_sheets0_size v_sheets1_bits v_sheets1_size v_sheets2_bits v_sheets2_size v_sheets3_bits v_sheets3_size v_sheets0_numbers v_sheets1_numbers v_sheets2_numbers v_sheets3_numbers v_findings))))
  (bR (fX1_isMissing v_sheets2_bits) (fun r87 k87 =>
  (if r87 = 0 then (
  sel4 x3 (
  bR (fX1_isMissing v_sheets0_bits) (fun r90 k90 =>
  (if r90 = 0 then (
  (if v_sheets2_bits = v_sheets0_bits then (
  bR (fX1_hasRun v_sheets2_size x2 x5) (fun r93 k93 =>
  (if r93 = 0 then (
  fX4_copy_111 v_sheets0_bits v_sheets0_size v_sheets1_bits v_sheets1_size v_sheets2_bits v_sheets2_size v_sheets3_bits v_sheets3_size v_sheets0_numbers v_sheets1_numbers v_sheets2_numbers v_sheets3_numbers v_findings)
  else (
  bR (fX1_hasRun v_sheets0_size x4 x5) (fun r95 k95 =>
  (if r95 = 0 then (
  fX4_copy_111 v_sheets0_bits v_sheets0_size v_sheets1_bits v_sheets1_size v_sheets2_bits v_sheets2_size v_sheets3_bits v_sheets3_size v_sheets0_numbers v_sheets1_numbers v_sheets2_numbers v_sheets3_numbers v_findings)
  else (
  gCp x2 x4 x5 40 40 (
  some (x5, ((va_cpy v_sheets2_numbers v_sheets0_numbers x2.toNatClampNeg x4.toNatClampNeg x5.toNatClampNeg), v_sheets1_numbers, v_sheets2_numbers, v_sheets3_numbers, v_findings))))))))))
  else (
  bR (fX4_found v_findings (-1000000003)) (fun r98 k98 =>
  some (r98, (v_sheets0_numbers, v_sheets1_numbers, v_sheets2_numbers, v_sheets3_numbers, k98))))))
  else (
  fX4_copy_45 v_sheets0_bits v_sheets0_size v_sheets1_bits v_sheets1_size v_sheets2_bits v_sheets2_size v_sheets3_bits v_sheets3_size v_sheets0_numbers v_sheets1_numbers v_sheets2_numbers v_sheets3_numbers v_findings))))
  (bR (fX1_isMissing v_sheets1_bits) (fun r99 k99 =>
  (if r99 = 0 then (
  (if v_sheets2_bits = v_sheets1_bits then (
  bR (fX1_hasRun v_sheets2_size x2 x5) (fun r102 k102 =>
  (if r102 = 0 then (
  fX4_copy_111 v_sheets0_bits v_sheets0_size v_sheets1_bits v_sheets1_size v_sheets2_bits v_sheets2_size v_sheets3_bits v_sheets3_size v_sheets0_numbers v_sheets1_numbers v_sheets2_numbers v_sheets3_numbers v_findings)
  else (
  bR (fX1_hasRun v_sheets1_size x4 x5) (fun r104 k104 =>
  (if r104 = 0 then (
  fX4_copy_111 v_sheets0_bits v_sheets0_size v_sheets1_bits v_sheets1_size v_sheets2_bits v_sheets2_size v_sheets3_bits v_sheets3_size v_sheets0_numbers v_sheets1_numbers v_sheets2_numbers v_sheets3_numbers v_findings)
  else (
  gCp x2 x4 x5 40 40 (
  some (x5, (v_sheets0_numbers, (va_cpy v_sheets2_numbers v_sheets1_numbers x2.toNatClampNeg x4.toNatClampNeg x5.toNatClampNeg), v_sheets2_numbers, v_sheets3_numbers, v_findings))))))))))
  else (
  bR (fX4_found v_findings (-1000000003)) (fun r107 k107 =>
  some (r107, (v_sheets0_numbers, v_sheets1_numbers, v_sheets2_numbers, v_sheets3_numbers, k107))))))
  else (
  fX4_copy_45 v_sheets0_bits v_sheets0_size v_sheets1_bits v_sheets1_size v_sheets2_bits v_sheets2_size v_sheets3_bits v_sheets3_size v_sheets0_numbers v_sheets1_numbers v_sheets2_numbers v_sheets3_numbers v_findings))))
  (bR (fX1_isMissing v_sheets2_bits) (fun r108 k108 =>
  (if r108 = 0 then (
  (if v_sheets2_bits = v_sheets2_bits then (
  bR (fX1_hasRun v_sheets2_size x2 x5) (fun r111 k111 =>
  (if r111 = 0 then (
  fX4_copy_111 v_sheets0_bits v_sheets0_size v_sheets1_bits v_sheets1_size v_sheets2_bits v_sheets2_size v_sheets3_bits v_sheets3_size v_sheets0_numbers v_sheets1_numbers v_sheets2_numbers v_sheets3_numbers v_findings)
  else (
  bR (fX1_hasRun v_sheets2_size x4 x5) (fun r113 k113 =>
  (if r113 = 0 then (
  fX4_copy_111 v_sheets0_bits v_sheets0_size v_sheets1_bits v_sheets1_size v_sheets2_bits v_sheets2_size v_sheets3_bits v_sheets3_size v_sheets0_numbers v_sheets1_numbers v_sheets2_numbers v_sheets3_numbers v_findings)
  else (
  gCp x2 x4 x5 40 40 (
  some (x5, (v_sheets0_numbers, v_sheets1_numbers, (va_cpy v_sheets2_numbers v_sheets2_numbers x2.toNatClampNeg x4.toNatClampNeg x5.toNatClampNeg), v_sheets3_numbers, v_findings))))))))))
  else (
  bR (fX4_found v_findings (-1000000003)) (fun r116 k116 =>
  some (r116, (v_sheets0_numbers, v_sheets1_numbers, v_sheets2_numbers, v_sheets3_numbers, k116))))))
  else (
  fX4_copy_45 v_sheets0_bits v_sheets0_size v_sheets1_bits v_sheets1_size v_sheets2_bits v_sheets2_size v_sheets3_bits v_sheets3_size v_sheets0_numbers v_sheets1_numbers v_sheets2_numbers v_sheets3_numbers v_findings))))
  (bR (fX1_isMissing v_sheets3_bits) (fun r117 k117 =>
  (if r117 = 0 then (
  (if v_sheets2_bits = v_sheets3_bits then (
  bR (fX1_hasRun v_sheets2_size x2 x5) (fun r120 k120 =>
  (if r120 = 0 then (
  fX4_copy_111 v_sheets0_bits v_sheets0_size v_sheets1_bits v_sheets1_size v_sheets2_bits v_sheets2_size v_sheets3_bits v_sheets3_size v_sheets0_numbers v_sheets1_numbers v_sheets2_numbers v_sheets3_numbers v_findings)
  else (
  bR (fX1_hasRun v_sheets3_size x4 x5) (fun r122 k122 =>
  (if r122 = 0 then (
  fX4_copy_111 v_sheets0_bits v_sheets0_size v_sheets1_bits v_sheets1_size v_sheets2_bits v_sheets2_size v_sheets3_bits v_sheets3_size v_sheets0_numbers v_sheets1_numbers v_sheets2_numbers v_sheets3_numbers v_findings)
  else (
  gCp x2 x4 x5 40 40 (
  some (x5, (v_sheets0_numbers, v_sheets1_numbers, v_sheets2_numbers, (va_cpy v_sheets2_numbers v_sheets3_numbers x2.toNatClampNeg x4.toNatClampNeg x5.toNatClampNeg), v_findings))))))))))
  else (
  bR (fX4_found v_findings (-1000000003)) (fun r125 k125 =>
  some (r125, (v_sheets0_numbers, v_sheets1_numbers, v_sheets2_numbers, v_sheets3_numbers, k125))))))
  else (
  fX4_copy_45 v_sheets0_bits v_sheets0_size v_sheets1_bits v_sheets1_size v_sheets2_bits v_sheets2_size v_sheets3_bits v_sheets3_size v_sheets0_numbers v_sheets1_numbers v_sheets2_numbers v_sheets3_numbers v_findings)))))
  else (
  fX4_copy_45 v_sheets0_bits v_sheets0_size v_sheets1_bits v_sheets1_size v_sheets2_bits v_sheets2_size v_sheets3_bits v_sheets3_size v_sheets0_numbers v_sheets1_numbers v_sheets2_numbers v_sheets3_numbers v_findings))))
  (bR (fX1_isMissing v_sheets3_bits) (fun r126 k126 =>
  (if r126 = 0 then (
  sel4 x3 (
  bR (fX1_isMissing v_sheets0_bits) (fun r129 k129 =>
  (if r129 = 0 then (
  (if v_sheets3_bits = v_sheets0_bits then (
  bR (fX1_hasRun v_sheets3_size x2 x5) (fun r132 k132 =>
  (if r132 = 0 then (
  fX4_copy_111 v_sheets0_bits v_sheets0_size v_sheets1_bits v_sheets1_size v_sheets2_bits v_sheets2_size v_sheets3_bits v_sheets3_size v_sheets0_numbers v_sheets1_numbers v_sheets2_numbers v_sheets3_numbers v_findings)
  else (
  bR (fX1_hasRun v_sheets0_size x4 x5) (fun r134 k134 =>
  (if r134 = 0 then (
  fX4_copy_111 v_sheets0_bits v_sheets0_size v_sheets1_bits v_sheets1_size v_sheets2_bits v_sheets2_size v_sheets3_bits v_sheets3_size v_sheets0_numbers v_sheets1_numbers v_sheets2_numbers v_sheets3_numbers v_findings)
  else (
  gCp x2 x4 x5 40 40 (
  some (x5, ((va_cpy v_sheets3_numbers v_sheets0_numbers x2.toNatClampNeg x4.toNatClampNeg x5.toNatClampNeg), v_sheets1_numbers, v_sheets2_numbers, v_sheets3_numbers, v_findings))))))))))
  else (
  bR (fX4_found v_findings (-1000000003)) (fun r137 k137 =>
  some (r137, (v_sheets0_numbers, v_sheets1_numbers, v_sheets2_numbers, v_sheets3_numbers, k137))))))
  else (
  fX4_copy_45 v_sheets0_bits v_sheets0_size v_sheets1_bits v_sheets1_size v_sheets2_bits v_sheets2_size v_sheets3_bits v_sheets3_size v_sheets0_numbers v_sheets1_numbers v_sheets2_numbers v_sheets3_numbers v_findings))))
  (bR (fX1_isMissing v_sheets1_bits) (fun r138 k138 =>
  (if r138 = 0 then (
  (if v_sheets3_bits = v_sheets1_bits then (
  bR (fX1_hasRun v_sheets3_size x2 x5) (fun r141 k141 =>
  (if r141 = 0 then (
  fX4_copy_111 v_sheets0_bits v_sheets0_size v_sheets1_bits v_sheets1_size v_sheets2_bits v_sheets2_size v_sheets3_bits v_sheets3_size v_sheets0_numbers v_sheets1_numbers v_sheets2_numbers v_sheets3_numbers v_findings)
  else (
  bR (fX1_hasRun v_sheets1_size x4 x5) (fun r143 k143 =>
  (if r143 = 0 then (
  fX4_copy_111 v_sheets0_bits v_sheets0_size v_sheets1_bits v_sheets1_size v_sheets2_bits v_sheets2_size v_sheets3_bits v_sheets3_size v_sheets0_numbers v_sheets1_numbers v_sheets2_numbers v_sheets3_numbers v_findings)
  else (
  gCp x2 x4 x5 40 40 (
  some (x5, (v_sheets0_numbers, (va_cpy v_sheets3_numbers v_sheets1_numbers x2.toNatClampNeg x4.toNatClampNeg x5.toNatClampNeg), v_sheets2_numbers, v_sheets3_numbers, v_findings))))))))))
  else (
  bR (fX4_found v_findings (-1000000003)) (fun r146 k146 =>
  some (r146, (v_sheets0_numbers, v_sheets1_numbers, v_sheets2_numbers, v_sheets3_numbers, k146))))))
  else (
  fX4_copy_45 v_sheets0_bits v_sheets0_size v_sheets1_bits v_sheets1_size v_sheets2_bits v_sheets2_size v_sheets3_bits v_sheets3_size v_sheets0_numbers v_sheets1_numbers v_sheets2_numbers v_sheets3_numbers v_findings))))
  (bR (fX1_isMissing v_sheets2_bits) (fun r147 k147 =>
  (if r147 = 0 then (
  (if v_sheets3_bits = v_sheets2_bits then (
  bR (fX1_hasRun v_sheets3_size x2 x5) (fun r150 k150 =>
  (if r150 = 0 then (
  fX4_copy_111 v_sheets0_bits v_sheets0_size v_sheets1_bits v_sheets1_size v_sheets2_bits v_sheets2_size v_sheets3_bits v_sheets3_size v_sheets0_numbers v_sheets1_numbers v_sheets2_numbers v_sheets3_numbers v_findings)
  else (
  bR (fX1_hasRun v_sheets2_size x4 x5) (fun r152 k152 =>
  (if r152 = 0 then (
  fX4_copy_111 v_sheets0_bits v_sheets0_size v_sheets1_bits v_sheets1_size v_sheets2_bits v_sheets2_size v_sheets3_bits v_sheets3_size v_sheets0_numbers v_sheets1_numbers v_sheets2_numbers v_sheets3_numbers v_findings)
  else (
  gCp x2 x4 x5 40 40 (
  some (x5, (v_sheets0_numbers, v_sheets1_numbers, (va_cpy v_sheets3_numbers v_sheets2_numbers x2.toNatClampNeg x4.toNatClampNeg x5.toNatClampNeg), v_sheets3_numbers, v_findings))))))))))
  else (
  bR (fX4_found v_findings (-1000000003)) (fun r155 k155 =>
  some (r155, (v_sheets0_numbers, v_sheets1_numbers, v_sheets2_numbers, v_sheets3_numbers, k155))))))
  else (
  fX4_copy_45 v_sheets0_bits v_sheets0_size v_sheets1_bits v_sheets1_size v_sheets2_bits v_sheets2_size v_sheets3_bits v_sheets3_size v_sheets0_numbers v_sheets1_numbers v_sheets2_numbers v_sheets3_numbers v_findings))))
  (bR (fX1_isMissing v_sheets3_bits) (fun r156 k156 =>
  (if r156 = 0 then (
  (if v_sheets3_bits = v_sheets3_bits then (
  bR (fX1_hasRun v_sheets3_size x2 x5) (fun r159 k159 =>
  (if r159 = 0 then (
  fX4_copy_111 v_sheets0_bits v_sheets0_size v_sheets1_bits v_sheets1_size v_sheets2_bits v_sheets2_size v_sheets3_bits v_sheets3_size v_sheets0_numbers v_sheets1_numbers v_sheets2_numbers v_sheets3_numbers v_findings)
  else (
  bR (fX1_hasRun v_sheets3_size x4 x5) (fun r161 k161 =>
  (if r161 = 0 then (
  fX4_copy_111 v_sheets0_bits v_sheets0_size v_sheets1_bits v_sheets1_size v_sheets2_bits v_sheets2_size v_sheets3_bits v_sheets3_size v_sheets0_numbers v_sheets1_numbers v_sheets2_numbers v_sheets3_numbers v_findings)
  else (
  gCp x2 x4 x5 40 40 (
  some (x5, (v_sheets0_numbers, v_sheets1_numbers, v_sheets2_numbers, (va_cpy v_sheets3_numbers v_sheets3_numbers x2.toNatClampNeg x4.toNatClampNeg x5.toNatClampNeg), v_findings))))))))))
  else (
  bR (fX4_found v_findings (-1000000003)) (fun r164 k164 =>
  some (r164, (v_sheets0_numbers, v_sheets1_numbers, v_sheets2_numbers, v_sheets3_numbers, k164))))))
  else (
  fX4_copy_45 v_sheets0_bits v_sheets0_size v_sheets1_bits v_sheets1_size v_sheets2_bits v_sheets2_size v_sheets3_bits v_sheets3_size v_sheets0_numbers v_sheets1_numbers v_sheets2_numbers v_sheets3_numbers v_findings)))))
  else (
  fX4_copy_45 v_sheets0_bits v_sheets0_size v_sheets1_bits v_sheets1_size v_sheets2_bits v_sheets2_size v_sheets3_bits v_sheets3_size v_sheets0_numbers v_sheets1_numbers v_sheets2_numbers v_sheets3_numbers v_findings))))))))))
set_option maxRecDepth 100000 in
set_option maxHeartbeats 4000000 in
theorem tX4_copy (l : Launch) (D : va_G) (cI cJ cZ cS : ClassId) (tb : Nat) (a_t a_party a_kept a_tape a_telephone a_sheets a_sheets0 a_sheets0_numbers a_sheets1 a_sheets1_numbers a_sheets2 a_sheets2_numbers a_sheets3 a_sheets3_numbers a_findings : Nat) (sz : Nat) (v_isKept : Int32) (v_sheets0_bits : Int32) (v_sheets0_size : Int32) (v_sheets0_numbers : Nat → Int64) (v_sheets1_bits : Int32) (v_sheets1_size : Int32) (v_sheets1_numbers : Nat → Int64) (v_sheets2_bits : Int32) (v_sheets2_size : Int32) (v_sheets2_numbers : Nat → Int64) (v_sheets3_bits : Int32) (v_sheets3_size : Int32) (v_sheets3_numbers : Nat → Int64) (v_findings : Nat → Int32) (x1 : Int32) (x2 : Int32) (x3 : Int32) (x4 : Int32) (x5 : Int32) (rr : Int32) (kk' : (Nat → Int64) × (Nat → Int64) × (Nat → Int64) × (Nat → Int64) × (Nat → Int32)) (hf : fX4_copy v_sheets0_bits v_sheets0_size v_sheets0_numbers v_sheets1_bits v_sheets1_size v_sheets1_numbers v_sheets2_bits v_sheets2_size v_sheets2_numbers v_sheets3_bits v_sheets3_size v_sheets3_numbers v_findings x1 x2 x3 x4 x5 = some (rr, kk')) : Met l yX4_copy (Cond.code yX4_copy cX4_copy 6 (some .int) :: wA) rX4_copy (q_Pre D cI cJ cZ cS tb [.ref a_t, .int x1, .int x2, .int x3, .int x4, .int x5] sz (wX4_copy cI cJ cZ cS a_t a_party a_kept a_tape a_telephone a_sheets a_sheets0 a_sheets0_numbers a_sheets1 a_sheets1_numbers a_sheets2 a_sheets2_numbers a_sheets3 a_sheets3_numbers a_findings v_isKept v_sheets0_bits v_sheets0_size v_sheets0_numbers v_sheets1_bits v_sheets1_size v_sheets1_numbers v_sheets2_bits v_sheets2_size v_sheets2_numbers v_sheets3_bits v_sheets3_size v_sheets3_numbers v_findings)) (q_Ri D rr (va_A (wX4_copy cI cJ cZ cS a_t a_party a_kept a_tape a_telephone a_sheets a_sheets0 a_sheets0_numbers a_sheets1 a_sheets1_numbers a_sheets2 a_sheets2_numbers a_sheets3 a_sheets3_numbers a_findings v_isKept v_sheets0_bits v_sheets0_size v_sheets0_numbers v_sheets1_bits v_sheets1_size v_sheets1_numbers v_sheets2_bits v_sheets2_size v_sheets2_numbers v_sheets3_bits v_sheets3_size v_sheets3_numbers v_findings) sz) ((fun k : (Nat → Int64) × (Nat → Int64) × (Nat → Int64) × (Nat → Int64) × (Nat → Int32) => (wX4_copy cI cJ cZ cS a_t a_party a_kept a_tape a_telephone a_sheets a_sheets0 a_sheets0_numbers a_sheets1 a_sheets1_numbers a_sheets2 a_sheets2_numbers a_sheets3 a_sheets3_numbers a_findings v_isKept v_sheets0_bits v_sheets0_size k.1 v_sheets1_bits v_sheets1_size k.2.1 v_sheets2_bits v_sheets2_size k.2.2.1 v_sheets3_bits v_sheets3_size k.2.2.2.1 k.2.2.2.2)) kk')) 0 0 (va_A (wX4_copy cI cJ cZ cS a_t a_party a_kept a_tape a_telephone a_sheets a_sheets0 a_sheets0_numbers a_sheets1 a_sheets1_numbers a_sheets2 a_sheets2_numbers a_sheets3 a_sheets3_numbers a_findings v_isKept v_sheets0_bits v_sheets0_size v_sheets0_numbers v_sheets1_bits v_sheets1_size v_sheets1_numbers v_sheets2_bits v_sheets2_size v_sheets2_numbers v_sheets3_bits v_sheets3_size v_sheets3_numbers v_findings) sz) := by
  refine q_enter (Qf := fun A => (q_Ri D rr A ((fun k : (Nat → Int64) × (Nat → Int64) × (Nat → Int64) × (Nat → Int64) × (Nat → Int32) => (wX4_copy cI cJ cZ cS a_t a_party a_kept a_tape a_telephone a_sheets a_sheets0 a_sheets0_numbers a_sheets1 a_sheets1_numbers a_sheets2 a_sheets2_numbers a_sheets3 a_sheets3_numbers a_findings v_isKept v_sheets0_bits v_sheets0_size k.1 v_sheets1_bits v_sheets1_size k.2.1 v_sheets2_bits v_sheets2_size k.2.2.1 v_sheets3_bits v_sheets3_size k.2.2.2.1 k.2.2.2.2)) kk'))) (by decide) rfl (Nat.le_of_ble_eq_true rfl) ?_
  intro p e s m below meth c A ls fx hname h hl
  have hx := fx.1
  have hb := fx.2.1
  have hl : lv_has ls 6 [(0, .ref a_t), (1, .int x1), (2, .int x2), (3, .int x3), (4, .int x4), (5, .int x5)] := hl
  generalize h9 : s.heap = H at h ⊢
  clear h9
  generalize h9 : ([] : List Loc) = locs at h ⊢
  clear h9
  unfold fX4_copy at hf
  refine lv_iload_n hx hb dX4_copy_0 rfl (lv_at hl 1 rfl) ?_
  obtain ⟨r4, k4, hg, hf⟩ := bR_inv hf
  refine q_ci (rest := []) (ws' := (wX4_copy cI cJ cZ cS a_t a_party a_kept a_tape a_telephone a_sheets a_sheets0 a_sheets0_numbers a_sheets1 a_sheets1_numbers a_sheets2 a_sheets2_numbers a_sheets3 a_sheets3_numbers a_findings v_isKept v_sheets0_bits v_sheets0_size v_sheets0_numbers v_sheets1_bits v_sheets1_size v_sheets1_numbers v_sheets2_bits v_sheets2_size v_sheets2_numbers v_sheets3_bits v_sheets3_size v_sheets3_numbers v_findings)) (w1 := (wX4_isSheet cI cJ cZ cS)) fx h [] rfl rfl rfl rfl (q_runS fx h hl.1 [] rfl rfl (tX4_isSheet l D cI cJ cZ cS tb H.size x1 r4 k4 hg) msX4_isSheet k_536 ⟨rfl, rfl⟩ ⟨Nat.le_of_ble_eq_true rfl, Nat.le_of_ble_eq_true rfl⟩ rfl rfl (Nat.le_of_ble_eq_true rfl) dX4_copy_1 ⟨Nat.le_of_ble_eq_true rfl, Nat.le_of_ble_eq_true rfl⟩) (fun H locs h => ?_)
  refine lv_if_eq (tgt := 14) hx hb dX4_copy_4 (by decide) (fun c5 => ?_) (fun c5 => ?_)
  · have hf := it_t c5 hf
    exact LX4_copy_14 fx h (lv_sub hl [0] rfl) hf
  have hf := it_f c5 hf
  refine lv_iload_n hx hb dX4_copy_7 rfl (lv_at hl 3 rfl) ?_
  obtain ⟨r6, k6, hg, hf⟩ := bR_inv hf
  refine q_ci (rest := []) (ws' := (wX4_copy cI cJ cZ cS a_t a_party a_kept a_tape a_telephone a_sheets a_sheets0 a_sheets0_numbers a_sheets1 a_sheets1_numbers a_sheets2 a_sheets2_numbers a_sheets3 a_sheets3_numbers a_findings v_isKept v_sheets0_bits v_sheets0_size v_sheets0_numbers v_sheets1_bits v_sheets1_size v_sheets1_numbers v_sheets2_bits v_sheets2_size v_sheets2_numbers v_sheets3_bits v_sheets3_size v_sheets3_numbers v_findings)) (w1 := (wX4_isSheet cI cJ cZ cS)) fx h [] rfl rfl rfl rfl (q_runS fx h hl.1 [] rfl rfl (tX4_isSheet l D cI cJ cZ cS tb H.size x3 r6 k6 hg) msX4_isSheet k_536 ⟨rfl, rfl⟩ ⟨Nat.le_of_ble_eq_true rfl, Nat.le_of_ble_eq_true rfl⟩ rfl rfl (Nat.le_of_ble_eq_true rfl) dX4_copy_8 ⟨Nat.le_of_ble_eq_true rfl, Nat.le_of_ble_eq_true rfl⟩) (fun H locs h => ?_)
  refine lv_if_ne (tgt := 21) hx hb dX4_copy_11 (by decide) (fun c7 => ?_) (fun c7 => ?_)
  · have hf := it_f c7 hf
    refine lv_aload_n hx hb dX4_copy_21 rfl (lv_at hl 0 rfl) ?_
    refine q_get (v := .ref a_sheets) fx inX4 h 0 rfl rfl 5 (by decide) k_179 rfl dX4_copy_22 ?_
    refine lv_iload_n hx hb dX4_copy_25 rfl (lv_at hl 1 rfl) ?_
    rcases sel4_inv hf with ⟨c8, hf⟩ | ⟨c8, hf⟩ | ⟨c8, hf⟩ | ⟨c8, hf⟩
    · refine q_aald (v := a_sheets0) fx h 1 rfl c8 (vinK (by decide)) rfl dX4_copy_26 ?_
      obtain ⟨r9, k9, hg, hf⟩ := bR_inv hf
      refine q_ci (rest := []) (ws' := (wX4_copy cI cJ cZ cS a_t a_party a_kept a_tape a_telephone a_sheets a_sheets0 a_sheets0_numbers a_sheets1 a_sheets1_numbers a_sheets2 a_sheets2_numbers a_sheets3 a_sheets3_numbers a_findings v_isKept v_sheets0_bits v_sheets0_size v_sheets0_numbers v_sheets1_bits v_sheets1_size v_sheets1_numbers v_sheets2_bits v_sheets2_size v_sheets2_numbers v_sheets3_bits v_sheets3_size v_sheets3_numbers v_findings)) (w1 := (wX1_isMissing cI cJ cZ cS a_sheets0 a_sheets0_numbers v_sheets0_bits v_sheets0_size)) fx h [2] rfl rfl rfl rfl (q_runV fx h hl.1 [2] rfl rfl (tX1_isMissing l D cI cJ cZ cS tb a_sheets0 a_sheets0_numbers H.size v_sheets0_bits v_sheets0_size r9 k9 hg) mvX1_isMissing k_553 ⟨rfl, rfl⟩ ⟨Nat.le_of_ble_eq_true rfl, Nat.le_of_ble_eq_true rfl⟩ rfl rfl rfl rfl (Nat.le_of_ble_eq_true rfl) dX4_copy_27 ⟨Nat.le_of_ble_eq_true rfl, Nat.le_of_ble_eq_true rfl⟩) (fun H locs h => ?_)
      refine lv_if_ne (tgt := 45) hx hb dX4_copy_30 (by decide) (fun c10 => ?_) (fun c10 => ?_)
      · have hf := it_f c10 hf
        exact LX4_copy_45 fx h (lv_sub hl [0] rfl) hf
      have hf := it_t c10 hf
      refine lv_aload_n hx hb dX4_copy_33 rfl (lv_at hl 0 rfl) ?_
      refine q_get (v := .ref a_sheets) fx inX4 h 0 rfl rfl 5 (by decide) k_179 rfl dX4_copy_34 ?_
      refine lv_iload_n hx hb dX4_copy_37 rfl (lv_at hl 3 rfl) ?_
      rcases sel4_inv hf with ⟨c11, hf⟩ | ⟨c11, hf⟩ | ⟨c11, hf⟩ | ⟨c11, hf⟩
      · refine q_aald (v := a_sheets0) fx h 1 rfl c11 (vinK (by decide)) rfl dX4_copy_38 ?_
        obtain ⟨r12, k12, hg, hf⟩ := bR_inv hf
        refine q_ci (rest := []) (ws' := (wX4_copy cI cJ cZ cS a_t a_party a_kept a_tape a_telephone a_sheets a_sheets0 a_sheets0_numbers a_sheets1 a_sheets1_numbers a_sheets2 a_sheets2_numbers a_sheets3 a_sheets3_numbers a_findings v_isKept v_sheets0_bits v_sheets0_size v_sheets0_numbers v_sheets1_bits v_sheets1_size v_sheets1_numbers v_sheets2_bits v_sheets2_size v_sheets2_numbers v_sheets3_bits v_sheets3_size v_sheets3_numbers v_findings)) (w1 := (wX1_isMissing cI cJ cZ cS a_sheets0 a_sheets0_numbers v_sheets0_bits v_sheets0_size)) fx h [2] rfl rfl rfl rfl (q_runV fx h hl.1 [2] rfl rfl (tX1_isMissing l D cI cJ cZ cS tb a_sheets0 a_sheets0_numbers H.size v_sheets0_bits v_sheets0_size r12 k12 hg) mvX1_isMissing k_553 ⟨rfl, rfl⟩ ⟨Nat.le_of_ble_eq_true rfl, Nat.le_of_ble_eq_true rfl⟩ rfl rfl rfl rfl (Nat.le_of_ble_eq_true rfl) dX4_copy_39 ⟨Nat.le_of_ble_eq_true rfl, Nat.le_of_ble_eq_true rfl⟩) (fun H locs h => ?_)
        refine lv_if_eq (tgt := 52) hx hb dX4_copy_42 (by decide) (fun c13 => ?_) (fun c13 => ?_)
        · have hf := it_t c13 hf
          refine lv_aload_n hx hb dX4_copy_52 rfl (lv_at hl 0 rfl) ?_
          refine q_get (v := .ref a_sheets) fx inX4 h 0 rfl rfl 5 (by decide) k_179 rfl dX4_copy_53 ?_
          refine lv_iload_n hx hb dX4_copy_56 rfl (lv_at hl 1 rfl) ?_
          refine q_aald (v := a_sheets0) fx h 1 rfl c8 (vinK (by decide)) rfl dX4_copy_57 ?_
          refine q_getN (v := .int v_sheets0_bits) fx inX1 h 2 rfl rfl 0 (by decide) nf_9 rfl dX4_copy_58 ?_
          refine lv_aload_n hx hb dX4_copy_61 rfl (lv_at hl 0 rfl) ?_
          refine q_get (v := .ref a_sheets) fx inX4 h 0 rfl rfl 5 (by decide) k_179 rfl dX4_copy_62 ?_
          refine lv_iload_n hx hb dX4_copy_65 rfl (lv_at hl 3 rfl) ?_
          refine q_aald (v := a_sheets0) fx h 1 rfl c11 (vinK (by decide)) rfl dX4_copy_66 ?_
          refine q_getN (v := .int v_sheets0_bits) fx inX1 h 2 rfl rfl 0 (by decide) nf_9 rfl dX4_copy_67 ?_
          refine lv_icmp_eq (tgt := 80) hx hb dX4_copy_70 (by decide) (fun c14 => ?_) (fun c14 => ?_)
          · have hf := it_t c14 hf
            refine lv_aload_n hx hb dX4_copy_80 rfl (lv_at hl 0 rfl) ?_
            refine q_get (v := .ref a_sheets) fx inX4 h 0 rfl rfl 5 (by decide) k_179 rfl dX4_copy_81 ?_
            refine lv_iload_n hx hb dX4_copy_84 rfl (lv_at hl 1 rfl) ?_
            refine q_aald (v := a_sheets0) fx h 1 rfl c8 (vinK (by decide)) rfl dX4_copy_85 ?_
            refine lv_iload_n hx hb dX4_copy_86 rfl (lv_at hl 2 rfl) ?_
            refine lv_iload hx hb dX4_copy_87 (lv_at hl 5 rfl) ?_
            obtain ⟨r15, k15, hg, hf⟩ := bR_inv hf
            refine q_ci (rest := []) (ws' := (wX4_copy cI cJ cZ cS a_t a_party a_kept a_tape a_telephone a_sheets a_sheets0 a_sheets0_numbers a_sheets1 a_sheets1_numbers a_sheets2 a_sheets2_numbers a_sheets3 a_sheets3_numbers a_findings v_isKept v_sheets0_bits v_sheets0_size v_sheets0_numbers v_sheets1_bits v_sheets1_size v_sheets1_numbers v_sheets2_bits v_sheets2_size v_sheets2_numbers v_sheets3_bits v_sheets3_size v_sheets3_numbers v_findings)) (w1 := (wX1_hasRun cI cJ cZ cS a_sheets0 a_sheets0_numbers v_sheets0_bits v_sheets0_size)) fx h [2] rfl rfl rfl rfl (q_runV fx h hl.1 [2] rfl rfl (tX1_hasRun l D cI cJ cZ cS tb a_sheets0 a_sheets0_numbers H.size v_sheets0_bits v_sheets0_size x2 x5 r15 k15 hg) mvX1_hasRun k_566 ⟨rfl, rfl⟩ ⟨Nat.le_of_ble_eq_true rfl, Nat.le_of_ble_eq_true rfl⟩ rfl rfl rfl rfl (Nat.le_of_ble_eq_true rfl) dX4_copy_89 ⟨Nat.le_of_ble_eq_true rfl, Nat.le_of_ble_eq_true rfl⟩) (fun H locs h => ?_)
            refine lv_if_eq (tgt := 111) hx hb dX4_copy_92 (by decide) (fun c16 => ?_) (fun c16 => ?_)
            · have hf := it_t c16 hf
              exact LX4_copy_111 fx h (lv_sub hl [0] rfl) hf
            have hf := it_f c16 hf
            refine lv_aload_n hx hb dX4_copy_95 rfl (lv_at hl 0 rfl) ?_
            refine q_get (v := .ref a_sheets) fx inX4 h 0 rfl rfl 5 (by decide) k_179 rfl dX4_copy_96 ?_
            refine lv_iload_n hx hb dX4_copy_99 rfl (lv_at hl 3 rfl) ?_
            refine q_aald (v := a_sheets0) fx h 1 rfl c11 (vinK (by decide)) rfl dX4_copy_100 ?_
            refine lv_iload hx hb dX4_copy_101 (lv_at hl 4 rfl) ?_
            refine lv_iload hx hb dX4_copy_103 (lv_at hl 5 rfl) ?_
            obtain ⟨r17, k17, hg, hf⟩ := bR_inv hf
            refine q_ci (rest := []) (ws' := (wX4_copy cI cJ cZ cS a_t a_party a_kept a_tape a_telephone a_sheets a_sheets0 a_sheets0_numbers a_sheets1 a_sheets1_numbers a_sheets2 a_sheets2_numbers a_sheets3 a_sheets3_numbers a_findings v_isKept v_sheets0_bits v_sheets0_size v_sheets0_numbers v_sheets1_bits v_sheets1_size v_sheets1_numbers v_sheets2_bits v_sheets2_size v_sheets2_numbers v_sheets3_bits v_sheets3_size v_sheets3_numbers v_findings)) (w1 := (wX1_hasRun cI cJ cZ cS a_sheets0 a_sheets0_numbers v_sheets0_bits v_sheets0_size)) fx h [2] rfl rfl rfl rfl (q_runV fx h hl.1 [2] rfl rfl (tX1_hasRun l D cI cJ cZ cS tb a_sheets0 a_sheets0_numbers H.size v_sheets0_bits v_sheets0_size x4 x5 r17 k17 hg) mvX1_hasRun k_566 ⟨rfl, rfl⟩ ⟨Nat.le_of_ble_eq_true rfl, Nat.le_of_ble_eq_true rfl⟩ rfl rfl rfl rfl (Nat.le_of_ble_eq_true rfl) dX4_copy_105 ⟨Nat.le_of_ble_eq_true rfl, Nat.le_of_ble_eq_true rfl⟩) (fun H locs h => ?_)
            refine lv_if_ne (tgt := 118) hx hb dX4_copy_108 (by decide) (fun c18 => ?_) (fun c18 => ?_)
            · have hf := it_f c18 hf
              refine lv_aload_n hx hb dX4_copy_118 rfl (lv_at hl 0 rfl) ?_
              refine q_get (v := .ref a_sheets) fx inX4 h 0 rfl rfl 5 (by decide) k_179 rfl dX4_copy_119 ?_
              refine lv_iload_n hx hb dX4_copy_122 rfl (lv_at hl 1 rfl) ?_
              refine q_aald (v := a_sheets0) fx h 1 rfl c8 (vinK (by decide)) rfl dX4_copy_123 ?_
              refine q_getN (v := .ref a_sheets0_numbers) fx inX1 h 2 rfl rfl 2 (by decide) nf_11 rfl dX4_copy_124 ?_
              refine lv_iload_n hx hb dX4_copy_127 rfl (lv_at hl 2 rfl) ?_
              refine lv_aload_n hx hb dX4_copy_128 rfl (lv_at hl 0 rfl) ?_
              refine q_get (v := .ref a_sheets) fx inX4 h 0 rfl rfl 5 (by decide) k_179 rfl dX4_copy_129 ?_
              refine lv_iload_n hx hb dX4_copy_132 rfl (lv_at hl 3 rfl) ?_
              refine q_aald (v := a_sheets0) fx h 1 rfl c11 (vinK (by decide)) rfl dX4_copy_133 ?_
              refine q_getN (v := .ref a_sheets0_numbers) fx inX1 h 2 rfl rfl 2 (by decide) nf_11 rfl dX4_copy_134 ?_
              refine lv_iload hx hb dX4_copy_137 (lv_at hl 4 rfl) ?_
              refine lv_iload hx hb dX4_copy_139 (lv_at hl 5 rfl) ?_
              obtain ⟨i19, hf⟩ := gCp_inv hf
              refine q_copyl (ws' := (wX4_copy cI cJ cZ cS a_t a_party a_kept a_tape a_telephone a_sheets a_sheets0 a_sheets0_numbers a_sheets1 a_sheets1_numbers a_sheets2 a_sheets2_numbers a_sheets3 a_sheets3_numbers a_findings v_isKept v_sheets0_bits v_sheets0_size (va_cpy v_sheets0_numbers v_sheets0_numbers x2.toNatClampNeg x4.toNatClampNeg x5.toNatClampNeg) v_sheets1_bits v_sheets1_size v_sheets1_numbers v_sheets2_bits v_sheets2_size v_sheets2_numbers v_sheets3_bits v_sheets3_size v_sheets3_numbers v_findings)) fx h hl.1 3 3 rfl rfl k_570 k_572 k_571 k_58 i19 (Nat.le_of_ble_eq_true rfl) (Nat.le_of_ble_eq_true rfl) rfl dX4_copy_141 (fun H locs h => ?_)
              refine lv_iload hx hb dX4_copy_144 (lv_at hl 5 rfl) ?_
              exact q_reti (fun k : (Nat → Int64) × (Nat → Int64) × (Nat → Int64) × (Nat → Int64) × (Nat → Int32) => (wX4_copy cI cJ cZ cS a_t a_party a_kept a_tape a_telephone a_sheets a_sheets0 a_sheets0_numbers a_sheets1 a_sheets1_numbers a_sheets2 a_sheets2_numbers a_sheets3 a_sheets3_numbers a_findings v_isKept v_sheets0_bits v_sheets0_size k.1 v_sheets1_bits v_sheets1_size k.2.1 v_sheets2_bits v_sheets2_size k.2.2.1 v_sheets3_bits v_sheets3_size k.2.2.2.1 k.2.2.2.2)) fx hf h dX4_copy_146
            have hf := it_t c18 hf
            exact LX4_copy_111 fx h (lv_sub hl [0] rfl) hf
          have hf := it_f c14 hf
          refine lv_aload_n hx hb dX4_copy_73 rfl (lv_at hl 0 rfl) ?_
          refine q_ldc fx k_269 dX4_copy_74 ?_
          obtain ⟨r20, k20, hg, hf⟩ := bR_inv hf
          refine q_ci (rest := []) (ws' := (wX4_copy cI cJ cZ cS a_t a_party a_kept a_tape a_telephone a_sheets a_sheets0 a_sheets0_numbers a_sheets1 a_sheets1_numbers a_sheets2 a_sheets2_numbers a_sheets3 a_sheets3_numbers a_findings v_isKept v_sheets0_bits v_sheets0_size v_sheets0_numbers v_sheets1_bits v_sheets1_size v_sheets1_numbers v_sheets2_bits v_sheets2_size v_sheets2_numbers v_sheets3_bits v_sheets3_size v_sheets3_numbers k20)) (w1 := (wX4_found cI cJ cZ cS a_t a_party a_kept a_tape a_telephone a_sheets a_findings v_isKept k20)) fx h [0, 10] rfl rfl rfl rfl (q_runV fx h hl.1 [0, 10] rfl rfl (tX4_found l D cI cJ cZ cS tb a_t a_party a_kept a_tape a_telephone a_sheets a_findings H.size v_isKept v_findings (-1000000003) r20 k20 hg) mvX4_found k_207 ⟨rfl, rfl⟩ ⟨Nat.le_of_ble_eq_true rfl, Nat.le_of_ble_eq_true rfl⟩ rfl rfl rfl rfl (Nat.le_of_ble_eq_true rfl) dX4_copy_76 ⟨Nat.le_of_ble_eq_true rfl, Nat.le_of_ble_eq_true rfl⟩) (fun H locs h => ?_)
          exact q_reti (fun k : (Nat → Int64) × (Nat → Int64) × (Nat → Int64) × (Nat → Int64) × (Nat → Int32) => (wX4_copy cI cJ cZ cS a_t a_party a_kept a_tape a_telephone a_sheets a_sheets0 a_sheets0_numbers a_sheets1 a_sheets1_numbers a_sheets2 a_sheets2_numbers a_sheets3 a_sheets3_numbers a_findings v_isKept v_sheets0_bits v_sheets0_size k.1 v_sheets1_bits v_sheets1_size k.2.1 v_sheets2_bits v_sheets2_size k.2.2.1 v_sheets3_bits v_sheets3_size k.2.2.2.1 k.2.2.2.2)) fx hf h dX4_copy_79
        have hf := it_f c13 hf
        exact LX4_copy_45 fx h (lv_sub hl [0] rfl) hf
      · refine q_aald (v := a_sheets1) fx h 1 rfl c11 (vinK (by decide)) rfl dX4_copy_38 ?_
        obtain ⟨r21, k21, hg, hf⟩ := bR_inv hf
        refine q_ci (rest := []) (ws' := (wX4_copy cI cJ cZ cS a_t a_party a_kept a_tape a_telephone a_sheets a_sheets0 a_sheets0_numbers a_sheets1 a_sheets1_numbers a_sheets2 a_sheets2_numbers a_sheets3 a_sheets3_numbers a_findings v_isKept v_sheets0_bits v_sheets0_size v_sheets0_numbers v_sheets1_bits v_sheets1_size v_sheets1_numbers v_sheets2_bits v_sheets2_size v_sheets2_numbers v_sheets3_bits v_sheets3_size v_sheets3_numbers v_findings)) (w1 := (wX1_isMissing cI cJ cZ cS a_sheets1 a_sheets1_numbers v_sheets1_bits v_sheets1_size)) fx h [4] rfl rfl rfl rfl (q_runV fx h hl.1 [4] rfl rfl (tX1_isMissing l D cI cJ cZ cS tb a_sheets1 a_sheets1_numbers H.size v_sheets1_bits v_sheets1_size r21 k21 hg) mvX1_isMissing k_553 ⟨rfl, rfl⟩ ⟨Nat.le_of_ble_eq_true rfl, Nat.le_of_ble_eq_true rfl⟩ rfl rfl rfl rfl (Nat.le_of_ble_eq_true rfl) dX4_copy_39 ⟨Nat.le_of_ble_eq_true rfl, Nat.le_of_ble_eq_true rfl⟩) (fun H locs h => ?_)
        refine lv_if_eq (tgt := 52) hx hb dX4_copy_42 (by decide) (fun c22 => ?_) (fun c22 => ?_)
        · have hf := it_t c22 hf
          refine lv_aload_n hx hb dX4_copy_52 rfl (lv_at hl 0 rfl) ?_
          refine q_get (v := .ref a_sheets) fx inX4 h 0 rfl rfl 5 (by decide) k_179 rfl dX4_copy_53 ?_
          refine lv_iload_n hx hb dX4_copy_56 rfl (lv_at hl 1 rfl) ?_
          refine q_aald (v := a_sheets0) fx h 1 rfl c8 (vinK (by decide)) rfl dX4_copy_57 ?_
          refine q_getN (v := .int v_sheets0_bits) fx inX1 h 2 rfl rfl 0 (by decide) nf_9 rfl dX4_copy_58 ?_
          refine lv_aload_n hx hb dX4_copy_61 rfl (lv_at hl 0 rfl) ?_
          refine q_get (v := .ref a_sheets) fx inX4 h 0 rfl rfl 5 (by decide) k_179 rfl dX4_copy_62 ?_
          refine lv_iload_n hx hb dX4_copy_65 rfl (lv_at hl 3 rfl) ?_
          refine q_aald (v := a_sheets1) fx h 1 rfl c11 (vinK (by decide)) rfl dX4_copy_66 ?_
          refine q_getN (v := .int v_sheets1_bits) fx inX1 h 4 rfl rfl 0 (by decide) nf_9 rfl dX4_copy_67 ?_
          refine lv_icmp_eq (tgt := 80) hx hb dX4_copy_70 (by decide) (fun c23 => ?_) (fun c23 => ?_)
          · have hf := it_t c23 hf
            refine lv_aload_n hx hb dX4_copy_80 rfl (lv_at hl 0 rfl) ?_
            refine q_get (v := .ref a_sheets) fx inX4 h 0 rfl rfl 5 (by decide) k_179 rfl dX4_copy_81 ?_
            refine lv_iload_n hx hb dX4_copy_84 rfl (lv_at hl 1 rfl) ?_
            refine q_aald (v := a_sheets0) fx h 1 rfl c8 (vinK (by decide)) rfl dX4_copy_85 ?_
            refine lv_iload_n hx hb dX4_copy_86 rfl (lv_at hl 2 rfl) ?_
            refine lv_iload hx hb dX4_copy_87 (lv_at hl 5 rfl) ?_
            obtain ⟨r24, k24, hg, hf⟩ := bR_inv hf
            refine q_ci (rest := []) (ws' := (wX4_copy cI cJ cZ cS a_t a_party a_kept a_tape a_telephone a_sheets a_sheets0 a_sheets0_numbers a_sheets1 a_sheets1_numbers a_sheets2 a_sheets2_numbers a_sheets3 a_sheets3_numbers a_findings v_isKept v_sheets0_bits v_sheets0_size v_sheets0_numbers v_sheets1_bits v_sheets1_size v_sheets1_numbers v_sheets2_bits v_sheets2_size v_sheets2_numbers v_sheets3_bits v_sheets3_size v_sheets3_numbers v_findings)) (w1 := (wX1_hasRun cI cJ cZ cS a_sheets0 a_sheets0_numbers v_sheets0_bits v_sheets0_size)) fx h [2] rfl rfl rfl rfl (q_runV fx h hl.1 [2] rfl rfl (tX1_hasRun l D cI cJ cZ cS tb a_sheets0 a_sheets0_numbers H.size v_sheets0_bits v_sheets0_size x2 x5 r24 k24 hg) mvX1_hasRun k_566 ⟨rfl, rfl⟩ ⟨Nat.le_of_ble_eq_true rfl, Nat.le_of_ble_eq_true rfl⟩ rfl rfl rfl rfl (Nat.le_of_ble_eq_true rfl) dX4_copy_89 ⟨Nat.le_of_ble_eq_true rfl, Nat.le_of_ble_eq_true rfl⟩) (fun H locs h => ?_)
            refine lv_if_eq (tgt := 111) hx hb dX4_copy_92 (by decide) (fun c25 => ?_) (fun c25 => ?_)
            · have hf := it_t c25 hf
              exact LX4_copy_111 fx h (lv_sub hl [0] rfl) hf
            have hf := it_f c25 hf
            refine lv_aload_n hx hb dX4_copy_95 rfl (lv_at hl 0 rfl) ?_
            refine q_get (v := .ref a_sheets) fx inX4 h 0 rfl rfl 5 (by decide) k_179 rfl dX4_copy_96 ?_
            refine lv_iload_n hx hb dX4_copy_99 rfl (lv_at hl 3 rfl) ?_
            refine q_aald (v := a_sheets1) fx h 1 rfl c11 (vinK (by decide)) rfl dX4_copy_100 ?_
            refine lv_iload hx hb dX4_copy_101 (lv_at hl 4 rfl) ?_
            refine lv_iload hx hb dX4_copy_103 (lv_at hl 5 rfl) ?_
            obtain ⟨r26, k26, hg, hf⟩ := bR_inv hf
            refine q_ci (rest := []) (ws' := (wX4_copy cI cJ cZ cS a_t a_party a_kept a_tape a_telephone a_sheets a_sheets0 a_sheets0_numbers a_sheets1 a_sheets1_numbers a_sheets2 a_sheets2_numbers a_sheets3 a_sheets3_numbers a_findings v_isKept v_sheets0_bits v_sheets0_size v_sheets0_numbers v_sheets1_bits v_sheets1_size v_sheets1_numbers v_sheets2_bits v_sheets2_size v_sheets2_numbers v_sheets3_bits v_sheets3_size v_sheets3_numbers v_findings)) (w1 := (wX1_hasRun cI cJ cZ cS a_sheets1 a_sheets1_numbers v_sheets1_bits v_sheets1_size)) fx h [4] rfl rfl rfl rfl (q_runV fx h hl.1 [4] rfl rfl (tX1_hasRun l D cI cJ cZ cS tb a_sheets1 a_sheets1_numbers H.size v_sheets1_bits v_sheets1_size x4 x5 r26 k26 hg) mvX1_hasRun k_566 ⟨rfl, rfl⟩ ⟨Nat.le_of_ble_eq_true rfl, Nat.le_of_ble_eq_true rfl⟩ rfl rfl rfl rfl (Nat.le_of_ble_eq_true rfl) dX4_copy_105 ⟨Nat.le_of_ble_eq_true rfl, Nat.le_of_ble_eq_true rfl⟩) (fun H locs h => ?_)
            refine lv_if_ne (tgt := 118) hx hb dX4_copy_108 (by decide) (fun c27 => ?_) (fun c27 => ?_)
            · have hf := it_f c27 hf
              refine lv_aload_n hx hb dX4_copy_118 rfl (lv_at hl 0 rfl) ?_
              refine q_get (v := .ref a_sheets) fx inX4 h 0 rfl rfl 5 (by decide) k_179 rfl dX4_copy_119 ?_
              refine lv_iload_n hx hb dX4_copy_122 rfl (lv_at hl 1 rfl) ?_
              refine q_aald (v := a_sheets0) fx h 1 rfl c8 (vinK (by decide)) rfl dX4_copy_123 ?_
              refine q_getN (v := .ref a_sheets0_numbers) fx inX1 h 2 rfl rfl 2 (by decide) nf_11 rfl dX4_copy_124 ?_
              refine lv_iload_n hx hb dX4_copy_127 rfl (lv_at hl 2 rfl) ?_
              refine lv_aload_n hx hb dX4_copy_128 rfl (lv_at hl 0 rfl) ?_
              refine q_get (v := .ref a_sheets) fx inX4 h 0 rfl rfl 5 (by decide) k_179 rfl dX4_copy_129 ?_
              refine lv_iload_n hx hb dX4_copy_132 rfl (lv_at hl 3 rfl) ?_
              refine q_aald (v := a_sheets1) fx h 1 rfl c11 (vinK (by decide)) rfl dX4_copy_133 ?_
              refine q_getN (v := .ref a_sheets1_numbers) fx inX1 h 4 rfl rfl 2 (by decide) nf_11 rfl dX4_copy_134 ?_
              refine lv_iload hx hb dX4_copy_137 (lv_at hl 4 rfl) ?_
              refine lv_iload hx hb dX4_copy_139 (lv_at hl 5 rfl) ?_
              obtain ⟨i28, hf⟩ := gCp_inv hf
              refine q_copyl (ws' := (wX4_copy cI cJ cZ cS a_t a_party a_kept a_tape a_telephone a_sheets a_sheets0 a_sheets0_numbers a_sheets1 a_sheets1_numbers a_sheets2 a_sheets2_numbers a_sheets3 a_sheets3_numbers a_findings v_isKept v_sheets0_bits v_sheets0_size v_sheets0_numbers v_sheets1_bits v_sheets1_size (va_cpy v_sheets0_numbers v_sheets1_numbers x2.toNatClampNeg x4.toNatClampNeg x5.toNatClampNeg) v_sheets2_bits v_sheets2_size v_sheets2_numbers v_sheets3_bits v_sheets3_size v_sheets3_numbers v_findings)) fx h hl.1 3 5 rfl rfl k_570 k_572 k_571 k_58 i28 (Nat.le_of_ble_eq_true rfl) (Nat.le_of_ble_eq_true rfl) rfl dX4_copy_141 (fun H locs h => ?_)
              refine lv_iload hx hb dX4_copy_144 (lv_at hl 5 rfl) ?_
              exact q_reti (fun k : (Nat → Int64) × (Nat → Int64) × (Nat → Int64) × (Nat → Int64) × (Nat → Int32) => (wX4_copy cI cJ cZ cS a_t a_party a_kept a_tape a_telephone a_sheets a_sheets0 a_sheets0_numbers a_sheets1 a_sheets1_numbers a_sheets2 a_sheets2_numbers a_sheets3 a_sheets3_numbers a_findings v_isKept v_sheets0_bits v_sheets0_size k.1 v_sheets1_bits v_sheets1_size k.2.1 v_sheets2_bits v_sheets2_size k.2.2.1 v_sheets3_bits v_sheets3_size k.2.2.2.1 k.2.2.2.2)) fx hf h dX4_copy_146
            have hf := it_t c27 hf
            exact LX4_copy_111 fx h (lv_sub hl [0] rfl) hf
          have hf := it_f c23 hf
          refine lv_aload_n hx hb dX4_copy_73 rfl (lv_at hl 0 rfl) ?_
          refine q_ldc fx k_269 dX4_copy_74 ?_
          obtain ⟨r29, k29, hg, hf⟩ := bR_inv hf
          refine q_ci (rest := []) (ws' := (wX4_copy cI cJ cZ cS a_t a_party a_kept a_tape a_telephone a_sheets a_sheets0 a_sheets0_numbers a_sheets1 a_sheets1_numbers a_sheets2 a_sheets2_numbers a_sheets3 a_sheets3_numbers a_findings v_isKept v_sheets0_bits v_sheets0_size v_sheets0_numbers v_sheets1_bits v_sheets1_size v_sheets1_numbers v_sheets2_bits v_sheets2_size v_sheets2_numbers v_sheets3_bits v_sheets3_size v_sheets3_numbers k29)) (w1 := (wX4_found cI cJ cZ cS a_t a_party a_kept a_tape a_telephone a_sheets a_findings v_isKept k29)) fx h [0, 10] rfl rfl rfl rfl (q_runV fx h hl.1 [0, 10] rfl rfl (tX4_found l D cI cJ cZ cS tb a_t a_party a_kept a_tape a_telephone a_sheets a_findings H.size v_isKept v_findings (-1000000003) r29 k29 hg) mvX4_found k_207 ⟨rfl, rfl⟩ ⟨Nat.le_of_ble_eq_true rfl, Nat.le_of_ble_eq_true rfl⟩ rfl rfl rfl rfl (Nat.le_of_ble_eq_true rfl) dX4_copy_76 ⟨Nat.le_of_ble_eq_true rfl, Nat.le_of_ble_eq_true rfl⟩) (fun H locs h => ?_)
          exact q_reti (fun k : (Nat → Int64) × (Nat → Int64) × (Nat → Int64) × (Nat → Int64) × (Nat → Int32) => (wX4_copy cI cJ cZ cS a_t a_party a_kept a_tape a_telephone a_sheets a_sheets0 a_sheets0_numbers a_sheets1 a_sheets1_numbers a_sheets2 a_sheets2_numbers a_sheets3 a_sheets3_numbers a_findings v_isKept v_sheets0_bits v_sheets0_size k.1 v_sheets1_bits v_sheets1_size k.2.1 v_sheets2_bits v_sheets2_size k.2.2.1 v_sheets3_bits v_sheets3_size k.2.2.2.1 k.2.2.2.2)) fx hf h dX4_copy_79
        have hf := it_f c22 hf
        exact LX4_copy_45 fx h (lv_sub hl [0] rfl) hf
      · refine q_aald (v := a_sheets2) fx h 1 rfl c11 (vinK (by decide)) rfl dX4_copy_38 ?_
        obtain ⟨r30, k30, hg, hf⟩ := bR_inv hf
        refine q_ci (rest := []) (ws' := (wX4_copy cI cJ cZ cS a_t a_party a_kept a_tape a_telephone a_sheets a_sheets0 a_sheets0_numbers a_sheets1 a_sheets1_numbers a_sheets2 a_sheets2_numbers a_sheets3 a_sheets3_numbers a_findings v_isKept v_sheets0_bits v_sheets0_size v_sheets0_numbers v_sheets1_bits v_sheets1_size v_sheets1_numbers v_sheets2_bits v_sheets2_size v_sheets2_numbers v_sheets3_bits v_sheets3_size v_sheets3_numbers v_findings)) (w1 := (wX1_isMissing cI cJ cZ cS a_sheets2 a_sheets2_numbers v_sheets2_bits v_sheets2_size)) fx h [6] rfl rfl rfl rfl (q_runV fx h hl.1 [6] rfl rfl (tX1_isMissing l D cI cJ cZ cS tb a_sheets2 a_sheets2_numbers H.size v_sheets2_bits v_sheets2_size r30 k30 hg) mvX1_isMissing k_553 ⟨rfl, rfl⟩ ⟨Nat.le_of_ble_eq_true rfl, Nat.le_of_ble_eq_true rfl⟩ rfl rfl rfl rfl (Nat.le_of_ble_eq_true rfl) dX4_copy_39 ⟨Nat.le_of_ble_eq_true rfl, Nat.le_of_ble_eq_true rfl⟩) (fun H locs h => ?_)
        refine lv_if_eq (tgt := 52) hx hb dX4_copy_42 (by decide) (fun c31 => ?_) (fun c31 => ?_)
        · have hf := it_t c31 hf
          refine lv_aload_n hx hb dX4_copy_52 rfl (lv_at hl 0 rfl) ?_
          refine q_get (v := .ref a_sheets) fx inX4 h 0 rfl rfl 5 (by decide) k_179 rfl dX4_copy_53 ?_
          refine lv_iload_n hx hb dX4_copy_56 rfl (lv_at hl 1 rfl) ?_
          refine q_aald (v := a_sheets0) fx h 1 rfl c8 (vinK (by decide)) rfl dX4_copy_57 ?_
          refine q_getN (v := .int v_sheets0_bits) fx inX1 h 2 rfl rfl 0 (by decide) nf_9 rfl dX4_copy_58 ?_
          refine lv_aload_n hx hb dX4_copy_61 rfl (lv_at hl 0 rfl) ?_
          refine q_get (v := .ref a_sheets) fx inX4 h 0 rfl rfl 5 (by decide) k_179 rfl dX4_copy_62 ?_
          refine lv_iload_n hx hb dX4_copy_65 rfl (lv_at hl 3 rfl) ?_
          refine q_aald (v := a_sheets2) fx h 1 rfl c11 (vinK (by decide)) rfl dX4_copy_66 ?_
          refine q_getN (v := .int v_sheets2_bits) fx inX1 h 6 rfl rfl 0 (by decide) nf_9 rfl dX4_copy_67 ?_
          refine lv_icmp_eq (tgt := 80) hx hb dX4_copy_70 (by decide) (fun c32 => ?_) (fun c32 => ?_)
          · have hf := it_t c32 hf
            refine lv_aload_n hx hb dX4_copy_80 rfl (lv_at hl 0 rfl) ?_
            refine q_get (v := .ref a_sheets) fx inX4 h 0 rfl rfl 5 (by decide) k_179 rfl dX4_copy_81 ?_
            refine lv_iload_n hx hb dX4_copy_84 rfl (lv_at hl 1 rfl) ?_
            refine q_aald (v := a_sheets0) fx h 1 rfl c8 (vinK (by decide)) rfl dX4_copy_85 ?_
            refine lv_iload_n hx hb dX4_copy_86 rfl (lv_at hl 2 rfl) ?_
            refine lv_iload hx hb dX4_copy_87 (lv_at hl 5 rfl) ?_
            obtain ⟨r33, k33, hg, hf⟩ := bR_inv hf
            refine q_ci (rest := []) (ws' := (wX4_copy cI cJ cZ cS a_t a_party a_kept a_tape a_telephone a_sheets a_sheets0 a_sheets0_numbers a_sheets1 a_sheets1_numbers a_sheets2 a_sheets2_numbers a_sheets3 a_sheets3_numbers a_findings v_isKept v_sheets0_bits v_sheets0_size v_sheets0_numbers v_sheets1_bits v_sheets1_size v_sheets1_numbers v_sheets2_bits v_sheets2_size v_sheets2_numbers v_sheets3_bits v_sheets3_size v_sheets3_numbers v_findings)) (w1 := (wX1_hasRun cI cJ cZ cS a_sheets0 a_sheets0_numbers v_sheets0_bits v_sheets0_size)) fx h [2] rfl rfl rfl rfl (q_runV fx h hl.1 [2] rfl rfl (tX1_hasRun l D cI cJ cZ cS tb a_sheets0 a_sheets0_numbers H.size v_sheets0_bits v_sheets0_size x2 x5 r33 k33 hg) mvX1_hasRun k_566 ⟨rfl, rfl⟩ ⟨Nat.le_of_ble_eq_true rfl, Nat.le_of_ble_eq_true rfl⟩ rfl rfl rfl rfl (Nat.le_of_ble_eq_true rfl) dX4_copy_89 ⟨Nat.le_of_ble_eq_true rfl, Nat.le_of_ble_eq_true rfl⟩) (fun H locs h => ?_)
            refine lv_if_eq (tgt := 111) hx hb dX4_copy_92 (by decide) (fun c34 => ?_) (fun c34 => ?_)
            · have hf := it_t c34 hf
              exact LX4_copy_111 fx h (lv_sub hl [0] rfl) hf
            have hf := it_f c34 hf
            refine lv_aload_n hx hb dX4_copy_95 rfl (lv_at hl 0 rfl) ?_
            refine q_get (v := .ref a_sheets) fx inX4 h 0 rfl rfl 5 (by decide) k_179 rfl dX4_copy_96 ?_
            refine lv_iload_n hx hb dX4_copy_99 rfl (lv_at hl 3 rfl) ?_
            refine q_aald (v := a_sheets2) fx h 1 rfl c11 (vinK (by decide)) rfl dX4_copy_100 ?_
            refine lv_iload hx hb dX4_copy_101 (lv_at hl 4 rfl) ?_
            refine lv_iload hx hb dX4_copy_103 (lv_at hl 5 rfl) ?_
            obtain ⟨r35, k35, hg, hf⟩ := bR_inv hf
            refine q_ci (rest := []) (ws' := (wX4_copy cI cJ cZ cS a_t a_party a_kept a_tape a_telephone a_sheets a_sheets0 a_sheets0_numbers a_sheets1 a_sheets1_numbers a_sheets2 a_sheets2_numbers a_sheets3 a_sheets3_numbers a_findings v_isKept v_sheets0_bits v_sheets0_size v_sheets0_numbers v_sheets1_bits v_sheets1_size v_sheets1_numbers v_sheets2_bits v_sheets2_size v_sheets2_numbers v_sheets3_bits v_sheets3_size v_sheets3_numbers v_findings)) (w1 := (wX1_hasRun cI cJ cZ cS a_sheets2 a_sheets2_numbers v_sheets2_bits v_sheets2_size)) fx h [6] rfl rfl rfl rfl (q_runV fx h hl.1 [6] rfl rfl (tX1_hasRun l D cI cJ cZ cS tb a_sheets2 a_sheets2_numbers H.size v_sheets2_bits v_sheets2_size x4 x5 r35 k35 hg) mvX1_hasRun k_566 ⟨rfl, rfl⟩ ⟨Nat.le_of_ble_eq_true rfl, Nat.le_of_ble_eq_true rfl⟩ rfl rfl rfl rfl (Nat.le_of_ble_eq_true rfl) dX4_copy_105 ⟨Nat.le_of_ble_eq_true rfl, Nat.le_of_ble_eq_true rfl⟩) (fun H locs h => ?_)
            refine lv_if_ne (tgt := 118) hx hb dX4_copy_108 (by decide) (fun c36 => ?_) (fun c36 => ?_)
            · have hf := it_f c36 hf
              refine lv_aload_n hx hb dX4_copy_118 rfl (lv_at hl 0 rfl) ?_
              refine q_get (v := .ref a_sheets) fx inX4 h 0 rfl rfl 5 (by decide) k_179 rfl dX4_copy_119 ?_
              refine lv_iload_n hx hb dX4_copy_122 rfl (lv_at hl 1 rfl) ?_
              refine q_aald (v := a_sheets0) fx h 1 rfl c8 (vinK (by decide)) rfl dX4_copy_123 ?_
              refine q_getN (v := .ref a_sheets0_numbers) fx inX1 h 2 rfl rfl 2 (by decide) nf_11 rfl dX4_copy_124 ?_
              refine lv_iload_n hx hb dX4_copy_127 rfl (lv_at hl 2 rfl) ?_
              refine lv_aload_n hx hb dX4_copy_128 rfl (lv_at hl 0 rfl) ?_
              refine q_get (v := .ref a_sheets) fx inX4 h 0 rfl rfl 5 (by decide) k_179 rfl dX4_copy_129 ?_
              refine lv_iload_n hx hb dX4_copy_132 rfl (lv_at hl 3 rfl) ?_
              refine q_aald (v := a_sheets2) fx h 1 rfl c11 (vinK (by decide)) rfl dX4_copy_133 ?_
              refine q_getN (v := .ref a_sheets2_numbers) fx inX1 h 6 rfl rfl 2 (by decide) nf_11 rfl dX4_copy_134 ?_
              refine lv_iload hx hb dX4_copy_137 (lv_at hl 4 rfl) ?_
              refine lv_iload hx hb dX4_copy_139 (lv_at hl 5 rfl) ?_
              obtain ⟨i37, hf⟩ := gCp_inv hf
              refine q_copyl (ws' := (wX4_copy cI cJ cZ cS a_t a_party a_kept a_tape a_telephone a_sheets a_sheets0 a_sheets0_numbers a_sheets1 a_sheets1_numbers a_sheets2 a_sheets2_numbers a_sheets3 a_sheets3_numbers a_findings v_isKept v_sheets0_bits v_sheets0_size v_sheets0_numbers v_sheets1_bits v_sheets1_size v_sheets1_numbers v_sheets2_bits v_sheets2_size (va_cpy v_sheets0_numbers v_sheets2_numbers x2.toNatClampNeg x4.toNatClampNeg x5.toNatClampNeg) v_sheets3_bits v_sheets3_size v_sheets3_numbers v_findings)) fx h hl.1 3 7 rfl rfl k_570 k_572 k_571 k_58 i37 (Nat.le_of_ble_eq_true rfl) (Nat.le_of_ble_eq_true rfl) rfl dX4_copy_141 (fun H locs h => ?_)
              refine lv_iload hx hb dX4_copy_144 (lv_at hl 5 rfl) ?_
              exact q_reti (fun k : (Nat → Int64) × (Nat → Int64) × (Nat → Int64) × (Nat → Int64) × (Nat → Int32) => (wX4_copy cI cJ cZ cS a_t a_party a_kept a_tape a_telephone a_sheets a_sheets0 a_sheets0_numbers a_sheets1 a_sheets1_numbers a_sheets2 a_sheets2_numbers a_sheets3 a_sheets3_numbers a_findings v_isKept v_sheets0_bits v_sheets0_size k.1 v_sheets1_bits v_sheets1_size k.2.1 v_sheets2_bits v_sheets2_size k.2.2.1 v_sheets3_bits v_sheets3_size k.2.2.2.1 k.2.2.2.2)) fx hf h dX4_copy_146
            have hf := it_t c36 hf
            exact LX4_copy_111 fx h (lv_sub hl [0] rfl) hf
          have hf := it_f c32 hf
          refine lv_aload_n hx hb dX4_copy_73 rfl (lv_at hl 0 rfl) ?_
          refine q_ldc fx k_269 dX4_copy_74 ?_
          obtain ⟨r38, k38, hg, hf⟩ := bR_inv hf
          refine q_ci (rest := []) (ws' := (wX4_copy cI cJ cZ cS a_t a_party a_kept a_tape a_telephone a_sheets a_sheets0 a_sheets0_numbers a_sheets1 a_sheets1_numbers a_sheets2 a_sheets2_numbers a_sheets3 a_sheets3_numbers a_findings v_isKept v_sheets0_bits v_sheets0_size v_sheets0_numbers v_sheets1_bits v_sheets1_size v_sheets1_numbers v_sheets2_bits v_sheets2_size v_sheets2_numbers v_sheets3_bits v_sheets3_size v_sheets3_numbers k38)) (w1 := (wX4_found cI cJ cZ cS a_t a_party a_kept a_tape a_telephone a_sheets a_findings v_isKept k38)) fx h [0, 10] rfl rfl rfl rfl (q_runV fx h hl.1 [0, 10] rfl rfl (tX4_found l D cI cJ cZ cS tb a_t a_party a_kept a_tape a_telephone a_sheets a_findings H.size v_isKept v_findings (-1000000003) r38 k38 hg) mvX4_found k_207 ⟨rfl, rfl⟩ ⟨Nat.le_of_ble_eq_true rfl, Nat.le_of_ble_eq_true rfl⟩ rfl rfl rfl rfl (Nat.le_of_ble_eq_true rfl) dX4_copy_76 ⟨Nat.le_of_ble_eq_true rfl, Nat.le_of_ble_eq_true rfl⟩) (fun H locs h => ?_)
          exact q_reti (fun k : (Nat → Int64) × (Nat → Int64) × (Nat → Int64) × (Nat → Int64) × (Nat → Int32) => (wX4_copy cI cJ cZ cS a_t a_party a_kept a_tape a_telephone a_sheets a_sheets0 a_sheets0_numbers a_sheets1 a_sheets1_numbers a_sheets2 a_sheets2_numbers a_sheets3 a_sheets3_numbers a_findings v_isKept v_sheets0_bits v_sheets0_size k.1 v_sheets1_bits v_sheets1_size k.2.1 v_sheets2_bits v_sheets2_size k.2.2.1 v_sheets3_bits v_sheets3_size k.2.2.2.1 k.2.2.2.2)) fx hf h dX4_copy_79
        have hf := it_f c31 hf
        exact LX4_copy_45 fx h (lv_sub hl [0] rfl) hf
      · refine q_aald (v := a_sheets3) fx h 1 rfl c11 (vinK (by decide)) rfl dX4_copy_38 ?_
        obtain ⟨r39, k39, hg, hf⟩ := bR_inv hf
        refine q_ci (rest := []) (ws' := (wX4_copy cI cJ cZ cS a_t a_party a_kept a_tape a_telephone a_sheets a_sheets0 a_sheets0_numbers a_sheets1 a_sheets1_numbers a_sheets2 a_sheets2_numbers a_sheets3 a_sheets3_numbers a_findings v_isKept v_sheets0_bits v_sheets0_size v_sheets0_numbers v_sheets1_bits v_sheets1_size v_sheets1_numbers v_sheets2_bits v_sheets2_size v_sheets2_numbers v_sheets3_bits v_sheets3_size v_sheets3_numbers v_findings)) (w1 := (wX1_isMissing cI cJ cZ cS a_sheets3 a_sheets3_numbers v_sheets3_bits v_sheets3_size)) fx h [8] rfl rfl rfl rfl (q_runV fx h hl.1 [8] rfl rfl (tX1_isMissing l D cI cJ cZ cS tb a_sheets3 a_sheets3_numbers H.size v_sheets3_bits v_sheets3_size r39 k39 hg) mvX1_isMissing k_553 ⟨rfl, rfl⟩ ⟨Nat.le_of_ble_eq_true rfl, Nat.le_of_ble_eq_true rfl⟩ rfl rfl rfl rfl (Nat.le_of_ble_eq_true rfl) dX4_copy_39 ⟨Nat.le_of_ble_eq_true rfl, Nat.le_of_ble_eq_true rfl⟩) (fun H locs h => ?_)
        refine lv_if_eq (tgt := 52) hx hb dX4_copy_42 (by decide) (fun c40 => ?_) (fun c40 => ?_)
        · have hf := it_t c40 hf
          refine lv_aload_n hx hb dX4_copy_52 rfl (lv_at hl 0 rfl) ?_
          refine q_get (v := .ref a_sheets) fx inX4 h 0 rfl rfl 5 (by decide) k_179 rfl dX4_copy_53 ?_
          refine lv_iload_n hx hb dX4_copy_56 rfl (lv_at hl 1 rfl) ?_
          refine q_aald (v := a_sheets0) fx h 1 rfl c8 (vinK (by decide)) rfl dX4_copy_57 ?_
          refine q_getN (v := .int v_sheets0_bits) fx inX1 h 2 rfl rfl 0 (by decide) nf_9 rfl dX4_copy_58 ?_
          refine lv_aload_n hx hb dX4_copy_61 rfl (lv_at hl 0 rfl) ?_
          refine q_get (v := .ref a_sheets) fx inX4 h 0 rfl rfl 5 (by decide) k_179 rfl dX4_copy_62 ?_
          refine lv_iload_n hx hb dX4_copy_65 rfl (lv_at hl 3 rfl) ?_
          refine q_aald (v := a_sheets3) fx h 1 rfl c11 (vinK (by decide)) rfl dX4_copy_66 ?_
          refine q_getN (v := .int v_sheets3_bits) fx inX1 h 8 rfl rfl 0 (by decide) nf_9 rfl dX4_copy_67 ?_
          refine lv_icmp_eq (tgt := 80) hx hb dX4_copy_70 (by decide) (fun c41 => ?_) (fun c41 => ?_)
          · have hf := it_t c41 hf
            refine lv_aload_n hx hb dX4_copy_80 rfl (lv_at hl 0 rfl) ?_
            refine q_get (v := .ref a_sheets) fx inX4 h 0 rfl rfl 5 (by decide) k_179 rfl dX4_copy_81 ?_
            refine lv_iload_n hx hb dX4_copy_84 rfl (lv_at hl 1 rfl) ?_
            refine q_aald (v := a_sheets0) fx h 1 rfl c8 (vinK (by decide)) rfl dX4_copy_85 ?_
            refine lv_iload_n hx hb dX4_copy_86 rfl (lv_at hl 2 rfl) ?_
            refine lv_iload hx hb dX4_copy_87 (lv_at hl 5 rfl) ?_
            obtain ⟨r42, k42, hg, hf⟩ := bR_inv hf
            refine q_ci (rest := []) (ws' := (wX4_copy cI cJ cZ cS a_t a_party a_kept a_tape a_telephone a_sheets a_sheets0 a_sheets0_numbers a_sheets1 a_sheets1_numbers a_sheets2 a_sheets2_numbers a_sheets3 a_sheets3_numbers a_findings v_isKept v_sheets0_bits v_sheets0_size v_sheets0_numbers v_sheets1_bits v_sheets1_size v_sheets1_numbers v_sheets2_bits v_sheets2_size v_sheets2_numbers v_sheets3_bits v_sheets3_size v_sheets3_numbers v_findings)) (w1 := (wX1_hasRun cI cJ cZ cS a_sheets0 a_sheets0_numbers v_sheets0_bits v_sheets0_size)) fx h [2] rfl rfl rfl rfl (q_runV fx h hl.1 [2] rfl rfl (tX1_hasRun l D cI cJ cZ cS tb a_sheets0 a_sheets0_numbers H.size v_sheets0_bits v_sheets0_size x2 x5 r42 k42 hg) mvX1_hasRun k_566 ⟨rfl, rfl⟩ ⟨Nat.le_of_ble_eq_true rfl, Nat.le_of_ble_eq_true rfl⟩ rfl rfl rfl rfl (Nat.le_of_ble_eq_true rfl) dX4_copy_89 ⟨Nat.le_of_ble_eq_true rfl, Nat.le_of_ble_eq_true rfl⟩) (fun H locs h => ?_)
            refine lv_if_eq (tgt := 111) hx hb dX4_copy_92 (by decide) (fun c43 => ?_) (fun c43 => ?_)
            · have hf := it_t c43 hf
              exact LX4_copy_111 fx h (lv_sub hl [0] rfl) hf
            have hf := it_f c43 hf
            refine lv_aload_n hx hb dX4_copy_95 rfl (lv_at hl 0 rfl) ?_
            refine q_get (v := .ref a_sheets) fx inX4 h 0 rfl rfl 5 (by decide) k_179 rfl dX4_copy_96 ?_
            refine lv_iload_n hx hb dX4_copy_99 rfl (lv_at hl 3 rfl) ?_
            refine q_aald (v := a_sheets3) fx h 1 rfl c11 (vinK (by decide)) rfl dX4_copy_100 ?_
            refine lv_iload hx hb dX4_copy_101 (lv_at hl 4 rfl) ?_
            refine lv_iload hx hb dX4_copy_103 (lv_at hl 5 rfl) ?_
            obtain ⟨r44, k44, hg, hf⟩ := bR_inv hf
            refine q_ci (rest := []) (ws' := (wX4_copy cI cJ cZ cS a_t a_party a_kept a_tape a_telephone a_sheets a_sheets0 a_sheets0_numbers a_sheets1 a_sheets1_numbers a_sheets2 a_sheets2_numbers a_sheets3 a_sheets3_numbers a_findings v_isKept v_sheets0_bits v_sheets0_size v_sheets0_numbers v_sheets1_bits v_sheets1_size v_sheets1_numbers v_sheets2_bits v_sheets2_size v_sheets2_numbers v_sheets3_bits v_sheets3_size v_sheets3_numbers v_findings)) (w1 := (wX1_hasRun cI cJ cZ cS a_sheets3 a_sheets3_numbers v_sheets3_bits v_sheets3_size)) fx h [8] rfl rfl rfl rfl (q_runV fx h hl.1 [8] rfl rfl (tX1_hasRun l D cI cJ cZ cS tb a_sheets3 a_sheets3_numbers H.size v_sheets3_bits v_sheets3_size x4 x5 r44 k44 hg) mvX1_hasRun k_566 ⟨rfl, rfl⟩ ⟨Nat.le_of_ble_eq_true rfl, Nat.le_of_ble_eq_true rfl⟩ rfl rfl rfl rfl (Nat.le_of_ble_eq_true rfl) dX4_copy_105 ⟨Nat.le_of_ble_eq_true rfl, Nat.le_of_ble_eq_true rfl⟩) (fun H locs h => ?_)
            refine lv_if_ne (tgt := 118) hx hb dX4_copy_108 (by decide) (fun c45 => ?_) (fun c45 => ?_)
            · have hf := it_f c45 hf
              refine lv_aload_n hx hb dX4_copy_118 rfl (lv_at hl 0 rfl) ?_
              refine q_get (v := .ref a_sheets) fx inX4 h 0 rfl rfl 5 (by decide) k_179 rfl dX4_copy_119 ?_
              refine lv_iload_n hx hb dX4_copy_122 rfl (lv_at hl 1 rfl) ?_
              refine q_aald (v := a_sheets0) fx h 1 rfl c8 (vinK (by decide)) rfl dX4_copy_123 ?_
              refine q_getN (v := .ref a_sheets0_numbers) fx inX1 h 2 rfl rfl 2 (by decide) nf_11 rfl dX4_copy_124 ?_
              refine lv_iload_n hx hb dX4_copy_127 rfl (lv_at hl 2 rfl) ?_
              refine lv_aload_n hx hb dX4_copy_128 rfl (lv_at hl 0 rfl) ?_
              refine q_get (v := .ref a_sheets) fx inX4 h 0 rfl rfl 5 (by decide) k_179 rfl dX4_copy_129 ?_
              refine lv_iload_n hx hb dX4_copy_132 rfl (lv_at hl 3 rfl) ?_
              refine q_aald (v := a_sheets3) fx h 1 rfl c11 (vinK (by decide)) rfl dX4_copy_133 ?_
              refine q_getN (v := .ref a_sheets3_numbers) fx inX1 h 8 rfl rfl 2 (by decide) nf_11 rfl dX4_copy_134 ?_
              refine lv_iload hx hb dX4_copy_137 (lv_at hl 4 rfl) ?_
              refine lv_iload hx hb dX4_copy_139 (lv_at hl 5 rfl) ?_
              obtain ⟨i46, hf⟩ := gCp_inv hf
              refine q_copyl (ws' := (wX4_copy cI cJ cZ cS a_t a_party a_kept a_tape a_telephone a_sheets a_sheets0 a_sheets0_numbers a_sheets1 a_sheets1_numbers a_sheets2 a_sheets2_numbers a_sheets3 a_sheets3_numbers a_findings v_isKept v_sheets0_bits v_sheets0_size v_sheets0_numbers v_sheets1_bits v_sheets1_size v_sheets1_numbers v_sheets2_bits v_sheets2_size v_sheets2_numbers v_sheets3_bits v_sheets3_size (va_cpy v_sheets0_numbers v_sheets3_numbers x2.toNatClampNeg x4.toNatClampNeg x5.toNatClampNeg) v_findings)) fx h hl.1 3 9 rfl rfl k_570 k_572 k_571 k_58 i46 (Nat.le_of_ble_eq_true rfl) (Nat.le_of_ble_eq_true rfl) rfl dX4_copy_141 (fun H locs h => ?_)
              refine lv_iload hx hb dX4_copy_144 (lv_at hl 5 rfl) ?_
              exact q_reti (fun k : (Nat → Int64) × (Nat → Int64) × (Nat → Int64) × (Nat → Int64) × (Nat → Int32) => (wX4_copy cI cJ cZ cS a_t a_party a_kept a_tape a_telephone a_sheets a_sheets0 a_sheets0_numbers a_sheets1 a_sheets1_numbers a_sheets2 a_sheets2_numbers a_sheets3 a_sheets3_numbers a_findings v_isKept v_sheets0_bits v_sheets0_size k.1 v_sheets1_bits v_sheets1_size k.2.1 v_sheets2_bits v_sheets2_size k.2.2.1 v_sheets3_bits v_sheets3_size k.2.2.2.1 k.2.2.2.2)) fx hf h dX4_copy_146
            have hf := it_t c45 hf
            exact LX4_copy_111 fx h (lv_sub hl [0] rfl) hf
          have hf := it_f c41 hf
          refine lv_aload_n hx hb dX4_copy_73 rfl (lv_at hl 0 rfl) ?_
          refine q_ldc fx k_269 dX4_copy_74 ?_
          obtain ⟨r47, k47, hg, hf⟩ := bR_inv hf
          refine q_ci (rest := []) (ws' := (wX4_copy cI cJ cZ cS a_t a_party a_kept a_tape a_telephone a_sheets a_sheets0 a_sheets0_numbers a_sheets1 a_sheets1_numbers a_sheets2 a_sheets2_numbers a_sheets3 a_sheets3_numbers a_findings v_isKept v_sheets0_bits v_sheets0_size v_sheets0_numbers v_sheets1_bits v_sheets1_size v_sheets1_numbers v_sheets2_bits v_sheets2_size v_sheets2_numbers v_sheets3_bits v_sheets3_size v_sheets3_numbers k47)) (w1 := (wX4_found cI cJ cZ cS a_t a_party a_kept a_tape a_telephone a_sheets a_findings v_isKept k47)) fx h [0, 10] rfl rfl rfl rfl (q_runV fx h hl.1 [0, 10] rfl rfl (tX4_found l D cI cJ cZ cS tb a_t a_party a_kept a_tape a_telephone a_sheets a_findings H.size v_isKept v_findings (-1000000003) r47 k47 hg) mvX4_found k_207 ⟨rfl, rfl⟩ ⟨Nat.le_of_ble_eq_true rfl, Nat.le_of_ble_eq_true rfl⟩ rfl rfl rfl rfl (Nat.le_of_ble_eq_true rfl) dX4_copy_76 ⟨Nat.le_of_ble_eq_true rfl, Nat.le_of_ble_eq_true rfl⟩) (fun H locs h => ?_)
          exact q_reti (fun k : (Nat → Int64) × (Nat → Int64) × (Nat → Int64) × (Nat → Int64) × (Nat → Int32) => (wX4_copy cI cJ cZ cS a_t a_party a_kept a_tape a_telephone a_sheets a_sheets0 a_sheets0_numbers a_sheets1 a_sheets1_numbers a_sheets2 a_sheets2_numbers a_sheets3 a_sheets3_numbers a_findings v_isKept v_sheets0_bits v_sheets0_size k.1 v_sheets1_bits v_sheets1_size k.2.1 v_sheets2_bits v_sheets2_size k.2.2.1 v_sheets3_bits v_sheets3_size k.2.2.2.1 k.2.2.2.2)) fx hf h dX4_copy_79
        have hf := it_f c40 hf
        exact LX4_copy_45 fx h (lv_sub hl [0] rfl) hf
    · refine q_aald (v := a_sheets1) fx h 1 rfl c8 (vinK (by decide)) rfl dX4_copy_26 ?_
      obtain ⟨r48, k48, hg, hf⟩ := bR_inv hf
      refine q_ci (rest := []) (ws' := (wX4_copy cI cJ cZ cS a_t a_party a_kept a_tape a_telephone a_sheets a_sheets0 a_sheets0_numbers a_sheets1 a_sheets1_numbers a_sheets2 a_sheets2_numbers a_sheets3 a_sheets3_numbers a_findings v_isKept v_sheets0_bits v_sheets0_size v_sheets0_numbers v_sheets1_bits v_sheets1_size v_sheets1_numbers v_sheets2_bits v_sheets2_size v_sheets2_numbers v_sheets3_bits v_sheets3_size v_sheets3_numbers v_findings)) (w1 := (wX1_isMissing cI cJ cZ cS a_sheets1 a_sheets1_numbers v_sheets1_bits v_sheets1_size)) fx h [4] rfl rfl rfl rfl (q_runV fx h hl.1 [4] rfl rfl (tX1_isMissing l D cI cJ cZ cS tb a_sheets1 a_sheets1_numbers H.size v_sheets1_bits v_sheets1_size r48 k48 hg) mvX1_isMissing k_553 ⟨rfl, rfl⟩ ⟨Nat.le_of_ble_eq_true rfl, Nat.le_of_ble_eq_true rfl⟩ rfl rfl rfl rfl (Nat.le_of_ble_eq_true rfl) dX4_copy_27 ⟨Nat.le_of_ble_eq_true rfl, Nat.le_of_ble_eq_true rfl⟩) (fun H locs h => ?_)
      refine lv_if_ne (tgt := 45) hx hb dX4_copy_30 (by decide) (fun c49 => ?_) (fun c49 => ?_)
      · have hf := it_f c49 hf
        exact LX4_copy_45 fx h (lv_sub hl [0] rfl) hf
      have hf := it_t c49 hf
      refine lv_aload_n hx hb dX4_copy_33 rfl (lv_at hl 0 rfl) ?_
      refine q_get (v := .ref a_sheets) fx inX4 h 0 rfl rfl 5 (by decide) k_179 rfl dX4_copy_34 ?_
      refine lv_iload_n hx hb dX4_copy_37 rfl (lv_at hl 3 rfl) ?_
      rcases sel4_inv hf with ⟨c50, hf⟩ | ⟨c50, hf⟩ | ⟨c50, hf⟩ | ⟨c50, hf⟩
      · refine q_aald (v := a_sheets0) fx h 1 rfl c50 (vinK (by decide)) rfl dX4_copy_38 ?_
        obtain ⟨r51, k51, hg, hf⟩ := bR_inv hf
        refine q_ci (rest := []) (ws' := (wX4_copy cI cJ cZ cS a_t a_party a_kept a_tape a_telephone a_sheets a_sheets0 a_sheets0_numbers a_sheets1 a_sheets1_numbers a_sheets2 a_sheets2_numbers a_sheets3 a_sheets3_numbers a_findings v_isKept v_sheets0_bits v_sheets0_size v_sheets0_numbers v_sheets1_bits v_sheets1_size v_sheets1_numbers v_sheets2_bits v_sheets2_size v_sheets2_numbers v_sheets3_bits v_sheets3_size v_sheets3_numbers v_findings)) (w1 := (wX1_isMissing cI cJ cZ cS a_sheets0 a_sheets0_numbers v_sheets0_bits v_sheets0_size)) fx h [2] rfl rfl rfl rfl (q_runV fx h hl.1 [2] rfl rfl (tX1_isMissing l D cI cJ cZ cS tb a_sheets0 a_sheets0_numbers H.size v_sheets0_bits v_sheets0_size r51 k51 hg) mvX1_isMissing k_553 ⟨rfl, rfl⟩ ⟨Nat.le_of_ble_eq_true rfl, Nat.le_of_ble_eq_true rfl⟩ rfl rfl rfl rfl (Nat.le_of_ble_eq_true rfl) dX4_copy_39 ⟨Nat.le_of_ble_eq_true rfl, Nat.le_of_ble_eq_true rfl⟩) (fun H locs h => ?_)
        refine lv_if_eq (tgt := 52) hx hb dX4_copy_42 (by decide) (fun c52 => ?_) (fun c52 => ?_)
        · have hf := it_t c52 hf
          refine lv_aload_n hx hb dX4_copy_52 rfl (lv_at hl 0 rfl) ?_
          refine q_get (v := .ref a_sheets) fx inX4 h 0 rfl rfl 5 (by decide) k_179 rfl dX4_copy_53 ?_
          refine lv_iload_n hx hb dX4_copy_56 rfl (lv_at hl 1 rfl) ?_
          refine q_aald (v := a_sheets1) fx h 1 rfl c8 (vinK (by decide)) rfl dX4_copy_57 ?_
          refine q_getN (v := .int v_sheets1_bits) fx inX1 h 4 rfl rfl 0 (by decide) nf_9 rfl dX4_copy_58 ?_
          refine lv_aload_n hx hb dX4_copy_61 rfl (lv_at hl 0 rfl) ?_
          refine q_get (v := .ref a_sheets) fx inX4 h 0 rfl rfl 5 (by decide) k_179 rfl dX4_copy_62 ?_
          refine lv_iload_n hx hb dX4_copy_65 rfl (lv_at hl 3 rfl) ?_
          refine q_aald (v := a_sheets0) fx h 1 rfl c50 (vinK (by decide)) rfl dX4_copy_66 ?_
          refine q_getN (v := .int v_sheets0_bits) fx inX1 h 2 rfl rfl 0 (by decide) nf_9 rfl dX4_copy_67 ?_
          refine lv_icmp_eq (tgt := 80) hx hb dX4_copy_70 (by decide) (fun c53 => ?_) (fun c53 => ?_)
          · have hf := it_t c53 hf
            refine lv_aload_n hx hb dX4_copy_80 rfl (lv_at hl 0 rfl) ?_
            refine q_get (v := .ref a_sheets) fx inX4 h 0 rfl rfl 5 (by decide) k_179 rfl dX4_copy_81 ?_
            refine lv_iload_n hx hb dX4_copy_84 rfl (lv_at hl 1 rfl) ?_
            refine q_aald (v := a_sheets1) fx h 1 rfl c8 (vinK (by decide)) rfl dX4_copy_85 ?_
            refine lv_iload_n hx hb dX4_copy_86 rfl (lv_at hl 2 rfl) ?_
            refine lv_iload hx hb dX4_copy_87 (lv_at hl 5 rfl) ?_
            obtain ⟨r54, k54, hg, hf⟩ := bR_inv hf
            refine q_ci (rest := []) (ws' := (wX4_copy cI cJ cZ cS a_t a_party a_kept a_tape a_telephone a_sheets a_sheets0 a_sheets0_numbers a_sheets1 a_sheets1_numbers a_sheets2 a_sheets2_numbers a_sheets3 a_sheets3_numbers a_findings v_isKept v_sheets0_bits v_sheets0_size v_sheets0_numbers v_sheets1_bits v_sheets1_size v_sheets1_numbers v_sheets2_bits v_sheets2_size v_sheets2_numbers v_sheets3_bits v_sheets3_size v_sheets3_numbers v_findings)) (w1 := (wX1_hasRun cI cJ cZ cS a_sheets1 a_sheets1_numbers v_sheets1_bits v_sheets1_size)) fx h [4] rfl rfl rfl rfl (q_runV fx h hl.1 [4] rfl rfl (tX1_hasRun l D cI cJ cZ cS tb a_sheets1 a_sheets1_numbers H.size v_sheets1_bits v_sheets1_size x2 x5 r54 k54 hg) mvX1_hasRun k_566 ⟨rfl, rfl⟩ ⟨Nat.le_of_ble_eq_true rfl, Nat.le_of_ble_eq_true rfl⟩ rfl rfl rfl rfl (Nat.le_of_ble_eq_true rfl) dX4_copy_89 ⟨Nat.le_of_ble_eq_true rfl, Nat.le_of_ble_eq_true rfl⟩) (fun H locs h => ?_)
            refine lv_if_eq (tgt := 111) hx hb dX4_copy_92 (by decide) (fun c55 => ?_) (fun c55 => ?_)
            · have hf := it_t c55 hf
              exact LX4_copy_111 fx h (lv_sub hl [0] rfl) hf
            have hf := it_f c55 hf
            refine lv_aload_n hx hb dX4_copy_95 rfl (lv_at hl 0 rfl) ?_
            refine q_get (v := .ref a_sheets) fx inX4 h 0 rfl rfl 5 (by decide) k_179 rfl dX4_copy_96 ?_
            refine lv_iload_n hx hb dX4_copy_99 rfl (lv_at hl 3 rfl) ?_
            refine q_aald (v := a_sheets0) fx h 1 rfl c50 (vinK (by decide)) rfl dX4_copy_100 ?_
            refine lv_iload hx hb dX4_copy_101 (lv_at hl 4 rfl) ?_
            refine lv_iload hx hb dX4_copy_103 (lv_at hl 5 rfl) ?_
            obtain ⟨r56, k56, hg, hf⟩ := bR_inv hf
            refine q_ci (rest := []) (ws' := (wX4_copy cI cJ cZ cS a_t a_party a_kept a_tape a_telephone a_sheets a_sheets0 a_sheets0_numbers a_sheets1 a_sheets1_numbers a_sheets2 a_sheets2_numbers a_sheets3 a_sheets3_numbers a_findings v_isKept v_sheets0_bits v_sheets0_size v_sheets0_numbers v_sheets1_bits v_sheets1_size v_sheets1_numbers v_sheets2_bits v_sheets2_size v_sheets2_numbers v_sheets3_bits v_sheets3_size v_sheets3_numbers v_findings)) (w1 := (wX1_hasRun cI cJ cZ cS a_sheets0 a_sheets0_numbers v_sheets0_bits v_sheets0_size)) fx h [2] rfl rfl rfl rfl (q_runV fx h hl.1 [2] rfl rfl (tX1_hasRun l D cI cJ cZ cS tb a_sheets0 a_sheets0_numbers H.size v_sheets0_bits v_sheets0_size x4 x5 r56 k56 hg) mvX1_hasRun k_566 ⟨rfl, rfl⟩ ⟨Nat.le_of_ble_eq_true rfl, Nat.le_of_ble_eq_true rfl⟩ rfl rfl rfl rfl (Nat.le_of_ble_eq_true rfl) dX4_copy_105 ⟨Nat.le_of_ble_eq_true rfl, Nat.le_of_ble_eq_true rfl⟩) (fun H locs h => ?_)
            refine lv_if_ne (tgt := 118) hx hb dX4_copy_108 (by decide) (fun c57 => ?_) (fun c57 => ?_)
            · have hf := it_f c57 hf
              refine lv_aload_n hx hb dX4_copy_118 rfl (lv_at hl 0 rfl) ?_
              refine q_get (v := .ref a_sheets) fx inX4 h 0 rfl rfl 5 (by decide) k_179 rfl dX4_copy_119 ?_
              refine lv_iload_n hx hb dX4_copy_122 rfl (lv_at hl 1 rfl) ?_
              refine q_aald (v := a_sheets1) fx h 1 rfl c8 (vinK (by decide)) rfl dX4_copy_123 ?_
              refine q_getN (v := .ref a_sheets1_numbers) fx inX1 h 4 rfl rfl 2 (by decide) nf_11 rfl dX4_copy_124 ?_
              refine lv_iload_n hx hb dX4_copy_127 rfl (lv_at hl 2 rfl) ?_
              refine lv_aload_n hx hb dX4_copy_128 rfl (lv_at hl 0 rfl) ?_
              refine q_get (v := .ref a_sheets) fx inX4 h 0 rfl rfl 5 (by decide) k_179 rfl dX4_copy_129 ?_
              refine lv_iload_n hx hb dX4_copy_132 rfl (lv_at hl 3 rfl) ?_
              refine q_aald (v := a_sheets0) fx h 1 rfl c50 (vinK (by decide)) rfl dX4_copy_133 ?_
              refine q_getN (v := .ref a_sheets0_numbers) fx inX1 h 2 rfl rfl 2 (by decide) nf_11 rfl dX4_copy_134 ?_
              refine lv_iload hx hb dX4_copy_137 (lv_at hl 4 rfl) ?_
              refine lv_iload hx hb dX4_copy_139 (lv_at hl 5 rfl) ?_
              obtain ⟨i58, hf⟩ := gCp_inv hf
              refine q_copyl (ws' := (wX4_copy cI cJ cZ cS a_t a_party a_kept a_tape a_telephone a_sheets a_sheets0 a_sheets0_numbers a_sheets1 a_sheets1_numbers a_sheets2 a_sheets2_numbers a_sheets3 a_sheets3_numbers a_findings v_isKept v_sheets0_bits v_sheets0_size (va_cpy v_sheets1_numbers v_sheets0_numbers x2.toNatClampNeg x4.toNatClampNeg x5.toNatClampNeg) v_sheets1_bits v_sheets1_size v_sheets1_numbers v_sheets2_bits v_sheets2_size v_sheets2_numbers v_sheets3_bits v_sheets3_size v_sheets3_numbers v_findings)) fx h hl.1 5 3 rfl rfl k_570 k_572 k_571 k_58 i58 (Nat.le_of_ble_eq_true rfl) (Nat.le_of_ble_eq_true rfl) rfl dX4_copy_141 (fun H locs h => ?_)
              refine lv_iload hx hb dX4_copy_144 (lv_at hl 5 rfl) ?_
              exact q_reti (fun k : (Nat → Int64) × (Nat → Int64) × (Nat → Int64) × (Nat → Int64) × (Nat → Int32) => (wX4_copy cI cJ cZ cS a_t a_party a_kept a_tape a_telephone a_sheets a_sheets0 a_sheets0_numbers a_sheets1 a_sheets1_numbers a_sheets2 a_sheets2_numbers a_sheets3 a_sheets3_numbers a_findings v_isKept v_sheets0_bits v_sheets0_size k.1 v_sheets1_bits v_sheets1_size k.2.1 v_sheets2_bits v_sheets2_size k.2.2.1 v_sheets3_bits v_sheets3_size k.2.2.2.1 k.2.2.2.2)) fx hf h dX4_copy_146
            have hf := it_t c57 hf
            exact LX4_copy_111 fx h (lv_sub hl [0] rfl) hf
          have hf := it_f c53 hf
          refine lv_aload_n hx hb dX4_copy_73 rfl (lv_at hl 0 rfl) ?_
          refine q_ldc fx k_269 dX4_copy_74 ?_
          obtain ⟨r59, k59, hg, hf⟩ := bR_inv hf
          refine q_ci (rest := []) (ws' := (wX4_copy cI cJ cZ cS a_t a_party a_kept a_tape a_telephone a_sheets a_sheets0 a_sheets0_numbers a_sheets1 a_sheets1_numbers a_sheets2 a_sheets2_numbers a_sheets3 a_sheets3_numbers a_findings v_isKept v_sheets0_bits v_sheets0_size v_sheets0_numbers v_sheets1_bits v_sheets1_size v_sheets1_numbers v_sheets2_bits v_sheets2_size v_sheets2_numbers v_sheets3_bits v_sheets3_size v_sheets3_numbers k59)) (w1 := (wX4_found cI cJ cZ cS a_t a_party a_kept a_tape a_telephone a_sheets a_findings v_isKept k59)) fx h [0, 10] rfl rfl rfl rfl (q_runV fx h hl.1 [0, 10] rfl rfl (tX4_found l D cI cJ cZ cS tb a_t a_party a_kept a_tape a_telephone a_sheets a_findings H.size v_isKept v_findings (-1000000003) r59 k59 hg) mvX4_found k_207 ⟨rfl, rfl⟩ ⟨Nat.le_of_ble_eq_true rfl, Nat.le_of_ble_eq_true rfl⟩ rfl rfl rfl rfl (Nat.le_of_ble_eq_true rfl) dX4_copy_76 ⟨Nat.le_of_ble_eq_true rfl, Nat.le_of_ble_eq_true rfl⟩) (fun H locs h => ?_)
          exact q_reti (fun k : (Nat → Int64) × (Nat → Int64) × (Nat → Int64) × (Nat → Int64) × (Nat → Int32) => (wX4_copy cI cJ cZ cS a_t a_party a_kept a_tape a_telephone a_sheets a_sheets0 a_sheets0_numbers a_sheets1 a_sheets1_numbers a_sheets2 a_sheets2_numbers a_sheets3 a_sheets3_numbers a_findings v_isKept v_sheets0_bits v_sheets0_size k.1 v_sheets1_bits v_sheets1_size k.2.1 v_sheets2_bits v_sheets2_size k.2.2.1 v_sheets3_bits v_sheets3_size k.2.2.2.1 k.2.2.2.2)) fx hf h dX4_copy_79
        have hf := it_f c52 hf
        exact LX4_copy_45 fx h (lv_sub hl [0] rfl) hf
      · refine q_aald (v := a_sheets1) fx h 1 rfl c50 (vinK (by decide)) rfl dX4_copy_38 ?_
        obtain ⟨r60, k60, hg, hf⟩ := bR_inv hf
        refine q_ci (rest := []) (ws' := (wX4_copy cI cJ cZ cS a_t a_party a_kept a_tape a_telephone a_sheets a_sheets0 a_sheets0_numbers a_sheets1 a_sheets1_numbers a_sheets2 a_sheets2_numbers a_sheets3 a_sheets3_numbers a_findings v_isKept v_sheets0_bits v_sheets0_size v_sheets0_numbers v_sheets1_bits v_sheets1_size v_sheets1_numbers v_sheets2_bits v_sheets2_size v_sheets2_numbers v_sheets3_bits v_sheets3_size v_sheets3_numbers v_findings)) (w1 := (wX1_isMissing cI cJ cZ cS a_sheets1 a_sheets1_numbers v_sheets1_bits v_sheets1_size)) fx h [4] rfl rfl rfl rfl (q_runV fx h hl.1 [4] rfl rfl (tX1_isMissing l D cI cJ cZ cS tb a_sheets1 a_sheets1_numbers H.size v_sheets1_bits v_sheets1_size r60 k60 hg) mvX1_isMissing k_553 ⟨rfl, rfl⟩ ⟨Nat.le_of_ble_eq_true rfl, Nat.le_of_ble_eq_true rfl⟩ rfl rfl rfl rfl (Nat.le_of_ble_eq_true rfl) dX4_copy_39 ⟨Nat.le_of_ble_eq_true rfl, Nat.le_of_ble_eq_true rfl⟩) (fun H locs h => ?_)
        refine lv_if_eq (tgt := 52) hx hb dX4_copy_42 (by decide) (fun c61 => ?_) (fun c61 => ?_)
        · have hf := it_t c61 hf
          refine lv_aload_n hx hb dX4_copy_52 rfl (lv_at hl 0 rfl) ?_
          refine q_get (v := .ref a_sheets) fx inX4 h 0 rfl rfl 5 (by decide) k_179 rfl dX4_copy_53 ?_
          refine lv_iload_n hx hb dX4_copy_56 rfl (lv_at hl 1 rfl) ?_
          refine q_aald (v := a_sheets1) fx h 1 rfl c8 (vinK (by decide)) rfl dX4_copy_57 ?_
          refine q_getN (v := .int v_sheets1_bits) fx inX1 h 4 rfl rfl 0 (by decide) nf_9 rfl dX4_copy_58 ?_
          refine lv_aload_n hx hb dX4_copy_61 rfl (lv_at hl 0 rfl) ?_
          refine q_get (v := .ref a_sheets) fx inX4 h 0 rfl rfl 5 (by decide) k_179 rfl dX4_copy_62 ?_
          refine lv_iload_n hx hb dX4_copy_65 rfl (lv_at hl 3 rfl) ?_
          refine q_aald (v := a_sheets1) fx h 1 rfl c50 (vinK (by decide)) rfl dX4_copy_66 ?_
          refine q_getN (v := .int v_sheets1_bits) fx inX1 h 4 rfl rfl 0 (by decide) nf_9 rfl dX4_copy_67 ?_
          refine lv_icmp_eq (tgt := 80) hx hb dX4_copy_70 (by decide) (fun c62 => ?_) (fun c62 => ?_)
          · have hf := it_t c62 hf
            refine lv_aload_n hx hb dX4_copy_80 rfl (lv_at hl 0 rfl) ?_
            refine q_get (v := .ref a_sheets) fx inX4 h 0 rfl rfl 5 (by decide) k_179 rfl dX4_copy_81 ?_
            refine lv_iload_n hx hb dX4_copy_84 rfl (lv_at hl 1 rfl) ?_
            refine q_aald (v := a_sheets1) fx h 1 rfl c8 (vinK (by decide)) rfl dX4_copy_85 ?_
            refine lv_iload_n hx hb dX4_copy_86 rfl (lv_at hl 2 rfl) ?_
            refine lv_iload hx hb dX4_copy_87 (lv_at hl 5 rfl) ?_
            obtain ⟨r63, k63, hg, hf⟩ := bR_inv hf
            refine q_ci (rest := []) (ws' := (wX4_copy cI cJ cZ cS a_t a_party a_kept a_tape a_telephone a_sheets a_sheets0 a_sheets0_numbers a_sheets1 a_sheets1_numbers a_sheets2 a_sheets2_numbers a_sheets3 a_sheets3_numbers a_findings v_isKept v_sheets0_bits v_sheets0_size v_sheets0_numbers v_sheets1_bits v_sheets1_size v_sheets1_numbers v_sheets2_bits v_sheets2_size v_sheets2_numbers v_sheets3_bits v_sheets3_size v_sheets3_numbers v_findings)) (w1 := (wX1_hasRun cI cJ cZ cS a_sheets1 a_sheets1_numbers v_sheets1_bits v_sheets1_size)) fx h [4] rfl rfl rfl rfl (q_runV fx h hl.1 [4] rfl rfl (tX1_hasRun l D cI cJ cZ cS tb a_sheets1 a_sheets1_numbers H.size v_sheets1_bits v_sheets1_size x2 x5 r63 k63 hg) mvX1_hasRun k_566 ⟨rfl, rfl⟩ ⟨Nat.le_of_ble_eq_true rfl, Nat.le_of_ble_eq_true rfl⟩ rfl rfl rfl rfl (Nat.le_of_ble_eq_true rfl) dX4_copy_89 ⟨Nat.le_of_ble_eq_true rfl, Nat.le_of_ble_eq_true rfl⟩) (fun H locs h => ?_)
            refine lv_if_eq (tgt := 111) hx hb dX4_copy_92 (by decide) (fun c64 => ?_) (fun c64 => ?_)
            · have hf := it_t c64 hf
              exact LX4_copy_111 fx h (lv_sub hl [0] rfl) hf
            have hf := it_f c64 hf
            refine lv_aload_n hx hb dX4_copy_95 rfl (lv_at hl 0 rfl) ?_
            refine q_get (v := .ref a_sheets) fx inX4 h 0 rfl rfl 5 (by decide) k_179 rfl dX4_copy_96 ?_
            refine lv_iload_n hx hb dX4_copy_99 rfl (lv_at hl 3 rfl) ?_
            refine q_aald (v := a_sheets1) fx h 1 rfl c50 (vinK (by decide)) rfl dX4_copy_100 ?_
            refine lv_iload hx hb dX4_copy_101 (lv_at hl 4 rfl) ?_
            refine lv_iload hx hb dX4_copy_103 (lv_at hl 5 rfl) ?_
            obtain ⟨r65, k65, hg, hf⟩ := bR_inv hf
            refine q_ci (rest := []) (ws' := (wX4_copy cI cJ cZ cS a_t a_party a_kept a_tape a_telephone a_sheets a_sheets0 a_sheets0_numbers a_sheets1 a_sheets1_numbers a_sheets2 a_sheets2_numbers a_sheets3 a_sheets3_numbers a_findings v_isKept v_sheets0_bits v_sheets0_size v_sheets0_numbers v_sheets1_bits v_sheets1_size v_sheets1_numbers v_sheets2_bits v_sheets2_size v_sheets2_numbers v_sheets3_bits v_sheets3_size v_sheets3_numbers v_findings)) (w1 := (wX1_hasRun cI cJ cZ cS a_sheets1 a_sheets1_numbers v_sheets1_bits v_sheets1_size)) fx h [4] rfl rfl rfl rfl (q_runV fx h hl.1 [4] rfl rfl (tX1_hasRun l D cI cJ cZ cS tb a_sheets1 a_sheets1_numbers H.size v_sheets1_bits v_sheets1_size x4 x5 r65 k65 hg) mvX1_hasRun k_566 ⟨rfl, rfl⟩ ⟨Nat.le_of_ble_eq_true rfl, Nat.le_of_ble_eq_true rfl⟩ rfl rfl rfl rfl (Nat.le_of_ble_eq_true rfl) dX4_copy_105 ⟨Nat.le_of_ble_eq_true rfl, Nat.le_of_ble_eq_true rfl⟩) (fun H locs h => ?_)
            refine lv_if_ne (tgt := 118) hx hb dX4_copy_108 (by decide) (fun c66 => ?_) (fun c66 => ?_)
            · have hf := it_f c66 hf
              refine lv_aload_n hx hb dX4_copy_118 rfl (lv_at hl 0 rfl) ?_
              refine q_get (v := .ref a_sheets) fx inX4 h 0 rfl rfl 5 (by decide) k_179 rfl dX4_copy_119 ?_
              refine lv_iload_n hx hb dX4_copy_122 rfl (lv_at hl 1 rfl) ?_
              refine q_aald (v := a_sheets1) fx h 1 rfl c8 (vinK (by decide)) rfl dX4_copy_123 ?_
              refine q_getN (v := .ref a_sheets1_numbers) fx inX1 h 4 rfl rfl 2 (by decide) nf_11 rfl dX4_copy_124 ?_
              refine lv_iload_n hx hb dX4_copy_127 rfl (lv_at hl 2 rfl) ?_
              refine lv_aload_n hx hb dX4_copy_128 rfl (lv_at hl 0 rfl) ?_
              refine q_get (v := .ref a_sheets) fx inX4 h 0 rfl rfl 5 (by decide) k_179 rfl dX4_copy_129 ?_
              refine lv_iload_n hx hb dX4_copy_132 rfl (lv_at hl 3 rfl) ?_
              refine q_aald (v := a_sheets1) fx h 1 rfl c50 (vinK (by decide)) rfl dX4_copy_133 ?_
              refine q_getN (v := .ref a_sheets1_numbers) fx inX1 h 4 rfl rfl 2 (by decide) nf_11 rfl dX4_copy_134 ?_
              refine lv_iload hx hb dX4_copy_137 (lv_at hl 4 rfl) ?_
              refine lv_iload hx hb dX4_copy_139 (lv_at hl 5 rfl) ?_
              obtain ⟨i67, hf⟩ := gCp_inv hf
              refine q_copyl (ws' := (wX4_copy cI cJ cZ cS a_t a_party a_kept a_tape a_telephone a_sheets a_sheets0 a_sheets0_numbers a_sheets1 a_sheets1_numbers a_sheets2 a_sheets2_numbers a_sheets3 a_sheets3_numbers a_findings v_isKept v_sheets0_bits v_sheets0_size v_sheets0_numbers v_sheets1_bits v_sheets1_size (va_cpy v_sheets1_numbers v_sheets1_numbers x2.toNatClampNeg x4.toNatClampNeg x5.toNatClampNeg) v_sheets2_bits v_sheets2_size v_sheets2_numbers v_sheets3_bits v_sheets3_size v_sheets3_numbers v_findings)) fx h hl.1 5 5 rfl rfl k_570 k_572 k_571 k_58 i67 (Nat.le_of_ble_eq_true rfl) (Nat.le_of_ble_eq_true rfl) rfl dX4_copy_141 (fun H locs h => ?_)
              refine lv_iload hx hb dX4_copy_144 (lv_at hl 5 rfl) ?_
              exact q_reti (fun k : (Nat → Int64) × (Nat → Int64) × (Nat → Int64) × (Nat → Int64) × (Nat → Int32) => (wX4_copy cI cJ cZ cS a_t a_party a_kept a_tape a_telephone a_sheets a_sheets0 a_sheets0_numbers a_sheets1 a_sheets1_numbers a_sheets2 a_sheets2_numbers a_sheets3 a_sheets3_numbers a_findings v_isKept v_sheets0_bits v_sheets0_size k.1 v_sheets1_bits v_sheets1_size k.2.1 v_sheets2_bits v_sheets2_size k.2.2.1 v_sheets3_bits v_sheets3_size k.2.2.2.1 k.2.2.2.2)) fx hf h dX4_copy_146
            have hf := it_t c66 hf
            exact LX4_copy_111 fx h (lv_sub hl [0] rfl) hf
          have hf := it_f c62 hf
          refine lv_aload_n hx hb dX4_copy_73 rfl (lv_at hl 0 rfl) ?_
          refine q_ldc fx k_269 dX4_copy_74 ?_
          obtain ⟨r68, k68, hg, hf⟩ := bR_inv hf
          refine q_ci (rest := []) (ws' := (wX4_copy cI cJ cZ cS a_t a_party a_kept a_tape a_telephone a_sheets a_sheets0 a_sheets0_numbers a_sheets1 a_sheets1_numbers a_sheets2 a_sheets2_numbers a_sheets3 a_sheets3_numbers a_findings v_isKept v_sheets0_bits v_sheets0_size v_sheets0_numbers v_sheets1_bits v_sheets1_size v_sheets1_numbers v_sheets2_bits v_sheets2_size v_sheets2_numbers v_sheets3_bits v_sheets3_size v_sheets3_numbers k68)) (w1 := (wX4_found cI cJ cZ cS a_t a_party a_kept a_tape a_telephone a_sheets a_findings v_isKept k68)) fx h [0, 10] rfl rfl rfl rfl (q_runV fx h hl.1 [0, 10] rfl rfl (tX4_found l D cI cJ cZ cS tb a_t a_party a_kept a_tape a_telephone a_sheets a_findings H.size v_isKept v_findings (-1000000003) r68 k68 hg) mvX4_found k_207 ⟨rfl, rfl⟩ ⟨Nat.le_of_ble_eq_true rfl, Nat.le_of_ble_eq_true rfl⟩ rfl rfl rfl rfl (Nat.le_of_ble_eq_true rfl) dX4_copy_76 ⟨Nat.le_of_ble_eq_true rfl, Nat.le_of_ble_eq_true rfl⟩) (fun H locs h => ?_)
          exact q_reti (fun k : (Nat → Int64) × (Nat → Int64) × (Nat → Int64) × (Nat → Int64) × (Nat → Int32) => (wX4_copy cI cJ cZ cS a_t a_party a_kept a_tape a_telephone a_sheets a_sheets0 a_sheets0_numbers a_sheets1 a_sheets1_numbers a_sheets2 a_sheets2_numbers a_sheets3 a_sheets3_numbers a_findings v_isKept v_sheets0_bits v_sheets0_size k.1 v_sheets1_bits v_sheets1_size k.2.1 v_sheets2_bits v_sheets2_size k.2.2.1 v_sheets3_bits v_sheets3_size k.2.2.2.1 k.2.2.2.2)) fx hf h dX4_copy_79
        have hf := it_f c61 hf
        exact LX4_copy_45 fx h (lv_sub hl [0] rfl) hf
      · refine q_aald (v := a_sheets2) fx h 1 rfl c50 (vinK (by decide)) rfl dX4_copy_38 ?_
        obtain ⟨r69, k69, hg, hf⟩ := bR_inv hf
        refine q_ci (rest := []) (ws' := (wX4_copy cI cJ cZ cS a_t a_party a_kept a_tape a_telephone a_sheets a_sheets0 a_sheets0_numbers a_sheets1 a_sheets1_numbers a_sheets2 a_sheets2_numbers a_sheets3 a_sheets3_numbers a_findings v_isKept v_sheets0_bits v_sheets0_size v_sheets0_numbers v_sheets1_bits v_sheets1_size v_sheets1_numbers v_sheets2_bits v_sheets2_size v_sheets2_numbers v_sheets3_bits v_sheets3_size v_sheets3_numbers v_findings)) (w1 := (wX1_isMissing cI cJ cZ cS a_sheets2 a_sheets2_numbers v_sheets2_bits v_sheets2_size)) fx h [6] rfl rfl rfl rfl (q_runV fx h hl.1 [6] rfl rfl (tX1_isMissing l D cI cJ cZ cS tb a_sheets2 a_sheets2_numbers H.size v_sheets2_bits v_sheets2_size r69 k69 hg) mvX1_isMissing k_553 ⟨rfl, rfl⟩ ⟨Nat.le_of_ble_eq_true rfl, Nat.le_of_ble_eq_true rfl⟩ rfl rfl rfl rfl (Nat.le_of_ble_eq_true rfl) dX4_copy_39 ⟨Nat.le_of_ble_eq_true rfl, Nat.le_of_ble_eq_true rfl⟩) (fun H locs h => ?_)
        refine lv_if_eq (tgt := 52) hx hb dX4_copy_42 (by decide) (fun c70 => ?_) (fun c70 => ?_)
        · have hf := it_t c70 hf
          refine lv_aload_n hx hb dX4_copy_52 rfl (lv_at hl 0 rfl) ?_
          refine q_get (v := .ref a_sheets) fx inX4 h 0 rfl rfl 5 (by decide) k_179 rfl dX4_copy_53 ?_
          refine lv_iload_n hx hb dX4_copy_56 rfl (lv_at hl 1 rfl) ?_
          refine q_aald (v := a_sheets1) fx h 1 rfl c8 (vinK (by decide)) rfl dX4_copy_57 ?_
          refine q_getN (v := .int v_sheets1_bits) fx inX1 h 4 rfl rfl 0 (by decide) nf_9 rfl dX4_copy_58 ?_
          refine lv_aload_n hx hb dX4_copy_61 rfl (lv_at hl 0 rfl) ?_
          refine q_get (v := .ref a_sheets) fx inX4 h 0 rfl rfl 5 (by decide) k_179 rfl dX4_copy_62 ?_
          refine lv_iload_n hx hb dX4_copy_65 rfl (lv_at hl 3 rfl) ?_
          refine q_aald (v := a_sheets2) fx h 1 rfl c50 (vinK (by decide)) rfl dX4_copy_66 ?_
          refine q_getN (v := .int v_sheets2_bits) fx inX1 h 6 rfl rfl 0 (by decide) nf_9 rfl dX4_copy_67 ?_
          refine lv_icmp_eq (tgt := 80) hx hb dX4_copy_70 (by decide) (fun c71 => ?_) (fun c71 => ?_)
          · have hf := it_t c71 hf
            refine lv_aload_n hx hb dX4_copy_80 rfl (lv_at hl 0 rfl) ?_
            refine q_get (v := .ref a_sheets) fx inX4 h 0 rfl rfl 5 (by decide) k_179 rfl dX4_copy_81 ?_
            refine lv_iload_n hx hb dX4_copy_84 rfl (lv_at hl 1 rfl) ?_
            refine q_aald (v := a_sheets1) fx h 1 rfl c8 (vinK (by decide)) rfl dX4_copy_85 ?_
            refine lv_iload_n hx hb dX4_copy_86 rfl (lv_at hl 2 rfl) ?_
            refine lv_iload hx hb dX4_copy_87 (lv_at hl 5 rfl) ?_
            obtain ⟨r72, k72, hg, hf⟩ := bR_inv hf
            refine q_ci (rest := []) (ws' := (wX4_copy cI cJ cZ cS a_t a_party a_kept a_tape a_telephone a_sheets a_sheets0 a_sheets0_numbers a_sheets1 a_sheets1_numbers a_sheets2 a_sheets2_numbers a_sheets3 a_sheets3_numbers a_findings v_isKept v_sheets0_bits v_sheets0_size v_sheets0_numbers v_sheets1_bits v_sheets1_size v_sheets1_numbers v_sheets2_bits v_sheets2_size v_sheets2_numbers v_sheets3_bits v_sheets3_size v_sheets3_numbers v_findings)) (w1 := (wX1_hasRun cI cJ cZ cS a_sheets1 a_sheets1_numbers v_sheets1_bits v_sheets1_size)) fx h [4] rfl rfl rfl rfl (q_runV fx h hl.1 [4] rfl rfl (tX1_hasRun l D cI cJ cZ cS tb a_sheets1 a_sheets1_numbers H.size v_sheets1_bits v_sheets1_size x2 x5 r72 k72 hg) mvX1_hasRun k_566 ⟨rfl, rfl⟩ ⟨Nat.le_of_ble_eq_true rfl, Nat.le_of_ble_eq_true rfl⟩ rfl rfl rfl rfl (Nat.le_of_ble_eq_true rfl) dX4_copy_89 ⟨Nat.le_of_ble_eq_true rfl, Nat.le_of_ble_eq_true rfl⟩) (fun H locs h => ?_)
            refine lv_if_eq (tgt := 111) hx hb dX4_copy_92 (by decide) (fun c73 => ?_) (fun c73 => ?_)
            · have hf := it_t c73 hf
              exact LX4_copy_111 fx h (lv_sub hl [0] rfl) hf
            have hf := it_f c73 hf
            refine lv_aload_n hx hb dX4_copy_95 rfl (lv_at hl 0 rfl) ?_
            refine q_get (v := .ref a_sheets) fx inX4 h 0 rfl rfl 5 (by decide) k_179 rfl dX4_copy_96 ?_
            refine lv_iload_n hx hb dX4_copy_99 rfl (lv_at hl 3 rfl) ?_
            refine q_aald (v := a_sheets2) fx h 1 rfl c50 (vinK (by decide)) rfl dX4_copy_100 ?_
            refine lv_iload hx hb dX4_copy_101 (lv_at hl 4 rfl) ?_
            refine lv_iload hx hb dX4_copy_103 (lv_at hl 5 rfl) ?_
            obtain ⟨r74, k74, hg, hf⟩ := bR_inv hf
            refine q_ci (rest := []) (ws' := (wX4_copy cI cJ cZ cS a_t a_party a_kept a_tape a_telephone a_sheets a_sheets0 a_sheets0_numbers a_sheets1 a_sheets1_numbers a_sheets2 a_sheets2_numbers a_sheets3 a_sheets3_numbers a_findings v_isKept v_sheets0_bits v_sheets0_size v_sheets0_numbers v_sheets1_bits v_sheets1_size v_sheets1_numbers v_sheets2_bits v_sheets2_size v_sheets2_numbers v_sheets3_bits v_sheets3_size v_sheets3_numbers v_findings)) (w1 := (wX1_hasRun cI cJ cZ cS a_sheets2 a_sheets2_numbers v_sheets2_bits v_sheets2_size)) fx h [6] rfl rfl rfl rfl (q_runV fx h hl.1 [6] rfl rfl (tX1_hasRun l D cI cJ cZ cS tb a_sheets2 a_sheets2_numbers H.size v_sheets2_bits v_sheets2_size x4 x5 r74 k74 hg) mvX1_hasRun k_566 ⟨rfl, rfl⟩ ⟨Nat.le_of_ble_eq_true rfl, Nat.le_of_ble_eq_true rfl⟩ rfl rfl rfl rfl (Nat.le_of_ble_eq_true rfl) dX4_copy_105 ⟨Nat.le_of_ble_eq_true rfl, Nat.le_of_ble_eq_true rfl⟩) (fun H locs h => ?_)
            refine lv_if_ne (tgt := 118) hx hb dX4_copy_108 (by decide) (fun c75 => ?_) (fun c75 => ?_)
            · have hf := it_f c75 hf
              refine lv_aload_n hx hb dX4_copy_118 rfl (lv_at hl 0 rfl) ?_
              refine q_get (v := .ref a_sheets) fx inX4 h 0 rfl rfl 5 (by decide) k_179 rfl dX4_copy_119 ?_
              refine lv_iload_n hx hb dX4_copy_122 rfl (lv_at hl 1 rfl) ?_
              refine q_aald (v := a_sheets1) fx h 1 rfl c8 (vinK (by decide)) rfl dX4_copy_123 ?_
              refine q_getN (v := .ref a_sheets1_numbers) fx inX1 h 4 rfl rfl 2 (by decide) nf_11 rfl dX4_copy_124 ?_
              refine lv_iload_n hx hb dX4_copy_127 rfl (lv_at hl 2 rfl) ?_
              refine lv_aload_n hx hb dX4_copy_128 rfl (lv_at hl 0 rfl) ?_
              refine q_get (v := .ref a_sheets) fx inX4 h 0 rfl rfl 5 (by decide) k_179 rfl dX4_copy_129 ?_
              refine lv_iload_n hx hb dX4_copy_132 rfl (lv_at hl 3 rfl) ?_
              refine q_aald (v := a_sheets2) fx h 1 rfl c50 (vinK (by decide)) rfl dX4_copy_133 ?_
              refine q_getN (v := .ref a_sheets2_numbers) fx inX1 h 6 rfl rfl 2 (by decide) nf_11 rfl dX4_copy_134 ?_
              refine lv_iload hx hb dX4_copy_137 (lv_at hl 4 rfl) ?_
              refine lv_iload hx hb dX4_copy_139 (lv_at hl 5 rfl) ?_
              obtain ⟨i76, hf⟩ := gCp_inv hf
              refine q_copyl (ws' := (wX4_copy cI cJ cZ cS a_t a_party a_kept a_tape a_telephone a_sheets a_sheets0 a_sheets0_numbers a_sheets1 a_sheets1_numbers a_sheets2 a_sheets2_numbers a_sheets3 a_sheets3_numbers a_findings v_isKept v_sheets0_bits v_sheets0_size v_sheets0_numbers v_sheets1_bits v_sheets1_size v_sheets1_numbers v_sheets2_bits v_sheets2_size (va_cpy v_sheets1_numbers v_sheets2_numbers x2.toNatClampNeg x4.toNatClampNeg x5.toNatClampNeg) v_sheets3_bits v_sheets3_size v_sheets3_numbers v_findings)) fx h hl.1 5 7 rfl rfl k_570 k_572 k_571 k_58 i76 (Nat.le_of_ble_eq_true rfl) (Nat.le_of_ble_eq_true rfl) rfl dX4_copy_141 (fun H locs h => ?_)
              refine lv_iload hx hb dX4_copy_144 (lv_at hl 5 rfl) ?_
              exact q_reti (fun k : (Nat → Int64) × (Nat → Int64) × (Nat → Int64) × (Nat → Int64) × (Nat → Int32) => (wX4_copy cI cJ cZ cS a_t a_party a_kept a_tape a_telephone a_sheets a_sheets0 a_sheets0_numbers a_sheets1 a_sheets1_numbers a_sheets2 a_sheets2_numbers a_sheets3 a_sheets3_numbers a_findings v_isKept v_sheets0_bits v_sheets0_size k.1 v_sheets1_bits v_sheets1_size k.2.1 v_sheets2_bits v_sheets2_size k.2.2.1 v_sheets3_bits v_sheets3_size k.2.2.2.1 k.2.2.2.2)) fx hf h dX4_copy_146
            have hf := it_t c75 hf
            exact LX4_copy_111 fx h (lv_sub hl [0] rfl) hf
          have hf := it_f c71 hf
          refine lv_aload_n hx hb dX4_copy_73 rfl (lv_at hl 0 rfl) ?_
          refine q_ldc fx k_269 dX4_copy_74 ?_
          obtain ⟨r77, k77, hg, hf⟩ := bR_inv hf
          refine q_ci (rest := []) (ws' := (wX4_copy cI cJ cZ cS a_t a_party a_kept a_tape a_telephone a_sheets a_sheets0 a_sheets0_numbers a_sheets1 a_sheets1_numbers a_sheets2 a_sheets2_numbers a_sheets3 a_sheets3_numbers a_findings v_isKept v_sheets0_bits v_sheets0_size v_sheets0_numbers v_sheets1_bits v_sheets1_size v_sheets1_numbers v_sheets2_bits v_sheets2_size v_sheets2_numbers v_sheets3_bits v_sheets3_size v_sheets3_numbers k77)) (w1 := (wX4_found cI cJ cZ cS a_t a_party a_kept a_tape a_telephone a_sheets a_findings v_isKept k77)) fx h [0, 10] rfl rfl rfl rfl (q_runV fx h hl.1 [0, 10] rfl rfl (tX4_found l D cI cJ cZ cS tb a_t a_party a_kept a_tape a_telephone a_sheets a_findings H.size v_isKept v_findings (-1000000003) r77 k77 hg) mvX4_found k_207 ⟨rfl, rfl⟩ ⟨Nat.le_of_ble_eq_true rfl, Nat.le_of_ble_eq_true rfl⟩ rfl rfl rfl rfl (Nat.le_of_ble_eq_true rfl) dX4_copy_76 ⟨Nat.le_of_ble_eq_true rfl, Nat.le_of_ble_eq_true rfl⟩) (fun H locs h => ?_)
          exact q_reti (fun k : (Nat → Int64) × (Nat → Int64) × (Nat → Int64) × (Nat → Int64) × (Nat → Int32) => (wX4_copy cI cJ cZ cS a_t a_party a_kept a_tape a_telephone a_sheets a_sheets0 a_sheets0_numbers a_sheets1 a_sheets1_numbers a_sheets2 a_sheets2_numbers a_sheets3 a_sheets3_numbers a_findings v_isKept v_sheets0_bits v_sheets0_size k.1 v_sheets1_bits v_sheets1_size k.2.1 v_sheets2_bits v_sheets2_size k.2.2.1 v_sheets3_bits v_sheets3_size k.2.2.2.1 k.2.2.2.2)) fx hf h dX4_copy_79
        have hf := it_f c70 hf
        exact LX4_copy_45 fx h (lv_sub hl [0] rfl) hf
      · refine q_aald (v := a_sheets3) fx h 1 rfl c50 (vinK (by decide)) rfl dX4_copy_38 ?_
        obtain ⟨r78, k78, hg, hf⟩ := bR_inv hf
        refine q_ci (rest := []) (ws' := (wX4_copy cI cJ cZ cS a_t a_party a_kept a_tape a_telephone a_sheets a_sheets0 a_sheets0_numbers a_sheets1 a_sheets1_numbers a_sheets2 a_sheets2_numbers a_sheets3 a_sheets3_numbers a_findings v_isKept v_sheets0_bits v_sheets0_size v_sheets0_numbers v_sheets1_bits v_sheets1_size v_sheets1_numbers v_sheets2_bits v_sheets2_size v_sheets2_numbers v_sheets3_bits v_sheets3_size v_sheets3_numbers v_findings)) (w1 := (wX1_isMissing cI cJ cZ cS a_sheets3 a_sheets3_numbers v_sheets3_bits v_sheets3_size)) fx h [8] rfl rfl rfl rfl (q_runV fx h hl.1 [8] rfl rfl (tX1_isMissing l D cI cJ cZ cS tb a_sheets3 a_sheets3_numbers H.size v_sheets3_bits v_sheets3_size r78 k78 hg) mvX1_isMissing k_553 ⟨rfl, rfl⟩ ⟨Nat.le_of_ble_eq_true rfl, Nat.le_of_ble_eq_true rfl⟩ rfl rfl rfl rfl (Nat.le_of_ble_eq_true rfl) dX4_copy_39 ⟨Nat.le_of_ble_eq_true rfl, Nat.le_of_ble_eq_true rfl⟩) (fun H locs h => ?_)
        refine lv_if_eq (tgt := 52) hx hb dX4_copy_42 (by decide) (fun c79 => ?_) (fun c79 => ?_)
        · have hf := it_t c79 hf
          refine lv_aload_n hx hb dX4_copy_52 rfl (lv_at hl 0 rfl) ?_
          refine q_get (v := .ref a_sheets) fx inX4 h 0 rfl rfl 5 (by decide) k_179 rfl dX4_copy_53 ?_
          refine lv_iload_n hx hb dX4_copy_56 rfl (lv_at hl 1 rfl) ?_
          refine q_aald (v := a_sheets1) fx h 1 rfl c8 (vinK (by decide)) rfl dX4_copy_57 ?_
          refine q_getN (v := .int v_sheets1_bits) fx inX1 h 4 rfl rfl 0 (by decide) nf_9 rfl dX4_copy_58 ?_
          refine lv_aload_n hx hb dX4_copy_61 rfl (lv_at hl 0 rfl) ?_
          refine q_get (v := .ref a_sheets) fx inX4 h 0 rfl rfl 5 (by decide) k_179 rfl dX4_copy_62 ?_
          refine lv_iload_n hx hb dX4_copy_65 rfl (lv_at hl 3 rfl) ?_
          refine q_aald (v := a_sheets3) fx h 1 rfl c50 (vinK (by decide)) rfl dX4_copy_66 ?_
          refine q_getN (v := .int v_sheets3_bits) fx inX1 h 8 rfl rfl 0 (by decide) nf_9 rfl dX4_copy_67 ?_
          refine lv_icmp_eq (tgt := 80) hx hb dX4_copy_70 (by decide) (fun c80 => ?_) (fun c80 => ?_)
          · have hf := it_t c80 hf
            refine lv_aload_n hx hb dX4_copy_80 rfl (lv_at hl 0 rfl) ?_
            refine q_get (v := .ref a_sheets) fx inX4 h 0 rfl rfl 5 (by decide) k_179 rfl dX4_copy_81 ?_
            refine lv_iload_n hx hb dX4_copy_84 rfl (lv_at hl 1 rfl) ?_
            refine q_aald (v := a_sheets1) fx h 1 rfl c8 (vinK (by decide)) rfl dX4_copy_85 ?_
            refine lv_iload_n hx hb dX4_copy_86 rfl (lv_at hl 2 rfl) ?_
            refine lv_iload hx hb dX4_copy_87 (lv_at hl 5 rfl) ?_
            obtain ⟨r81, k81, hg, hf⟩ := bR_inv hf
            refine q_ci (rest := []) (ws' := (wX4_copy cI cJ cZ cS a_t a_party a_kept a_tape a_telephone a_sheets a_sheets0 a_sheets0_numbers a_sheets1 a_sheets1_numbers a_sheets2 a_sheets2_numbers a_sheets3 a_sheets3_numbers a_findings v_isKept v_sheets0_bits v_sheets0_size v_sheets0_numbers v_sheets1_bits v_sheets1_size v_sheets1_numbers v_sheets2_bits v_sheets2_size v_sheets2_numbers v_sheets3_bits v_sheets3_size v_sheets3_numbers v_findings)) (w1 := (wX1_hasRun cI cJ cZ cS a_sheets1 a_sheets1_numbers v_sheets1_bits v_sheets1_size)) fx h [4] rfl rfl rfl rfl (q_runV fx h hl.1 [4] rfl rfl (tX1_hasRun l D cI cJ cZ cS tb a_sheets1 a_sheets1_numbers H.size v_sheets1_bits v_sheets1_size x2 x5 r81 k81 hg) mvX1_hasRun k_566 ⟨rfl, rfl⟩ ⟨Nat.le_of_ble_eq_true rfl, Nat.le_of_ble_eq_true rfl⟩ rfl rfl rfl rfl (Nat.le_of_ble_eq_true rfl) dX4_copy_89 ⟨Nat.le_of_ble_eq_true rfl, Nat.le_of_ble_eq_true rfl⟩) (fun H locs h => ?_)
            refine lv_if_eq (tgt := 111) hx hb dX4_copy_92 (by decide) (fun c82 => ?_) (fun c82 => ?_)
            · have hf := it_t c82 hf
              exact LX4_copy_111 fx h (lv_sub hl [0] rfl) hf
            have hf := it_f c82 hf
            refine lv_aload_n hx hb dX4_copy_95 rfl (lv_at hl 0 rfl) ?_
            refine q_get (v := .ref a_sheets) fx inX4 h 0 rfl rfl 5 (by decide) k_179 rfl dX4_copy_96 ?_
            refine lv_iload_n hx hb dX4_copy_99 rfl (lv_at hl 3 rfl) ?_
            refine q_aald (v := a_sheets3) fx h 1 rfl c50 (vinK (by decide)) rfl dX4_copy_100 ?_
            refine lv_iload hx hb dX4_copy_101 (lv_at hl 4 rfl) ?_
            refine lv_iload hx hb dX4_copy_103 (lv_at hl 5 rfl) ?_
            obtain ⟨r83, k83, hg, hf⟩ := bR_inv hf
            refine q_ci (rest := []) (ws' := (wX4_copy cI cJ cZ cS a_t a_party a_kept a_tape a_telephone a_sheets a_sheets0 a_sheets0_numbers a_sheets1 a_sheets1_numbers a_sheets2 a_sheets2_numbers a_sheets3 a_sheets3_numbers a_findings v_isKept v_sheets0_bits v_sheets0_size v_sheets0_numbers v_sheets1_bits v_sheets1_size v_sheets1_numbers v_sheets2_bits v_sheets2_size v_sheets2_numbers v_sheets3_bits v_sheets3_size v_sheets3_numbers v_findings)) (w1 := (wX1_hasRun cI cJ cZ cS a_sheets3 a_sheets3_numbers v_sheets3_bits v_sheets3_size)) fx h [8] rfl rfl rfl rfl (q_runV fx h hl.1 [8] rfl rfl (tX1_hasRun l D cI cJ cZ cS tb a_sheets3 a_sheets3_numbers H.size v_sheets3_bits v_sheets3_size x4 x5 r83 k83 hg) mvX1_hasRun k_566 ⟨rfl, rfl⟩ ⟨Nat.le_of_ble_eq_true rfl, Nat.le_of_ble_eq_true rfl⟩ rfl rfl rfl rfl (Nat.le_of_ble_eq_true rfl) dX4_copy_105 ⟨Nat.le_of_ble_eq_true rfl, Nat.le_of_ble_eq_true rfl⟩) (fun H locs h => ?_)
            refine lv_if_ne (tgt := 118) hx hb dX4_copy_108 (by decide) (fun c84 => ?_) (fun c84 => ?_)
            · have hf := it_f c84 hf
              refine lv_aload_n hx hb dX4_copy_118 rfl (lv_at hl 0 rfl) ?_
              refine q_get (v := .ref a_sheets) fx inX4 h 0 rfl rfl 5 (by decide) k_179 rfl dX4_copy_119 ?_
              refine lv_iload_n hx hb dX4_copy_122 rfl (lv_at hl 1 rfl) ?_
              refine q_aald (v := a_sheets1) fx h 1 rfl c8 (vinK (by decide)) rfl dX4_copy_123 ?_
              refine q_getN (v := .ref a_sheets1_numbers) fx inX1 h 4 rfl rfl 2 (by decide) nf_11 rfl dX4_copy_124 ?_
              refine lv_iload_n hx hb dX4_copy_127 rfl (lv_at hl 2 rfl) ?_
              refine lv_aload_n hx hb dX4_copy_128 rfl (lv_at hl 0 rfl) ?_
              refine q_get (v := .ref a_sheets) fx inX4 h 0 rfl rfl 5 (by decide) k_179 rfl dX4_copy_129 ?_
              refine lv_iload_n hx hb dX4_copy_132 rfl (lv_at hl 3 rfl) ?_
              refine q_aald (v := a_sheets3) fx h 1 rfl c50 (vinK (by decide)) rfl dX4_copy_133 ?_
              refine q_getN (v := .ref a_sheets3_numbers) fx inX1 h 8 rfl rfl 2 (by decide) nf_11 rfl dX4_copy_134 ?_
              refine lv_iload hx hb dX4_copy_137 (lv_at hl 4 rfl) ?_
              refine lv_iload hx hb dX4_copy_139 (lv_at hl 5 rfl) ?_
              obtain ⟨i85, hf⟩ := gCp_inv hf
              refine q_copyl (ws' := (wX4_copy cI cJ cZ cS a_t a_party a_kept a_tape a_telephone a_sheets a_sheets0 a_sheets0_numbers a_sheets1 a_sheets1_numbers a_sheets2 a_sheets2_numbers a_sheets3 a_sheets3_numbers a_findings v_isKept v_sheets0_bits v_sheets0_size v_sheets0_numbers v_sheets1_bits v_sheets1_size v_sheets1_numbers v_sheets2_bits v_sheets2_size v_sheets2_numbers v_sheets3_bits v_sheets3_size (va_cpy v_sheets1_numbers v_sheets3_numbers x2.toNatClampNeg x4.toNatClampNeg x5.toNatClampNeg) v_findings)) fx h hl.1 5 9 rfl rfl k_570 k_572 k_571 k_58 i85 (Nat.le_of_ble_eq_true rfl) (Nat.le_of_ble_eq_true rfl) rfl dX4_copy_141 (fun H locs h => ?_)
              refine lv_iload hx hb dX4_copy_144 (lv_at hl 5 rfl) ?_
              exact q_reti (fun k : (Nat → Int64) × (Nat → Int64) × (Nat → Int64) × (Nat → Int64) × (Nat → Int32) => (wX4_copy cI cJ cZ cS a_t a_party a_kept a_tape a_telephone a_sheets a_sheets0 a_sheets0_numbers a_sheets1 a_sheets1_numbers a_sheets2 a_sheets2_numbers a_sheets3 a_sheets3_numbers a_findings v_isKept v_sheets0_bits v_sheets0_size k.1 v_sheets1_bits v_sheets1_size k.2.1 v_sheets2_bits v_sheets2_size k.2.2.1 v_sheets3_bits v_sheets3_size k.2.2.2.1 k.2.2.2.2)) fx hf h dX4_copy_146
            have hf := it_t c84 hf
            exact LX4_copy_111 fx h (lv_sub hl [0] rfl) hf
          have hf := it_f c80 hf
          refine lv_aload_n hx hb dX4_copy_73 rfl (lv_at hl 0 rfl) ?_
          refine q_ldc fx k_269 dX4_copy_74 ?_
          obtain ⟨r86, k86, hg, hf⟩ := bR_inv hf
          refine q_ci (rest := []) (ws' := (wX4_copy cI cJ cZ cS a_t a_party a_kept a_tape a_telephone a_sheets a_sheets0 a_sheets0_numbers a_sheets1 a_sheets1_numbers a_sheets2 a_sheets2_numbers a_sheets3 a_sheets3_numbers a_findings v_isKept v_sheets0_bits v_sheets0_size v_sheets0_numbers v_sheets1_bits v_sheets1_size v_sheets1_numbers v_sheets2_bits v_sheets2_size v_sheets2_numbers v_sheets3_bits v_sheets3_size v_sheets3_numbers k86)) (w1 := (wX4_found cI cJ cZ cS a_t a_party a_kept a_tape a_telephone a_sheets a_findings v_isKept k86)) fx h [0, 10] rfl rfl rfl rfl (q_runV fx h hl.1 [0, 10] rfl rfl (tX4_found l D cI cJ cZ cS tb a_t a_party a_kept a_tape a_telephone a_sheets a_findings H.size v_isKept v_findings (-1000000003) r86 k86 hg) mvX4_found k_207 ⟨rfl, rfl⟩ ⟨Nat.le_of_ble_eq_true rfl, Nat.le_of_ble_eq_true rfl⟩ rfl rfl rfl rfl (Nat.le_of_ble_eq_true rfl) dX4_copy_76 ⟨Nat.le_of_ble_eq_true rfl, Nat.le_of_ble_eq_true rfl⟩) (fun H locs h => ?_)
          exact q_reti (fun k : (Nat → Int64) × (Nat → Int64) × (Nat → Int64) × (Nat → Int64) × (Nat → Int32) => (wX4_copy cI cJ cZ cS a_t a_party a_kept a_tape a_telephone a_sheets a_sheets0 a_sheets0_numbers a_sheets1 a_sheets1_numbers a_sheets2 a_sheets2_numbers a_sheets3 a_sheets3_numbers a_findings v_isKept v_sheets0_bits v_sheets0_size k.1 v_sheets1_bits v_sheets1_size k.2.1 v_sheets2_bits v_sheets2_size k.2.2.1 v_sheets3_bits v_sheets3_size k.2.2.2.1 k.2.2.2.2)) fx hf h dX4_copy_79
        have hf := it_f c79 hf
        exact LX4_copy_45 fx h (lv_sub hl [0] rfl) hf
    · refine q_aald (v := a_sheets2) fx h 1 rfl c8 (vinK (by decide)) rfl dX4_copy_26 ?_
      obtain ⟨r87, k87, hg, hf⟩ := bR_inv hf
      refine q_ci (rest := []) (ws' := (wX4_copy cI cJ cZ cS a_t a_party a_kept a_tape a_telephone a_sheets a_sheets0 a_sheets0_numbers a_sheets1 a_sheets1_numbers a_sheets2 a_sheets2_numbers a_sheets3 a_sheets3_numbers a_findings v_isKept v_sheets0_bits v_sheets0_size v_sheets0_numbers v_sheets1_bits v_sheets1_size v_sheets1_numbers v_sheets2_bits v_sheets2_size v_sheets2_numbers v_sheets3_bits v_sheets3_size v_sheets3_numbers v_findings)) (w1 := (wX1_isMissing cI cJ cZ cS a_sheets2 a_sheets2_numbers v_sheets2_bits v_sheets2_size)) fx h [6] rfl rfl rfl rfl (q_runV fx h hl.1 [6] rfl rfl (tX1_isMissing l D cI cJ cZ cS tb a_sheets2 a_sheets2_numbers H.size v_sheets2_bits v_sheets2_size r87 k87 hg) mvX1_isMissing k_553 ⟨rfl, rfl⟩ ⟨Nat.le_of_ble_eq_true rfl, Nat.le_of_ble_eq_true rfl⟩ rfl rfl rfl rfl (Nat.le_of_ble_eq_true rfl) dX4_copy_27 ⟨Nat.le_of_ble_eq_true rfl, Nat.le_of_ble_eq_true rfl⟩) (fun H locs h => ?_)
      refine lv_if_ne (tgt := 45) hx hb dX4_copy_30 (by decide) (fun c88 => ?_) (fun c88 => ?_)
      · have hf := it_f c88 hf
        exact LX4_copy_45 fx h (lv_sub hl [0] rfl) hf
      have hf := it_t c88 hf
      refine lv_aload_n hx hb dX4_copy_33 rfl (lv_at hl 0 rfl) ?_
      refine q_get (v := .ref a_sheets) fx inX4 h 0 rfl rfl 5 (by decide) k_179 rfl dX4_copy_34 ?_
      refine lv_iload_n hx hb dX4_copy_37 rfl (lv_at hl 3 rfl) ?_
      rcases sel4_inv hf with ⟨c89, hf⟩ | ⟨c89, hf⟩ | ⟨c89, hf⟩ | ⟨c89, hf⟩
      · refine q_aald (v := a_sheets0) fx h 1 rfl c89 (vinK (by decide)) rfl dX4_copy_38 ?_
        obtain ⟨r90, k90, hg, hf⟩ := bR_inv hf
        refine q_ci (rest := []) (ws' := (wX4_copy cI cJ cZ cS a_t a_party a_kept a_tape a_telephone a_sheets a_sheets0 a_sheets0_numbers a_sheets1 a_sheets1_numbers a_sheets2 a_sheets2_numbers a_sheets3 a_sheets3_numbers a_findings v_isKept v_sheets0_bits v_sheets0_size v_sheets0_numbers v_sheets1_bits v_sheets1_size v_sheets1_numbers v_sheets2_bits v_sheets2_size v_sheets2_numbers v_sheets3_bits v_sheets3_size v_sheets3_numbers v_findings)) (w1 := (wX1_isMissing cI cJ cZ cS a_sheets0 a_sheets0_numbers v_sheets0_bits v_sheets0_size)) fx h [2] rfl rfl rfl rfl (q_runV fx h hl.1 [2] rfl rfl (tX1_isMissing l D cI cJ cZ cS tb a_sheets0 a_sheets0_numbers H.size v_sheets0_bits v_sheets0_size r90 k90 hg) mvX1_isMissing k_553 ⟨rfl, rfl⟩ ⟨Nat.le_of_ble_eq_true rfl, Nat.le_of_ble_eq_true rfl⟩ rfl rfl rfl rfl (Nat.le_of_ble_eq_true rfl) dX4_copy_39 ⟨Nat.le_of_ble_eq_true rfl, Nat.le_of_ble_eq_true rfl⟩) (fun H locs h => ?_)
        refine lv_if_eq (tgt := 52) hx hb dX4_copy_42 (by decide) (fun c91 => ?_) (fun c91 => ?_)
        · have hf := it_t c91 hf
          refine lv_aload_n hx hb dX4_copy_52 rfl (lv_at hl 0 rfl) ?_
          refine q_get (v := .ref a_sheets) fx inX4 h 0 rfl rfl 5 (by decide) k_179 rfl dX4_copy_53 ?_
          refine lv_iload_n hx hb dX4_copy_56 rfl (lv_at hl 1 rfl) ?_
          refine q_aald (v := a_sheets2) fx h 1 rfl c8 (vinK (by decide)) rfl dX4_copy_57 ?_
          refine q_getN (v := .int v_sheets2_bits) fx inX1 h 6 rfl rfl 0 (by decide) nf_9 rfl dX4_copy_58 ?_
          refine lv_aload_n hx hb dX4_copy_61 rfl (lv_at hl 0 rfl) ?_
          refine q_get (v := .ref a_sheets) fx inX4 h 0 rfl rfl 5 (by decide) k_179 rfl dX4_copy_62 ?_
          refine lv_iload_n hx hb dX4_copy_65 rfl (lv_at hl 3 rfl) ?_
          refine q_aald (v := a_sheets0) fx h 1 rfl c89 (vinK (by decide)) rfl dX4_copy_66 ?_
          refine q_getN (v := .int v_sheets0_bits) fx inX1 h 2 rfl rfl 0 (by decide) nf_9 rfl dX4_copy_67 ?_
          refine lv_icmp_eq (tgt := 80) hx hb dX4_copy_70 (by decide) (fun c92 => ?_) (fun c92 => ?_)
          · have hf := it_t c92 hf
            refine lv_aload_n hx hb dX4_copy_80 rfl (lv_at hl 0 rfl) ?_
            refine q_get (v := .ref a_sheets) fx inX4 h 0 rfl rfl 5 (by decide) k_179 rfl dX4_copy_81 ?_
            refine lv_iload_n hx hb dX4_copy_84 rfl (lv_at hl 1 rfl) ?_
            refine q_aald (v := a_sheets2) fx h 1 rfl c8 (vinK (by decide)) rfl dX4_copy_85 ?_
            refine lv_iload_n hx hb dX4_copy_86 rfl (lv_at hl 2 rfl) ?_
            refine lv_iload hx hb dX4_copy_87 (lv_at hl 5 rfl) ?_
            obtain ⟨r93, k93, hg, hf⟩ := bR_inv hf
            refine q_ci (rest := []) (ws' := (wX4_copy cI cJ cZ cS a_t a_party a_kept a_tape a_telephone a_sheets a_sheets0 a_sheets0_numbers a_sheets1 a_sheets1_numbers a_sheets2 a_sheets2_numbers a_sheets3 a_sheets3_numbers a_findings v_isKept v_sheets0_bits v_sheets0_size v_sheets0_numbers v_sheets1_bits v_sheets1_size v_sheets1_numbers v_sheets2_bits v_sheets2_size v_sheets2_numbers v_sheets3_bits v_sheets3_size v_sheets3_numbers v_findings)) (w1 := (wX1_hasRun cI cJ cZ cS a_sheets2 a_sheets2_numbers v_sheets2_bits v_sheets2_size)) fx h [6] rfl rfl rfl rfl (q_runV fx h hl.1 [6] rfl rfl (tX1_hasRun l D cI cJ cZ cS tb a_sheets2 a_sheets2_numbers H.size v_sheets2_bits v_sheets2_size x2 x5 r93 k93 hg) mvX1_hasRun k_566 ⟨rfl, rfl⟩ ⟨Nat.le_of_ble_eq_true rfl, Nat.le_of_ble_eq_true rfl⟩ rfl rfl rfl rfl (Nat.le_of_ble_eq_true rfl) dX4_copy_89 ⟨Nat.le_of_ble_eq_true rfl, Nat.le_of_ble_eq_true rfl⟩) (fun H locs h => ?_)
            refine lv_if_eq (tgt := 111) hx hb dX4_copy_92 (by decide) (fun c94 => ?_) (fun c94 => ?_)
            · have hf := it_t c94 hf
              exact LX4_copy_111 fx h (lv_sub hl [0] rfl) hf
            have hf := it_f c94 hf
            refine lv_aload_n hx hb dX4_copy_95 rfl (lv_at hl 0 rfl) ?_
            refine q_get (v := .ref a_sheets) fx inX4 h 0 rfl rfl 5 (by decide) k_179 rfl dX4_copy_96 ?_
            refine lv_iload_n hx hb dX4_copy_99 rfl (lv_at hl 3 rfl) ?_
            refine q_aald (v := a_sheets0) fx h 1 rfl c89 (vinK (by decide)) rfl dX4_copy_100 ?_
            refine lv_iload hx hb dX4_copy_101 (lv_at hl 4 rfl) ?_
            refine lv_iload hx hb dX4_copy_103 (lv_at hl 5 rfl) ?_
            obtain ⟨r95, k95, hg, hf⟩ := bR_inv hf
            refine q_ci (rest := []) (ws' := (wX4_copy cI cJ cZ cS a_t a_party a_kept a_tape a_telephone a_sheets a_sheets0 a_sheets0_numbers a_sheets1 a_sheets1_numbers a_sheets2 a_sheets2_numbers a_sheets3 a_sheets3_numbers a_findings v_isKept v_sheets0_bits v_sheets0_size v_sheets0_numbers v_sheets1_bits v_sheets1_size v_sheets1_numbers v_sheets2_bits v_sheets2_size v_sheets2_numbers v_sheets3_bits v_sheets3_size v_sheets3_numbers v_findings)) (w1 := (wX1_hasRun cI cJ cZ cS a_sheets0 a_sheets0_numbers v_sheets0_bits v_sheets0_size)) fx h [2] rfl rfl rfl rfl (q_runV fx h hl.1 [2] rfl rfl (tX1_hasRun l D cI cJ cZ cS tb a_sheets0 a_sheets0_numbers H.size v_sheets0_bits v_sheets0_size x4 x5 r95 k95 hg) mvX1_hasRun k_566 ⟨rfl, rfl⟩ ⟨Nat.le_of_ble_eq_true rfl, Nat.le_of_ble_eq_true rfl⟩ rfl rfl rfl rfl (Nat.le_of_ble_eq_true rfl) dX4_copy_105 ⟨Nat.le_of_ble_eq_true rfl, Nat.le_of_ble_eq_true rfl⟩) (fun H locs h => ?_)
            refine lv_if_ne (tgt := 118) hx hb dX4_copy_108 (by decide) (fun c96 => ?_) (fun c96 => ?_)
            · have hf := it_f c96 hf
              refine lv_aload_n hx hb dX4_copy_118 rfl (lv_at hl 0 rfl) ?_
              refine q_get (v := .ref a_sheets) fx inX4 h 0 rfl rfl 5 (by decide) k_179 rfl dX4_copy_119 ?_
              refine lv_iload_n hx hb dX4_copy_122 rfl (lv_at hl 1 rfl) ?_
              refine q_aald (v := a_sheets2) fx h 1 rfl c8 (vinK (by decide)) rfl dX4_copy_123 ?_
              refine q_getN (v := .ref a_sheets2_numbers) fx inX1 h 6 rfl rfl 2 (by decide) nf_11 rfl dX4_copy_124 ?_
              refine lv_iload_n hx hb dX4_copy_127 rfl (lv_at hl 2 rfl) ?_
              refine lv_aload_n hx hb dX4_copy_128 rfl (lv_at hl 0 rfl) ?_
              refine q_get (v := .ref a_sheets) fx inX4 h 0 rfl rfl 5 (by decide) k_179 rfl dX4_copy_129 ?_
              refine lv_iload_n hx hb dX4_copy_132 rfl (lv_at hl 3 rfl) ?_
              refine q_aald (v := a_sheets0) fx h 1 rfl c89 (vinK (by decide)) rfl dX4_copy_133 ?_
              refine q_getN (v := .ref a_sheets0_numbers) fx inX1 h 2 rfl rfl 2 (by decide) nf_11 rfl dX4_copy_134 ?_
              refine lv_iload hx hb dX4_copy_137 (lv_at hl 4 rfl) ?_
              refine lv_iload hx hb dX4_copy_139 (lv_at hl 5 rfl) ?_
              obtain ⟨i97, hf⟩ := gCp_inv hf
              refine q_copyl (ws' := (wX4_copy cI cJ cZ cS a_t a_party a_kept a_tape a_telephone a_sheets a_sheets0 a_sheets0_numbers a_sheets1 a_sheets1_numbers a_sheets2 a_sheets2_numbers a_sheets3 a_sheets3_numbers a_findings v_isKept v_sheets0_bits v_sheets0_size (va_cpy v_sheets2_numbers v_sheets0_numbers x2.toNatClampNeg x4.toNatClampNeg x5.toNatClampNeg) v_sheets1_bits v_sheets1_size v_sheets1_numbers v_sheets2_bits v_sheets2_size v_sheets2_numbers v_sheets3_bits v_sheets3_size v_sheets3_numbers v_findings)) fx h hl.1 7 3 rfl rfl k_570 k_572 k_571 k_58 i97 (Nat.le_of_ble_eq_true rfl) (Nat.le_of_ble_eq_true rfl) rfl dX4_copy_141 (fun H locs h => ?_)
              refine lv_iload hx hb dX4_copy_144 (lv_at hl 5 rfl) ?_
              exact q_reti (fun k : (Nat → Int64) × (Nat → Int64) × (Nat → Int64) × (Nat → Int64) × (Nat → Int32) => (wX4_copy cI cJ cZ cS a_t a_party a_kept a_tape a_telephone a_sheets a_sheets0 a_sheets0_numbers a_sheets1 a_sheets1_numbers a_sheets2 a_sheets2_numbers a_sheets3 a_sheets3_numbers a_findings v_isKept v_sheets0_bits v_sheets0_size k.1 v_sheets1_bits v_sheets1_size k.2.1 v_sheets2_bits v_sheets2_size k.2.2.1 v_sheets3_bits v_sheets3_size k.2.2.2.1 k.2.2.2.2)) fx hf h dX4_copy_146
            have hf := it_t c96 hf
            exact LX4_copy_111 fx h (lv_sub hl [0] rfl) hf
          have hf := it_f c92 hf
          refine lv_aload_n hx hb dX4_copy_73 rfl (lv_at hl 0 rfl) ?_
          refine q_ldc fx k_269 dX4_copy_74 ?_
          obtain ⟨r98, k98, hg, hf⟩ := bR_inv hf
          refine q_ci (rest := []) (ws' := (wX4_copy cI cJ cZ cS a_t a_party a_kept a_tape a_telephone a_sheets a_sheets0 a_sheets0_numbers a_sheets1 a_sheets1_numbers a_sheets2 a_sheets2_numbers a_sheets3 a_sheets3_numbers a_findings v_isKept v_sheets0_bits v_sheets0_size v_sheets0_numbers v_sheets1_bits v_sheets1_size v_sheets1_numbers v_sheets2_bits v_sheets2_size v_sheets2_numbers v_sheets3_bits v_sheets3_size v_sheets3_numbers k98)) (w1 := (wX4_found cI cJ cZ cS a_t a_party a_kept a_tape a_telephone a_sheets a_findings v_isKept k98)) fx h [0, 10] rfl rfl rfl rfl (q_runV fx h hl.1 [0, 10] rfl rfl (tX4_found l D cI cJ cZ cS tb a_t a_party a_kept a_tape a_telephone a_sheets a_findings H.size v_isKept v_findings (-1000000003) r98 k98 hg) mvX4_found k_207 ⟨rfl, rfl⟩ ⟨Nat.le_of_ble_eq_true rfl, Nat.le_of_ble_eq_true rfl⟩ rfl rfl rfl rfl (Nat.le_of_ble_eq_true rfl) dX4_copy_76 ⟨Nat.le_of_ble_eq_true rfl, Nat.le_of_ble_eq_true rfl⟩) (fun H locs h => ?_)
          exact q_reti (fun k : (Nat → Int64) × (Nat → Int64) × (Nat → Int64) × (Nat → Int64) × (Nat → Int32) => (wX4_copy cI cJ cZ cS a_t a_party a_kept a_tape a_telephone a_sheets a_sheets0 a_sheets0_numbers a_sheets1 a_sheets1_numbers a_sheets2 a_sheets2_numbers a_sheets3 a_sheets3_numbers a_findings v_isKept v_sheets0_bits v_sheets0_size k.1 v_sheets1_bits v_sheets1_size k.2.1 v_sheets2_bits v_sheets2_size k.2.2.1 v_sheets3_bits v_sheets3_size k.2.2.2.1 k.2.2.2.2)) fx hf h dX4_copy_79
        have hf := it_f c91 hf
        exact LX4_copy_45 fx h (lv_sub hl [0] rfl) hf
      · refine q_aald (v := a_sheets1) fx h 1 rfl c89 (vinK (by decide)) rfl dX4_copy_38 ?_
        obtain ⟨r99, k99, hg, hf⟩ := bR_inv hf
        refine q_ci (rest := []) (ws' := (wX4_copy cI cJ cZ cS a_t a_party a_kept a_tape a_telephone a_sheets a_sheets0 a_sheets0_numbers a_sheets1 a_sheets1_numbers a_sheets2 a_sheets2_numbers a_sheets3 a_sheets3_numbers a_findings v_isKept v_sheets0_bits v_sheets0_size v_sheets0_numbers v_sheets1_bits v_sheets1_size v_sheets1_numbers v_sheets2_bits v_sheets2_size v_sheets2_numbers v_sheets3_bits v_sheets3_size v_sheets3_numbers v_findings)) (w1 := (wX1_isMissing cI cJ cZ cS a_sheets1 a_sheets1_numbers v_sheets1_bits v_sheets1_size)) fx h [4] rfl rfl rfl rfl (q_runV fx h hl.1 [4] rfl rfl (tX1_isMissing l D cI cJ cZ cS tb a_sheets1 a_sheets1_numbers H.size v_sheets1_bits v_sheets1_size r99 k99 hg) mvX1_isMissing k_553 ⟨rfl, rfl⟩ ⟨Nat.le_of_ble_eq_true rfl, Nat.le_of_ble_eq_true rfl⟩ rfl rfl rfl rfl (Nat.le_of_ble_eq_true rfl) dX4_copy_39 ⟨Nat.le_of_ble_eq_true rfl, Nat.le_of_ble_eq_true rfl⟩) (fun H locs h => ?_)
        refine lv_if_eq (tgt := 52) hx hb dX4_copy_42 (by decide) (fun c100 => ?_) (fun c100 => ?_)
        · have hf := it_t c100 hf
          refine lv_aload_n hx hb dX4_copy_52 rfl (lv_at hl 0 rfl) ?_
          refine q_get (v := .ref a_sheets) fx inX4 h 0 rfl rfl 5 (by decide) k_179 rfl dX4_copy_53 ?_
          refine lv_iload_n hx hb dX4_copy_56 rfl (lv_at hl 1 rfl) ?_
          refine q_aald (v := a_sheets2) fx h 1 rfl c8 (vinK (by decide)) rfl dX4_copy_57 ?_
          refine q_getN (v := .int v_sheets2_bits) fx inX1 h 6 rfl rfl 0 (by decide) nf_9 rfl dX4_copy_58 ?_
          refine lv_aload_n hx hb dX4_copy_61 rfl (lv_at hl 0 rfl) ?_
          refine q_get (v := .ref a_sheets) fx inX4 h 0 rfl rfl 5 (by decide) k_179 rfl dX4_copy_62 ?_
          refine lv_iload_n hx hb dX4_copy_65 rfl (lv_at hl 3 rfl) ?_
          refine q_aald (v := a_sheets1) fx h 1 rfl c89 (vinK (by decide)) rfl dX4_copy_66 ?_
          refine q_getN (v := .int v_sheets1_bits) fx inX1 h 4 rfl rfl 0 (by decide) nf_9 rfl dX4_copy_67 ?_
          refine lv_icmp_eq (tgt := 80) hx hb dX4_copy_70 (by decide) (fun c101 => ?_) (fun c101 => ?_)
          · have hf := it_t c101 hf
            refine lv_aload_n hx hb dX4_copy_80 rfl (lv_at hl 0 rfl) ?_
            refine q_get (v := .ref a_sheets) fx inX4 h 0 rfl rfl 5 (by decide) k_179 rfl dX4_copy_81 ?_
            refine lv_iload_n hx hb dX4_copy_84 rfl (lv_at hl 1 rfl) ?_
            refine q_aald (v := a_sheets2) fx h 1 rfl c8 (vinK (by decide)) rfl dX4_copy_85 ?_
            refine lv_iload_n hx hb dX4_copy_86 rfl (lv_at hl 2 rfl) ?_
            refine lv_iload hx hb dX4_copy_87 (lv_at hl 5 rfl) ?_
            obtain ⟨r102, k102, hg, hf⟩ := bR_inv hf
            refine q_ci (rest := []) (ws' := (wX4_copy cI cJ cZ cS a_t a_party a_kept a_tape a_telephone a_sheets a_sheets0 a_sheets0_numbers a_sheets1 a_sheets1_numbers a_sheets2 a_sheets2_numbers a_sheets3 a_sheets3_numbers a_findings v_isKept v_sheets0_bits v_sheets0_size v_sheets0_numbers v_sheets1_bits v_sheets1_size v_sheets1_numbers v_sheets2_bits v_sheets2_size v_sheets2_numbers v_sheets3_bits v_sheets3_size v_sheets3_numbers v_findings)) (w1 := (wX1_hasRun cI cJ cZ cS a_sheets2 a_sheets2_numbers v_sheets2_bits v_sheets2_size)) fx h [6] rfl rfl rfl rfl (q_runV fx h hl.1 [6] rfl rfl (tX1_hasRun l D cI cJ cZ cS tb a_sheets2 a_sheets2_numbers H.size v_sheets2_bits v_sheets2_size x2 x5 r102 k102 hg) mvX1_hasRun k_566 ⟨rfl, rfl⟩ ⟨Nat.le_of_ble_eq_true rfl, Nat.le_of_ble_eq_true rfl⟩ rfl rfl rfl rfl (Nat.le_of_ble_eq_true rfl) dX4_copy_89 ⟨Nat.le_of_ble_eq_true rfl, Nat.le_of_ble_eq_true rfl⟩) (fun H locs h => ?_)
            refine lv_if_eq (tgt := 111) hx hb dX4_copy_92 (by decide) (fun c103 => ?_) (fun c103 => ?_)
            · have hf := it_t c103 hf
              exact LX4_copy_111 fx h (lv_sub hl [0] rfl) hf
            have hf := it_f c103 hf
            refine lv_aload_n hx hb dX4_copy_95 rfl (lv_at hl 0 rfl) ?_
            refine q_get (v := .ref a_sheets) fx inX4 h 0 rfl rfl 5 (by decide) k_179 rfl dX4_copy_96 ?_
            refine lv_iload_n hx hb dX4_copy_99 rfl (lv_at hl 3 rfl) ?_
            refine q_aald (v := a_sheets1) fx h 1 rfl c89 (vinK (by decide)) rfl dX4_copy_100 ?_
            refine lv_iload hx hb dX4_copy_101 (lv_at hl 4 rfl) ?_
            refine lv_iload hx hb dX4_copy_103 (lv_at hl 5 rfl) ?_
            obtain ⟨r104, k104, hg, hf⟩ := bR_inv hf
            refine q_ci (rest := []) (ws' := (wX4_copy cI cJ cZ cS a_t a_party a_kept a_tape a_telephone a_sheets a_sheets0 a_sheets0_numbers a_sheets1 a_sheets1_numbers a_sheets2 a_sheets2_numbers a_sheets3 a_sheets3_numbers a_findings v_isKept v_sheets0_bits v_sheets0_size v_sheets0_numbers v_sheets1_bits v_sheets1_size v_sheets1_numbers v_sheets2_bits v_sheets2_size v_sheets2_numbers v_sheets3_bits v_sheets3_size v_sheets3_numbers v_findings)) (w1 := (wX1_hasRun cI cJ cZ cS a_sheets1 a_sheets1_numbers v_sheets1_bits v_sheets1_size)) fx h [4] rfl rfl rfl rfl (q_runV fx h hl.1 [4] rfl rfl (tX1_hasRun l D cI cJ cZ cS tb a_sheets1 a_sheets1_numbers H.size v_sheets1_bits v_sheets1_size x4 x5 r104 k104 hg) mvX1_hasRun k_566 ⟨rfl, rfl⟩ ⟨Nat.le_of_ble_eq_true rfl, Nat.le_of_ble_eq_true rfl⟩ rfl rfl rfl rfl (Nat.le_of_ble_eq_true rfl) dX4_copy_105 ⟨Nat.le_of_ble_eq_true rfl, Nat.le_of_ble_eq_true rfl⟩) (fun H locs h => ?_)
            refine lv_if_ne (tgt := 118) hx hb dX4_copy_108 (by decide) (fun c105 => ?_) (fun c105 => ?_)
            · have hf := it_f c105 hf
              refine lv_aload_n hx hb dX4_copy_118 rfl (lv_at hl 0 rfl) ?_
              refine q_get (v := .ref a_sheets) fx inX4 h 0 rfl rfl 5 (by decide) k_179 rfl dX4_copy_119 ?_
              refine lv_iload_n hx hb dX4_copy_122 rfl (lv_at hl 1 rfl) ?_
              refine q_aald (v := a_sheets2) fx h 1 rfl c8 (vinK (by decide)) rfl dX4_copy_123 ?_
              refine q_getN (v := .ref a_sheets2_numbers) fx inX1 h 6 rfl rfl 2 (by decide) nf_11 rfl dX4_copy_124 ?_
              refine lv_iload_n hx hb dX4_copy_127 rfl (lv_at hl 2 rfl) ?_
              refine lv_aload_n hx hb dX4_copy_128 rfl (lv_at hl 0 rfl) ?_
              refine q_get (v := .ref a_sheets) fx inX4 h 0 rfl rfl 5 (by decide) k_179 rfl dX4_copy_129 ?_
              refine lv_iload_n hx hb dX4_copy_132 rfl (lv_at hl 3 rfl) ?_
              refine q_aald (v := a_sheets1) fx h 1 rfl c89 (vinK (by decide)) rfl dX4_copy_133 ?_
              refine q_getN (v := .ref a_sheets1_numbers) fx inX1 h 4 rfl rfl 2 (by decide) nf_11 rfl dX4_copy_134 ?_
              refine lv_iload hx hb dX4_copy_137 (lv_at hl 4 rfl) ?_
              refine lv_iload hx hb dX4_copy_139 (lv_at hl 5 rfl) ?_
              obtain ⟨i106, hf⟩ := gCp_inv hf
              refine q_copyl (ws' := (wX4_copy cI cJ cZ cS a_t a_party a_kept a_tape a_telephone a_sheets a_sheets0 a_sheets0_numbers a_sheets1 a_sheets1_numbers a_sheets2 a_sheets2_numbers a_sheets3 a_sheets3_numbers a_findings v_isKept v_sheets0_bits v_sheets0_size v_sheets0_numbers v_sheets1_bits v_sheets1_size (va_cpy v_sheets2_numbers v_sheets1_numbers x2.toNatClampNeg x4.toNatClampNeg x5.toNatClampNeg) v_sheets2_bits v_sheets2_size v_sheets2_numbers v_sheets3_bits v_sheets3_size v_sheets3_numbers v_findings)) fx h hl.1 7 5 rfl rfl k_570 k_572 k_571 k_58 i106 (Nat.le_of_ble_eq_true rfl) (Nat.le_of_ble_eq_true rfl) rfl dX4_copy_141 (fun H locs h => ?_)
              refine lv_iload hx hb dX4_copy_144 (lv_at hl 5 rfl) ?_
              exact q_reti (fun k : (Nat → Int64) × (Nat → Int64) × (Nat → Int64) × (Nat → Int64) × (Nat → Int32) => (wX4_copy cI cJ cZ cS a_t a_party a_kept a_tape a_telephone a_sheets a_sheets0 a_sheets0_numbers a_sheets1 a_sheets1_numbers a_sheets2 a_sheets2_numbers a_sheets3 a_sheets3_numbers a_findings v_isKept v_sheets0_bits v_sheets0_size k.1 v_sheets1_bits v_sheets1_size k.2.1 v_sheets2_bits v_sheets2_size k.2.2.1 v_sheets3_bits v_sheets3_size k.2.2.2.1 k.2.2.2.2)) fx hf h dX4_copy_146
            have hf := it_t c105 hf
            exact LX4_copy_111 fx h (lv_sub hl [0] rfl) hf
          have hf := it_f c101 hf
          refine lv_aload_n hx hb dX4_copy_73 rfl (lv_at hl 0 rfl) ?_
          refine q_ldc fx k_269 dX4_copy_74 ?_
          obtain ⟨r107, k107, hg, hf⟩ := bR_inv hf
          refine q_ci (rest := []) (ws' := (wX4_copy cI cJ cZ cS a_t a_party a_kept a_tape a_telephone a_sheets a_sheets0 a_sheets0_numbers a_sheets1 a_sheets1_numbers a_sheets2 a_sheets2_numbers a_sheets3 a_sheets3_numbers a_findings v_isKept v_sheets0_bits v_sheets0_size v_sheets0_numbers v_sheets1_bits v_sheets1_size v_sheets1_numbers v_sheets2_bits v_sheets2_size v_sheets2_numbers v_sheets3_bits v_sheets3_size v_sheets3_numbers k107)) (w1 := (wX4_found cI cJ cZ cS a_t a_party a_kept a_tape a_telephone a_sheets a_findings v_isKept k107)) fx h [0, 10] rfl rfl rfl rfl (q_runV fx h hl.1 [0, 10] rfl rfl (tX4_found l D cI cJ cZ cS tb a_t a_party a_kept a_tape a_telephone a_sheets a_findings H.size v_isKept v_findings (-1000000003) r107 k107 hg) mvX4_found k_207 ⟨rfl, rfl⟩ ⟨Nat.le_of_ble_eq_true rfl, Nat.le_of_ble_eq_true rfl⟩ rfl rfl rfl rfl (Nat.le_of_ble_eq_true rfl) dX4_copy_76 ⟨Nat.le_of_ble_eq_true rfl, Nat.le_of_ble_eq_true rfl⟩) (fun H locs h => ?_)
          exact q_reti (fun k : (Nat → Int64) × (Nat → Int64) × (Nat → Int64) × (Nat → Int64) × (Nat → Int32) => (wX4_copy cI cJ cZ cS a_t a_party a_kept a_tape a_telephone a_sheets a_sheets0 a_sheets0_numbers a_sheets1 a_sheets1_numbers a_sheets2 a_sheets2_numbers a_sheets3 a_sheets3_numbers a_findings v_isKept v_sheets0_bits v_sheets0_size k.1 v_sheets1_bits v_sheets1_size k.2.1 v_sheets2_bits v_sheets2_size k.2.2.1 v_sheets3_bits v_sheets3_size k.2.2.2.1 k.2.2.2.2)) fx hf h dX4_copy_79
        have hf := it_f c100 hf
        exact LX4_copy_45 fx h (lv_sub hl [0] rfl) hf
      · refine q_aald (v := a_sheets2) fx h 1 rfl c89 (vinK (by decide)) rfl dX4_copy_38 ?_
        obtain ⟨r108, k108, hg, hf⟩ := bR_inv hf
        refine q_ci (rest := []) (ws' := (wX4_copy cI cJ cZ cS a_t a_party a_kept a_tape a_telephone a_sheets a_sheets0 a_sheets0_numbers a_sheets1 a_sheets1_numbers a_sheets2 a_sheets2_numbers a_sheets3 a_sheets3_numbers a_findings v_isKept v_sheets0_bits v_sheets0_size v_sheets0_numbers v_sheets1_bits v_sheets1_size v_sheets1_numbers v_sheets2_bits v_sheets2_size v_sheets2_numbers v_sheets3_bits v_sheets3_size v_sheets3_numbers v_findings)) (w1 := (wX1_isMissing cI cJ cZ cS a_sheets2 a_sheets2_numbers v_sheets2_bits v_sheets2_size)) fx h [6] rfl rfl rfl rfl (q_runV fx h hl.1 [6] rfl rfl (tX1_isMissing l D cI cJ cZ cS tb a_sheets2 a_sheets2_numbers H.size v_sheets2_bits v_sheets2_size r108 k108 hg) mvX1_isMissing k_553 ⟨rfl, rfl⟩ ⟨Nat.le_of_ble_eq_true rfl, Nat.le_of_ble_eq_true rfl⟩ rfl rfl rfl rfl (Nat.le_of_ble_eq_true rfl) dX4_copy_39 ⟨Nat.le_of_ble_eq_true rfl, Nat.le_of_ble_eq_true rfl⟩) (fun H locs h => ?_)
        refine lv_if_eq (tgt := 52) hx hb dX4_copy_42 (by decide) (fun c109 => ?_) (fun c109 => ?_)
        · have hf := it_t c109 hf
          refine lv_aload_n hx hb dX4_copy_52 rfl (lv_at hl 0 rfl) ?_
          refine q_get (v := .ref a_sheets) fx inX4 h 0 rfl rfl 5 (by decide) k_179 rfl dX4_copy_53 ?_
          refine lv_iload_n hx hb dX4_copy_56 rfl (lv_at hl 1 rfl) ?_
          refine q_aald (v := a_sheets2) fx h 1 rfl c8 (vinK (by decide)) rfl dX4_copy_57 ?_
          refine q_getN (v := .int v_sheets2_bits) fx inX1 h 6 rfl rfl 0 (by decide) nf_9 rfl dX4_copy_58 ?_
          refine lv_aload_n hx hb dX4_copy_61 rfl (lv_at hl 0 rfl) ?_
          refine q_get (v := .ref a_sheets) fx inX4 h 0 rfl rfl 5 (by decide) k_179 rfl dX4_copy_62 ?_
          refine lv_iload_n hx hb dX4_copy_65 rfl (lv_at hl 3 rfl) ?_
          refine q_aald (v := a_sheets2) fx h 1 rfl c89 (vinK (by decide)) rfl dX4_copy_66 ?_
          refine q_getN (v := .int v_sheets2_bits) fx inX1 h 6 rfl rfl 0 (by decide) nf_9 rfl dX4_copy_67 ?_
          refine lv_icmp_eq (tgt := 80) hx hb dX4_copy_70 (by decide) (fun c110 => ?_) (fun c110 => ?_)
          · have hf := it_t c110 hf
            refine lv_aload_n hx hb dX4_copy_80 rfl (lv_at hl 0 rfl) ?_
            refine q_get (v := .ref a_sheets) fx inX4 h 0 rfl rfl 5 (by decide) k_179 rfl dX4_copy_81 ?_
            refine lv_iload_n hx hb dX4_copy_84 rfl (lv_at hl 1 rfl) ?_
            refine q_aald (v := a_sheets2) fx h 1 rfl c8 (vinK (by decide)) rfl dX4_copy_85 ?_
            refine lv_iload_n hx hb dX4_copy_86 rfl (lv_at hl 2 rfl) ?_
            refine lv_iload hx hb dX4_copy_87 (lv_at hl 5 rfl) ?_
            obtain ⟨r111, k111, hg, hf⟩ := bR_inv hf
            refine q_ci (rest := []) (ws' := (wX4_copy cI cJ cZ cS a_t a_party a_kept a_tape a_telephone a_sheets a_sheets0 a_sheets0_numbers a_sheets1 a_sheets1_numbers a_sheets2 a_sheets2_numbers a_sheets3 a_sheets3_numbers a_findings v_isKept v_sheets0_bits v_sheets0_size v_sheets0_numbers v_sheets1_bits v_sheets1_size v_sheets1_numbers v_sheets2_bits v_sheets2_size v_sheets2_numbers v_sheets3_bits v_sheets3_size v_sheets3_numbers v_findings)) (w1 := (wX1_hasRun cI cJ cZ cS a_sheets2 a_sheets2_numbers v_sheets2_bits v_sheets2_size)) fx h [6] rfl rfl rfl rfl (q_runV fx h hl.1 [6] rfl rfl (tX1_hasRun l D cI cJ cZ cS tb a_sheets2 a_sheets2_numbers H.size v_sheets2_bits v_sheets2_size x2 x5 r111 k111 hg) mvX1_hasRun k_566 ⟨rfl, rfl⟩ ⟨Nat.le_of_ble_eq_true rfl, Nat.le_of_ble_eq_true rfl⟩ rfl rfl rfl rfl (Nat.le_of_ble_eq_true rfl) dX4_copy_89 ⟨Nat.le_of_ble_eq_true rfl, Nat.le_of_ble_eq_true rfl⟩) (fun H locs h => ?_)
            refine lv_if_eq (tgt := 111) hx hb dX4_copy_92 (by decide) (fun c112 => ?_) (fun c112 => ?_)
            · have hf := it_t c112 hf
              exact LX4_copy_111 fx h (lv_sub hl [0] rfl) hf
            have hf := it_f c112 hf
            refine lv_aload_n hx hb dX4_copy_95 rfl (lv_at hl 0 rfl) ?_
            refine q_get (v := .ref a_sheets) fx inX4 h 0 rfl rfl 5 (by decide) k_179 rfl dX4_copy_96 ?_
            refine lv_iload_n hx hb dX4_copy_99 rfl (lv_at hl 3 rfl) ?_
            refine q_aald (v := a_sheets2) fx h 1 rfl c89 (vinK (by decide)) rfl dX4_copy_100 ?_
            refine lv_iload hx hb dX4_copy_101 (lv_at hl 4 rfl) ?_
            refine lv_iload hx hb dX4_copy_103 (lv_at hl 5 rfl) ?_
            obtain ⟨r113, k113, hg, hf⟩ := bR_inv hf
            refine q_ci (rest := []) (ws' := (wX4_copy cI cJ cZ cS a_t a_party a_kept a_tape a_telephone a_sheets a_sheets0 a_sheets0_numbers a_sheets1 a_sheets1_numbers a_sheets2 a_sheets2_numbers a_sheets3 a_sheets3_numbers a_findings v_isKept v_sheets0_bits v_sheets0_size v_sheets0_numbers v_sheets1_bits v_sheets1_size v_sheets1_numbers v_sheets2_bits v_sheets2_size v_sheets2_numbers v_sheets3_bits v_sheets3_size v_sheets3_numbers v_findings)) (w1 := (wX1_hasRun cI cJ cZ cS a_sheets2 a_sheets2_numbers v_sheets2_bits v_sheets2_size)) fx h [6] rfl rfl rfl rfl (q_runV fx h hl.1 [6] rfl rfl (tX1_hasRun l D cI cJ cZ cS tb a_sheets2 a_sheets2_numbers H.size v_sheets2_bits v_sheets2_size x4 x5 r113 k113 hg) mvX1_hasRun k_566 ⟨rfl, rfl⟩ ⟨Nat.le_of_ble_eq_true rfl, Nat.le_of_ble_eq_true rfl⟩ rfl rfl rfl rfl (Nat.le_of_ble_eq_true rfl) dX4_copy_105 ⟨Nat.le_of_ble_eq_true rfl, Nat.le_of_ble_eq_true rfl⟩) (fun H locs h => ?_)
            refine lv_if_ne (tgt := 118) hx hb dX4_copy_108 (by decide) (fun c114 => ?_) (fun c114 => ?_)
            · have hf := it_f c114 hf
              refine lv_aload_n hx hb dX4_copy_118 rfl (lv_at hl 0 rfl) ?_
              refine q_get (v := .ref a_sheets) fx inX4 h 0 rfl rfl 5 (by decide) k_179 rfl dX4_copy_119 ?_
              refine lv_iload_n hx hb dX4_copy_122 rfl (lv_at hl 1 rfl) ?_
              refine q_aald (v := a_sheets2) fx h 1 rfl c8 (vinK (by decide)) rfl dX4_copy_123 ?_
              refine q_getN (v := .ref a_sheets2_numbers) fx inX1 h 6 rfl rfl 2 (by decide) nf_11 rfl dX4_copy_124 ?_
              refine lv_iload_n hx hb dX4_copy_127 rfl (lv_at hl 2 rfl) ?_
              refine lv_aload_n hx hb dX4_copy_128 rfl (lv_at hl 0 rfl) ?_
              refine q_get (v := .ref a_sheets) fx inX4 h 0 rfl rfl 5 (by decide) k_179 rfl dX4_copy_129 ?_
              refine lv_iload_n hx hb dX4_copy_132 rfl (lv_at hl 3 rfl) ?_
              refine q_aald (v := a_sheets2) fx h 1 rfl c89 (vinK (by decide)) rfl dX4_copy_133 ?_
              refine q_getN (v := .ref a_sheets2_numbers) fx inX1 h 6 rfl rfl 2 (by decide) nf_11 rfl dX4_copy_134 ?_
              refine lv_iload hx hb dX4_copy_137 (lv_at hl 4 rfl) ?_
              refine lv_iload hx hb dX4_copy_139 (lv_at hl 5 rfl) ?_
              obtain ⟨i115, hf⟩ := gCp_inv hf
              refine q_copyl (ws' := (wX4_copy cI cJ cZ cS a_t a_party a_kept a_tape a_telephone a_sheets a_sheets0 a_sheets0_numbers a_sheets1 a_sheets1_numbers a_sheets2 a_sheets2_numbers a_sheets3 a_sheets3_numbers a_findings v_isKept v_sheets0_bits v_sheets0_size v_sheets0_numbers v_sheets1_bits v_sheets1_size v_sheets1_numbers v_sheets2_bits v_sheets2_size (va_cpy v_sheets2_numbers v_sheets2_numbers x2.toNatClampNeg x4.toNatClampNeg x5.toNatClampNeg) v_sheets3_bits v_sheets3_size v_sheets3_numbers v_findings)) fx h hl.1 7 7 rfl rfl k_570 k_572 k_571 k_58 i115 (Nat.le_of_ble_eq_true rfl) (Nat.le_of_ble_eq_true rfl) rfl dX4_copy_141 (fun H locs h => ?_)
              refine lv_iload hx hb dX4_copy_144 (lv_at hl 5 rfl) ?_
              exact q_reti (fun k : (Nat → Int64) × (Nat → Int64) × (Nat → Int64) × (Nat → Int64) × (Nat → Int32) => (wX4_copy cI cJ cZ cS a_t a_party a_kept a_tape a_telephone a_sheets a_sheets0 a_sheets0_numbers a_sheets1 a_sheets1_numbers a_sheets2 a_sheets2_numbers a_sheets3 a_sheets3_numbers a_findings v_isKept v_sheets0_bits v_sheets0_size k.1 v_sheets1_bits v_sheets1_size k.2.1 v_sheets2_bits v_sheets2_size k.2.2.1 v_sheets3_bits v_sheets3_size k.2.2.2.1 k.2.2.2.2)) fx hf h dX4_copy_146
            have hf := it_t c114 hf
            exact LX4_copy_111 fx h (lv_sub hl [0] rfl) hf
          have hf := it_f c110 hf
          refine lv_aload_n hx hb dX4_copy_73 rfl (lv_at hl 0 rfl) ?_
          refine q_ldc fx k_269 dX4_copy_74 ?_
          obtain ⟨r116, k116, hg, hf⟩ := bR_inv hf
          refine q_ci (rest := []) (ws' := (wX4_copy cI cJ cZ cS a_t a_party a_kept a_tape a_telephone a_sheets a_sheets0 a_sheets0_numbers a_sheets1 a_sheets1_numbers a_sheets2 a_sheets2_numbers a_sheets3 a_sheets3_numbers a_findings v_isKept v_sheets0_bits v_sheets0_size v_sheets0_numbers v_sheets1_bits v_sheets1_size v_sheets1_numbers v_sheets2_bits v_sheets2_size v_sheets2_numbers v_sheets3_bits v_sheets3_size v_sheets3_numbers k116)) (w1 := (wX4_found cI cJ cZ cS a_t a_party a_kept a_tape a_telephone a_sheets a_findings v_isKept k116)) fx h [0, 10] rfl rfl rfl rfl (q_runV fx h hl.1 [0, 10] rfl rfl (tX4_found l D cI cJ cZ cS tb a_t a_party a_kept a_tape a_telephone a_sheets a_findings H.size v_isKept v_findings (-1000000003) r116 k116 hg) mvX4_found k_207 ⟨rfl, rfl⟩ ⟨Nat.le_of_ble_eq_true rfl, Nat.le_of_ble_eq_true rfl⟩ rfl rfl rfl rfl (Nat.le_of_ble_eq_true rfl) dX4_copy_76 ⟨Nat.le_of_ble_eq_true rfl, Nat.le_of_ble_eq_true rfl⟩) (fun H locs h => ?_)
          exact q_reti (fun k : (Nat → Int64) × (Nat → Int64) × (Nat → Int64) × (Nat → Int64) × (Nat → Int32) => (wX4_copy cI cJ cZ cS a_t a_party a_kept a_tape a_telephone a_sheets a_sheets0 a_sheets0_numbers a_sheets1 a_sheets1_numbers a_sheets2 a_sheets2_numbers a_sheets3 a_sheets3_numbers a_findings v_isKept v_sheets0_bits v_sheets0_size k.1 v_sheets1_bits v_sheets1_size k.2.1 v_sheets2_bits v_sheets2_size k.2.2.1 v_sheets3_bits v_sheets3_size k.2.2.2.1 k.2.2.2.2)) fx hf h dX4_copy_79
        have hf := it_f c109 hf
        exact LX4_copy_45 fx h (lv_sub hl [0] rfl) hf
      · refine q_aald (v := a_sheets3) fx h 1 rfl c89 (vinK (by decide)) rfl dX4_copy_38 ?_
        obtain ⟨r117, k117, hg, hf⟩ := bR_inv hf
        refine q_ci (rest := []) (ws' := (wX4_copy cI cJ cZ cS a_t a_party a_kept a_tape a_telephone a_sheets a_sheets0 a_sheets0_numbers a_sheets1 a_sheets1_numbers a_sheets2 a_sheets2_numbers a_sheets3 a_sheets3_numbers a_findings v_isKept v_sheets0_bits v_sheets0_size v_sheets0_numbers v_sheets1_bits v_sheets1_size v_sheets1_numbers v_sheets2_bits v_sheets2_size v_sheets2_numbers v_sheets3_bits v_sheets3_size v_sheets3_numbers v_findings)) (w1 := (wX1_isMissing cI cJ cZ cS a_sheets3 a_sheets3_numbers v_sheets3_bits v_sheets3_size)) fx h [8] rfl rfl rfl rfl (q_runV fx h hl.1 [8] rfl rfl (tX1_isMissing l D cI cJ cZ cS tb a_sheets3 a_sheets3_numbers H.size v_sheets3_bits v_sheets3_size r117 k117 hg) mvX1_isMissing k_553 ⟨rfl, rfl⟩ ⟨Nat.le_of_ble_eq_true rfl, Nat.le_of_ble_eq_true rfl⟩ rfl rfl rfl rfl (Nat.le_of_ble_eq_true rfl) dX4_copy_39 ⟨Nat.le_of_ble_eq_true rfl, Nat.le_of_ble_eq_true rfl⟩) (fun H locs h => ?_)
        refine lv_if_eq (tgt := 52) hx hb dX4_copy_42 (by decide) (fun c118 => ?_) (fun c118 => ?_)
        · have hf := it_t c118 hf
          refine lv_aload_n hx hb dX4_copy_52 rfl (lv_at hl 0 rfl) ?_
          refine q_get (v := .ref a_sheets) fx inX4 h 0 rfl rfl 5 (by decide) k_179 rfl dX4_copy_53 ?_
          refine lv_iload_n hx hb dX4_copy_56 rfl (lv_at hl 1 rfl) ?_
          refine q_aald (v := a_sheets2) fx h 1 rfl c8 (vinK (by decide)) rfl dX4_copy_57 ?_
          refine q_getN (v := .int v_sheets2_bits) fx inX1 h 6 rfl rfl 0 (by decide) nf_9 rfl dX4_copy_58 ?_
          refine lv_aload_n hx hb dX4_copy_61 rfl (lv_at hl 0 rfl) ?_
          refine q_get (v := .ref a_sheets) fx inX4 h 0 rfl rfl 5 (by decide) k_179 rfl dX4_copy_62 ?_
          refine lv_iload_n hx hb dX4_copy_65 rfl (lv_at hl 3 rfl) ?_
          refine q_aald (v := a_sheets3) fx h 1 rfl c89 (vinK (by decide)) rfl dX4_copy_66 ?_
          refine q_getN (v := .int v_sheets3_bits) fx inX1 h 8 rfl rfl 0 (by decide) nf_9 rfl dX4_copy_67 ?_
          refine lv_icmp_eq (tgt := 80) hx hb dX4_copy_70 (by decide) (fun c119 => ?_) (fun c119 => ?_)
          · have hf := it_t c119 hf
            refine lv_aload_n hx hb dX4_copy_80 rfl (lv_at hl 0 rfl) ?_
            refine q_get (v := .ref a_sheets) fx inX4 h 0 rfl rfl 5 (by decide) k_179 rfl dX4_copy_81 ?_
            refine lv_iload_n hx hb dX4_copy_84 rfl (lv_at hl 1 rfl) ?_
            refine q_aald (v := a_sheets2) fx h 1 rfl c8 (vinK (by decide)) rfl dX4_copy_85 ?_
            refine lv_iload_n hx hb dX4_copy_86 rfl (lv_at hl 2 rfl) ?_
            refine lv_iload hx hb dX4_copy_87 (lv_at hl 5 rfl) ?_
            obtain ⟨r120, k120, hg, hf⟩ := bR_inv hf
            refine q_ci (rest := []) (ws' := (wX4_copy cI cJ cZ cS a_t a_party a_kept a_tape a_telephone a_sheets a_sheets0 a_sheets0_numbers a_sheets1 a_sheets1_numbers a_sheets2 a_sheets2_numbers a_sheets3 a_sheets3_numbers a_findings v_isKept v_sheets0_bits v_sheets0_size v_sheets0_numbers v_sheets1_bits v_sheets1_size v_sheets1_numbers v_sheets2_bits v_sheets2_size v_sheets2_numbers v_sheets3_bits v_sheets3_size v_sheets3_numbers v_findings)) (w1 := (wX1_hasRun cI cJ cZ cS a_sheets2 a_sheets2_numbers v_sheets2_bits v_sheets2_size)) fx h [6] rfl rfl rfl rfl (q_runV fx h hl.1 [6] rfl rfl (tX1_hasRun l D cI cJ cZ cS tb a_sheets2 a_sheets2_numbers H.size v_sheets2_bits v_sheets2_size x2 x5 r120 k120 hg) mvX1_hasRun k_566 ⟨rfl, rfl⟩ ⟨Nat.le_of_ble_eq_true rfl, Nat.le_of_ble_eq_true rfl⟩ rfl rfl rfl rfl (Nat.le_of_ble_eq_true rfl) dX4_copy_89 ⟨Nat.le_of_ble_eq_true rfl, Nat.le_of_ble_eq_true rfl⟩) (fun H locs h => ?_)
            refine lv_if_eq (tgt := 111) hx hb dX4_copy_92 (by decide) (fun c121 => ?_) (fun c121 => ?_)
            · have hf := it_t c121 hf
              exact LX4_copy_111 fx h (lv_sub hl [0] rfl) hf
            have hf := it_f c121 hf
            refine lv_aload_n hx hb dX4_copy_95 rfl (lv_at hl 0 rfl) ?_
            refine q_get (v := .ref a_sheets) fx inX4 h 0 rfl rfl 5 (by decide) k_179 rfl dX4_copy_96 ?_
            refine lv_iload_n hx hb dX4_copy_99 rfl (lv_at hl 3 rfl) ?_
            refine q_aald (v := a_sheets3) fx h 1 rfl c89 (vinK (by decide)) rfl dX4_copy_100 ?_
            refine lv_iload hx hb dX4_copy_101 (lv_at hl 4 rfl) ?_
            refine lv_iload hx hb dX4_copy_103 (lv_at hl 5 rfl) ?_
            obtain ⟨r122, k122, hg, hf⟩ := bR_inv hf
            refine q_ci (rest := []) (ws' := (wX4_copy cI cJ cZ cS a_t a_party a_kept a_tape a_telephone a_sheets a_sheets0 a_sheets0_numbers a_sheets1 a_sheets1_numbers a_sheets2 a_sheets2_numbers a_sheets3 a_sheets3_numbers a_findings v_isKept v_sheets0_bits v_sheets0_size v_sheets0_numbers v_sheets1_bits v_sheets1_size v_sheets1_numbers v_sheets2_bits v_sheets2_size v_sheets2_numbers v_sheets3_bits v_sheets3_size v_sheets3_numbers v_findings)) (w1 := (wX1_hasRun cI cJ cZ cS a_sheets3 a_sheets3_numbers v_sheets3_bits v_sheets3_size)) fx h [8] rfl rfl rfl rfl (q_runV fx h hl.1 [8] rfl rfl (tX1_hasRun l D cI cJ cZ cS tb a_sheets3 a_sheets3_numbers H.size v_sheets3_bits v_sheets3_size x4 x5 r122 k122 hg) mvX1_hasRun k_566 ⟨rfl, rfl⟩ ⟨Nat.le_of_ble_eq_true rfl, Nat.le_of_ble_eq_true rfl⟩ rfl rfl rfl rfl (Nat.le_of_ble_eq_true rfl) dX4_copy_105 ⟨Nat.le_of_ble_eq_true rfl, Nat.le_of_ble_eq_true rfl⟩) (fun H locs h => ?_)
            refine lv_if_ne (tgt := 118) hx hb dX4_copy_108 (by decide) (fun c123 => ?_) (fun c123 => ?_)
            · have hf := it_f c123 hf
              refine lv_aload_n hx hb dX4_copy_118 rfl (lv_at hl 0 rfl) ?_
              refine q_get (v := .ref a_sheets) fx inX4 h 0 rfl rfl 5 (by decide) k_179 rfl dX4_copy_119 ?_
              refine lv_iload_n hx hb dX4_copy_122 rfl (lv_at hl 1 rfl) ?_
              refine q_aald (v := a_sheets2) fx h 1 rfl c8 (vinK (by decide)) rfl dX4_copy_123 ?_
              refine q_getN (v := .ref a_sheets2_numbers) fx inX1 h 6 rfl rfl 2 (by decide) nf_11 rfl dX4_copy_124 ?_
              refine lv_iload_n hx hb dX4_copy_127 rfl (lv_at hl 2 rfl) ?_
              refine lv_aload_n hx hb dX4_copy_128 rfl (lv_at hl 0 rfl) ?_
              refine q_get (v := .ref a_sheets) fx inX4 h 0 rfl rfl 5 (by decide) k_179 rfl dX4_copy_129 ?_
              refine lv_iload_n hx hb dX4_copy_132 rfl (lv_at hl 3 rfl) ?_
              refine q_aald (v := a_sheets3) fx h 1 rfl c89 (vinK (by decide)) rfl dX4_copy_133 ?_
              refine q_getN (v := .ref a_sheets3_numbers) fx inX1 h 8 rfl rfl 2 (by decide) nf_11 rfl dX4_copy_134 ?_
              refine lv_iload hx hb dX4_copy_137 (lv_at hl 4 rfl) ?_
              refine lv_iload hx hb dX4_copy_139 (lv_at hl 5 rfl) ?_
              obtain ⟨i124, hf⟩ := gCp_inv hf
              refine q_copyl (ws' := (wX4_copy cI cJ cZ cS a_t a_party a_kept a_tape a_telephone a_sheets a_sheets0 a_sheets0_numbers a_sheets1 a_sheets1_numbers a_sheets2 a_sheets2_numbers a_sheets3 a_sheets3_numbers a_findings v_isKept v_sheets0_bits v_sheets0_size v_sheets0_numbers v_sheets1_bits v_sheets1_size v_sheets1_numbers v_sheets2_bits v_sheets2_size v_sheets2_numbers v_sheets3_bits v_sheets3_size (va_cpy v_sheets2_numbers v_sheets3_numbers x2.toNatClampNeg x4.toNatClampNeg x5.toNatClampNeg) v_findings)) fx h hl.1 7 9 rfl rfl k_570 k_572 k_571 k_58 i124 (Nat.le_of_ble_eq_true rfl) (Nat.le_of_ble_eq_true rfl) rfl dX4_copy_141 (fun H locs h => ?_)
              refine lv_iload hx hb dX4_copy_144 (lv_at hl 5 rfl) ?_
              exact q_reti (fun k : (Nat → Int64) × (Nat → Int64) × (Nat → Int64) × (Nat → Int64) × (Nat → Int32) => (wX4_copy cI cJ cZ cS a_t a_party a_kept a_tape a_telephone a_sheets a_sheets0 a_sheets0_numbers a_sheets1 a_sheets1_numbers a_sheets2 a_sheets2_numbers a_sheets3 a_sheets3_numbers a_findings v_isKept v_sheets0_bits v_sheets0_size k.1 v_sheets1_bits v_sheets1_size k.2.1 v_sheets2_bits v_sheets2_size k.2.2.1 v_sheets3_bits v_sheets3_size k.2.2.2.1 k.2.2.2.2)) fx hf h dX4_copy_146
            have hf := it_t c123 hf
            exact LX4_copy_111 fx h (lv_sub hl [0] rfl) hf
          have hf := it_f c119 hf
          refine lv_aload_n hx hb dX4_copy_73 rfl (lv_at hl 0 rfl) ?_
          refine q_ldc fx k_269 dX4_copy_74 ?_
          obtain ⟨r125, k125, hg, hf⟩ := bR_inv hf
          refine q_ci (rest := []) (ws' := (wX4_copy cI cJ cZ cS a_t a_party a_kept a_tape a_telephone a_sheets a_sheets0 a_sheets0_numbers a_sheets1 a_sheets1_numbers a_sheets2 a_sheets2_numbers a_sheets3 a_sheets3_numbers a_findings v_isKept v_sheets0_bits v_sheets0_size v_sheets0_numbers v_sheets1_bits v_sheets1_size v_sheets1_numbers v_sheets2_bits v_sheets2_size v_sheets2_numbers v_sheets3_bits v_sheets3_size v_sheets3_numbers k125)) (w1 := (wX4_found cI cJ cZ cS a_t a_party a_kept a_tape a_telephone a_sheets a_findings v_isKept k125)) fx h [0, 10] rfl rfl rfl rfl (q_runV fx h hl.1 [0, 10] rfl rfl (tX4_found l D cI cJ cZ cS tb a_t a_party a_kept a_tape a_telephone a_sheets a_findings H.size v_isKept v_findings (-1000000003) r125 k125 hg) mvX4_found k_207 ⟨rfl, rfl⟩ ⟨Nat.le_of_ble_eq_true rfl, Nat.le_of_ble_eq_true rfl⟩ rfl rfl rfl rfl (Nat.le_of_ble_eq_true rfl) dX4_copy_76 ⟨Nat.le_of_ble_eq_true rfl, Nat.le_of_ble_eq_true rfl⟩) (fun H locs h => ?_)
          exact q_reti (fun k : (Nat → Int64) × (Nat → Int64) × (Nat → Int64) × (Nat → Int64) × (Nat → Int32) => (wX4_copy cI cJ cZ cS a_t a_party a_kept a_tape a_telephone a_sheets a_sheets0 a_sheets0_numbers a_sheets1 a_sheets1_numbers a_sheets2 a_sheets2_numbers a_sheets3 a_sheets3_numbers a_findings v_isKept v_sheets0_bits v_sheets0_size k.1 v_sheets1_bits v_sheets1_size k.2.1 v_sheets2_bits v_sheets2_size k.2.2.1 v_sheets3_bits v_sheets3_size k.2.2.2.1 k.2.2.2.2)) fx hf h dX4_copy_79
        have hf := it_f c118 hf
        exact LX4_copy_45 fx h (lv_sub hl [0] rfl) hf
    · refine q_aald (v := a_sheets3) fx h 1 rfl c8 (vinK (by decide)) rfl dX4_copy_26 ?_
      obtain ⟨r126, k126, hg, hf⟩ := bR_inv hf
      refine q_ci (rest := []) (ws' := (wX4_copy cI cJ cZ cS a_t a_party a_kept a_tape a_telephone a_sheets a_sheets0 a_sheets0_numbers a_sheets1 a_sheets1_numbers a_sheets2 a_sheets2_numbers a_sheets3 a_sheets3_numbers a_findings v_isKept v_sheets0_bits v_sheets0_size v_sheets0_numbers v_sheets1_bits v_sheets1_size v_sheets1_numbers v_sheets2_bits v_sheets2_size v_sheets2_numbers v_sheets3_bits v_sheets3_size v_sheets3_numbers v_findings)) (w1 := (wX1_isMissing cI cJ cZ cS a_sheets3 a_sheets3_numbers v_sheets3_bits v_sheets3_size)) fx h [8] rfl rfl rfl rfl (q_runV fx h hl.1 [8] rfl rfl (tX1_isMissing l D cI cJ cZ cS tb a_sheets3 a_sheets3_numbers H.size v_sheets3_bits v_sheets3_size r126 k126 hg) mvX1_isMissing k_553 ⟨rfl, rfl⟩ ⟨Nat.le_of_ble_eq_true rfl, Nat.le_of_ble_eq_true rfl⟩ rfl rfl rfl rfl (Nat.le_of_ble_eq_true rfl) dX4_copy_27 ⟨Nat.le_of_ble_eq_true rfl, Nat.le_of_ble_eq_true rfl⟩) (fun H locs h => ?_)
      refine lv_if_ne (tgt := 45) hx hb dX4_copy_30 (by decide) (fun c127 => ?_) (fun c127 => ?_)
      · have hf := it_f c127 hf
        exact LX4_copy_45 fx h (lv_sub hl [0] rfl) hf
      have hf := it_t c127 hf
      refine lv_aload_n hx hb dX4_copy_33 rfl (lv_at hl 0 rfl) ?_
      refine q_get (v := .ref a_sheets) fx inX4 h 0 rfl rfl 5 (by decide) k_179 rfl dX4_copy_34 ?_
      refine lv_iload_n hx hb dX4_copy_37 rfl (lv_at hl 3 rfl) ?_
      rcases sel4_inv hf with ⟨c128, hf⟩ | ⟨c128, hf⟩ | ⟨c128, hf⟩ | ⟨c128, hf⟩
      · refine q_aald (v := a_sheets0) fx h 1 rfl c128 (vinK (by decide)) rfl dX4_copy_38 ?_
        obtain ⟨r129, k129, hg, hf⟩ := bR_inv hf
        refine q_ci (rest := []) (ws' := (wX4_copy cI cJ cZ cS a_t a_party a_kept a_tape a_telephone a_sheets a_sheets0 a_sheets0_numbers a_sheets1 a_sheets1_numbers a_sheets2 a_sheets2_numbers a_sheets3 a_sheets3_numbers a_findings v_isKept v_sheets0_bits v_sheets0_size v_sheets0_numbers v_sheets1_bits v_sheets1_size v_sheets1_numbers v_sheets2_bits v_sheets2_size v_sheets2_numbers v_sheets3_bits v_sheets3_size v_sheets3_numbers v_findings)) (w1 := (wX1_isMissing cI cJ cZ cS a_sheets0 a_sheets0_numbers v_sheets0_bits v_sheets0_size)) fx h [2] rfl rfl rfl rfl (q_runV fx h hl.1 [2] rfl rfl (tX1_isMissing l D cI cJ cZ cS tb a_sheets0 a_sheets0_numbers H.size v_sheets0_bits v_sheets0_size r129 k129 hg) mvX1_isMissing k_553 ⟨rfl, rfl⟩ ⟨Nat.le_of_ble_eq_true rfl, Nat.le_of_ble_eq_true rfl⟩ rfl rfl rfl rfl (Nat.le_of_ble_eq_true rfl) dX4_copy_39 ⟨Nat.le_of_ble_eq_true rfl, Nat.le_of_ble_eq_true rfl⟩) (fun H locs h => ?_)
        refine lv_if_eq (tgt := 52) hx hb dX4_copy_42 (by decide) (fun c130 => ?_) (fun c130 => ?_)
        · have hf := it_t c130 hf
          refine lv_aload_n hx hb dX4_copy_52 rfl (lv_at hl 0 rfl) ?_
          refine q_get (v := .ref a_sheets) fx inX4 h 0 rfl rfl 5 (by decide) k_179 rfl dX4_copy_53 ?_
          refine lv_iload_n hx hb dX4_copy_56 rfl (lv_at hl 1 rfl) ?_
          refine q_aald (v := a_sheets3) fx h 1 rfl c8 (vinK (by decide)) rfl dX4_copy_57 ?_
          refine q_getN (v := .int v_sheets3_bits) fx inX1 h 8 rfl rfl 0 (by decide) nf_9 rfl dX4_copy_58 ?_
          refine lv_aload_n hx hb dX4_copy_61 rfl (lv_at hl 0 rfl) ?_
          refine q_get (v := .ref a_sheets) fx inX4 h 0 rfl rfl 5 (by decide) k_179 rfl dX4_copy_62 ?_
          refine lv_iload_n hx hb dX4_copy_65 rfl (lv_at hl 3 rfl) ?_
          refine q_aald (v := a_sheets0) fx h 1 rfl c128 (vinK (by decide)) rfl dX4_copy_66 ?_
          refine q_getN (v := .int v_sheets0_bits) fx inX1 h 2 rfl rfl 0 (by decide) nf_9 rfl dX4_copy_67 ?_
          refine lv_icmp_eq (tgt := 80) hx hb dX4_copy_70 (by decide) (fun c131 => ?_) (fun c131 => ?_)
          · have hf := it_t c131 hf
            refine lv_aload_n hx hb dX4_copy_80 rfl (lv_at hl 0 rfl) ?_
            refine q_get (v := .ref a_sheets) fx inX4 h 0 rfl rfl 5 (by decide) k_179 rfl dX4_copy_81 ?_
            refine lv_iload_n hx hb dX4_copy_84 rfl (lv_at hl 1 rfl) ?_
            refine q_aald (v := a_sheets3) fx h 1 rfl c8 (vinK (by decide)) rfl dX4_copy_85 ?_
            refine lv_iload_n hx hb dX4_copy_86 rfl (lv_at hl 2 rfl) ?_
            refine lv_iload hx hb dX4_copy_87 (lv_at hl 5 rfl) ?_
            obtain ⟨r132, k132, hg, hf⟩ := bR_inv hf
            refine q_ci (rest := []) (ws' := (wX4_copy cI cJ cZ cS a_t a_party a_kept a_tape a_telephone a_sheets a_sheets0 a_sheets0_numbers a_sheets1 a_sheets1_numbers a_sheets2 a_sheets2_numbers a_sheets3 a_sheets3_numbers a_findings v_isKept v_sheets0_bits v_sheets0_size v_sheets0_numbers v_sheets1_bits v_sheets1_size v_sheets1_numbers v_sheets2_bits v_sheets2_size v_sheets2_numbers v_sheets3_bits v_sheets3_size v_sheets3_numbers v_findings)) (w1 := (wX1_hasRun cI cJ cZ cS a_sheets3 a_sheets3_numbers v_sheets3_bits v_sheets3_size)) fx h [8] rfl rfl rfl rfl (q_runV fx h hl.1 [8] rfl rfl (tX1_hasRun l D cI cJ cZ cS tb a_sheets3 a_sheets3_numbers H.size v_sheets3_bits v_sheets3_size x2 x5 r132 k132 hg) mvX1_hasRun k_566 ⟨rfl, rfl⟩ ⟨Nat.le_of_ble_eq_true rfl, Nat.le_of_ble_eq_true rfl⟩ rfl rfl rfl rfl (Nat.le_of_ble_eq_true rfl) dX4_copy_89 ⟨Nat.le_of_ble_eq_true rfl, Nat.le_of_ble_eq_true rfl⟩) (fun H locs h => ?_)
            refine lv_if_eq (tgt := 111) hx hb dX4_copy_92 (by decide) (fun c133 => ?_) (fun c133 => ?_)
            · have hf := it_t c133 hf
              exact LX4_copy_111 fx h (lv_sub hl [0] rfl) hf
            have hf := it_f c133 hf
            refine lv_aload_n hx hb dX4_copy_95 rfl (lv_at hl 0 rfl) ?_
            refine q_get (v := .ref a_sheets) fx inX4 h 0 rfl rfl 5 (by decide) k_179 rfl dX4_copy_96 ?_
            refine lv_iload_n hx hb dX4_copy_99 rfl (lv_at hl 3 rfl) ?_
            refine q_aald (v := a_sheets0) fx h 1 rfl c128 (vinK (by decide)) rfl dX4_copy_100 ?_
            refine lv_iload hx hb dX4_copy_101 (lv_at hl 4 rfl) ?_
            refine lv_iload hx hb dX4_copy_103 (lv_at hl 5 rfl) ?_
            obtain ⟨r134, k134, hg, hf⟩ := bR_inv hf
            refine q_ci (rest := []) (ws' := (wX4_copy cI cJ cZ cS a_t a_party a_kept a_tape a_telephone a_sheets a_sheets0 a_sheets0_numbers a_sheets1 a_sheets1_numbers a_sheets2 a_sheets2_numbers a_sheets3 a_sheets3_numbers a_findings v_isKept v_sheets0_bits v_sheets0_size v_sheets0_numbers v_sheets1_bits v_sheets1_size v_sheets1_numbers v_sheets2_bits v_sheets2_size v_sheets2_numbers v_sheets3_bits v_sheets3_size v_sheets3_numbers v_findings)) (w1 := (wX1_hasRun cI cJ cZ cS a_sheets0 a_sheets0_numbers v_sheets0_bits v_sheets0_size)) fx h [2] rfl rfl rfl rfl (q_runV fx h hl.1 [2] rfl rfl (tX1_hasRun l D cI cJ cZ cS tb a_sheets0 a_sheets0_numbers H.size v_sheets0_bits v_sheets0_size x4 x5 r134 k134 hg) mvX1_hasRun k_566 ⟨rfl, rfl⟩ ⟨Nat.le_of_ble_eq_true rfl, Nat.le_of_ble_eq_true rfl⟩ rfl rfl rfl rfl (Nat.le_of_ble_eq_true rfl) dX4_copy_105 ⟨Nat.le_of_ble_eq_true rfl, Nat.le_of_ble_eq_true rfl⟩) (fun H locs h => ?_)
            refine lv_if_ne (tgt := 118) hx hb dX4_copy_108 (by decide) (fun c135 => ?_) (fun c135 => ?_)
            · have hf := it_f c135 hf
              refine lv_aload_n hx hb dX4_copy_118 rfl (lv_at hl 0 rfl) ?_
              refine q_get (v := .ref a_sheets) fx inX4 h 0 rfl rfl 5 (by decide) k_179 rfl dX4_copy_119 ?_
              refine lv_iload_n hx hb dX4_copy_122 rfl (lv_at hl 1 rfl) ?_
              refine q_aald (v := a_sheets3) fx h 1 rfl c8 (vinK (by decide)) rfl dX4_copy_123 ?_
              refine q_getN (v := .ref a_sheets3_numbers) fx inX1 h 8 rfl rfl 2 (by decide) nf_11 rfl dX4_copy_124 ?_
              refine lv_iload_n hx hb dX4_copy_127 rfl (lv_at hl 2 rfl) ?_
              refine lv_aload_n hx hb dX4_copy_128 rfl (lv_at hl 0 rfl) ?_
              refine q_get (v := .ref a_sheets) fx inX4 h 0 rfl rfl 5 (by decide) k_179 rfl dX4_copy_129 ?_
              refine lv_iload_n hx hb dX4_copy_132 rfl (lv_at hl 3 rfl) ?_
              refine q_aald (v := a_sheets0) fx h 1 rfl c128 (vinK (by decide)) rfl dX4_copy_133 ?_
              refine q_getN (v := .ref a_sheets0_numbers) fx inX1 h 2 rfl rfl 2 (by decide) nf_11 rfl dX4_copy_134 ?_
              refine lv_iload hx hb dX4_copy_137 (lv_at hl 4 rfl) ?_
              refine lv_iload hx hb dX4_copy_139 (lv_at hl 5 rfl) ?_
              obtain ⟨i136, hf⟩ := gCp_inv hf
              refine q_copyl (ws' := (wX4_copy cI cJ cZ cS a_t a_party a_kept a_tape a_telephone a_sheets a_sheets0 a_sheets0_numbers a_sheets1 a_sheets1_numbers a_sheets2 a_sheets2_numbers a_sheets3 a_sheets3_numbers a_findings v_isKept v_sheets0_bits v_sheets0_size (va_cpy v_sheets3_numbers v_sheets0_numbers x2.toNatClampNeg x4.toNatClampNeg x5.toNatClampNeg) v_sheets1_bits v_sheets1_size v_sheets1_numbers v_sheets2_bits v_sheets2_size v_sheets2_numbers v_sheets3_bits v_sheets3_size v_sheets3_numbers v_findings)) fx h hl.1 9 3 rfl rfl k_570 k_572 k_571 k_58 i136 (Nat.le_of_ble_eq_true rfl) (Nat.le_of_ble_eq_true rfl) rfl dX4_copy_141 (fun H locs h => ?_)
              refine lv_iload hx hb dX4_copy_144 (lv_at hl 5 rfl) ?_
              exact q_reti (fun k : (Nat → Int64) × (Nat → Int64) × (Nat → Int64) × (Nat → Int64) × (Nat → Int32) => (wX4_copy cI cJ cZ cS a_t a_party a_kept a_tape a_telephone a_sheets a_sheets0 a_sheets0_numbers a_sheets1 a_sheets1_numbers a_sheets2 a_sheets2_numbers a_sheets3 a_sheets3_numbers a_findings v_isKept v_sheets0_bits v_sheets0_size k.1 v_sheets1_bits v_sheets1_size k.2.1 v_sheets2_bits v_sheets2_size k.2.2.1 v_sheets3_bits v_sheets3_size k.2.2.2.1 k.2.2.2.2)) fx hf h dX4_copy_146
            have hf := it_t c135 hf
            exact LX4_copy_111 fx h (lv_sub hl [0] rfl) hf
          have hf := it_f c131 hf
          refine lv_aload_n hx hb dX4_copy_73 rfl (lv_at hl 0 rfl) ?_
          refine q_ldc fx k_269 dX4_copy_74 ?_
          obtain ⟨r137, k137, hg, hf⟩ := bR_inv hf
          refine q_ci (rest := []) (ws' := (wX4_copy cI cJ cZ cS a_t a_party a_kept a_tape a_telephone a_sheets a_sheets0 a_sheets0_numbers a_sheets1 a_sheets1_numbers a_sheets2 a_sheets2_numbers a_sheets3 a_sheets3_numbers a_findings v_isKept v_sheets0_bits v_sheets0_size v_sheets0_numbers v_sheets1_bits v_sheets1_size v_sheets1_numbers v_sheets2_bits v_sheets2_size v_sheets2_numbers v_sheets3_bits v_sheets3_size v_sheets3_numbers k137)) (w1 := (wX4_found cI cJ cZ cS a_t a_party a_kept a_tape a_telephone a_sheets a_findings v_isKept k137)) fx h [0, 10] rfl rfl rfl rfl (q_runV fx h hl.1 [0, 10] rfl rfl (tX4_found l D cI cJ cZ cS tb a_t a_party a_kept a_tape a_telephone a_sheets a_findings H.size v_isKept v_findings (-1000000003) r137 k137 hg) mvX4_found k_207 ⟨rfl, rfl⟩ ⟨Nat.le_of_ble_eq_true rfl, Nat.le_of_ble_eq_true rfl⟩ rfl rfl rfl rfl (Nat.le_of_ble_eq_true rfl) dX4_copy_76 ⟨Nat.le_of_ble_eq_true rfl, Nat.le_of_ble_eq_true rfl⟩) (fun H locs h => ?_)
          exact q_reti (fun k : (Nat → Int64) × (Nat → Int64) × (Nat → Int64) × (Nat → Int64) × (Nat → Int32) => (wX4_copy cI cJ cZ cS a_t a_party a_kept a_tape a_telephone a_sheets a_sheets0 a_sheets0_numbers a_sheets1 a_sheets1_numbers a_sheets2 a_sheets2_numbers a_sheets3 a_sheets3_numbers a_findings v_isKept v_sheets0_bits v_sheets0_size k.1 v_sheets1_bits v_sheets1_size k.2.1 v_sheets2_bits v_sheets2_size k.2.2.1 v_sheets3_bits v_sheets3_size k.2.2.2.1 k.2.2.2.2)) fx hf h dX4_copy_79
        have hf := it_f c130 hf
        exact LX4_copy_45 fx h (lv_sub hl [0] rfl) hf
      · refine q_aald (v := a_sheets1) fx h 1 rfl c128 (vinK (by decide)) rfl dX4_copy_38 ?_
        obtain ⟨r138, k138, hg, hf⟩ := bR_inv hf
        refine q_ci (rest := []) (ws' := (wX4_copy cI cJ cZ cS a_t a_party a_kept a_tape a_telephone a_sheets a_sheets0 a_sheets0_numbers a_sheets1 a_sheets1_numbers a_sheets2 a_sheets2_numbers a_sheets3 a_sheets3_numbers a_findings v_isKept v_sheets0_bits v_sheets0_size v_sheets0_numbers v_sheets1_bits v_sheets1_size v_sheets1_numbers v_sheets2_bits v_sheets2_size v_sheets2_numbers v_sheets3_bits v_sheets3_size v_sheets3_numbers v_findings)) (w1 := (wX1_isMissing cI cJ cZ cS a_sheets1 a_sheets1_numbers v_sheets1_bits v_sheets1_size)) fx h [4] rfl rfl rfl rfl (q_runV fx h hl.1 [4] rfl rfl (tX1_isMissing l D cI cJ cZ cS tb a_sheets1 a_sheets1_numbers H.size v_sheets1_bits v_sheets1_size r138 k138 hg) mvX1_isMissing k_553 ⟨rfl, rfl⟩ ⟨Nat.le_of_ble_eq_true rfl, Nat.le_of_ble_eq_true rfl⟩ rfl rfl rfl rfl (Nat.le_of_ble_eq_true rfl) dX4_copy_39 ⟨Nat.le_of_ble_eq_true rfl, Nat.le_of_ble_eq_true rfl⟩) (fun H locs h => ?_)
        refine lv_if_eq (tgt := 52) hx hb dX4_copy_42 (by decide) (fun c139 => ?_) (fun c139 => ?_)
        · have hf := it_t c139 hf
          refine lv_aload_n hx hb dX4_copy_52 rfl (lv_at hl 0 rfl) ?_
          refine q_get (v := .ref a_sheets) fx inX4 h 0 rfl rfl 5 (by decide) k_179 rfl dX4_copy_53 ?_
          refine lv_iload_n hx hb dX4_copy_56 rfl (lv_at hl 1 rfl) ?_
          refine q_aald (v := a_sheets3) fx h 1 rfl c8 (vinK (by decide)) rfl dX4_copy_57 ?_
          refine q_getN (v := .int v_sheets3_bits) fx inX1 h 8 rfl rfl 0 (by decide) nf_9 rfl dX4_copy_58 ?_
          refine lv_aload_n hx hb dX4_copy_61 rfl (lv_at hl 0 rfl) ?_
          refine q_get (v := .ref a_sheets) fx inX4 h 0 rfl rfl 5 (by decide) k_179 rfl dX4_copy_62 ?_
          refine lv_iload_n hx hb dX4_copy_65 rfl (lv_at hl 3 rfl) ?_
          refine q_aald (v := a_sheets1) fx h 1 rfl c128 (vinK (by decide)) rfl dX4_copy_66 ?_
          refine q_getN (v := .int v_sheets1_bits) fx inX1 h 4 rfl rfl 0 (by decide) nf_9 rfl dX4_copy_67 ?_
          refine lv_icmp_eq (tgt := 80) hx hb dX4_copy_70 (by decide) (fun c140 => ?_) (fun c140 => ?_)
          · have hf := it_t c140 hf
            refine lv_aload_n hx hb dX4_copy_80 rfl (lv_at hl 0 rfl) ?_
            refine q_get (v := .ref a_sheets) fx inX4 h 0 rfl rfl 5 (by decide) k_179 rfl dX4_copy_81 ?_
            refine lv_iload_n hx hb dX4_copy_84 rfl (lv_at hl 1 rfl) ?_
            refine q_aald (v := a_sheets3) fx h 1 rfl c8 (vinK (by decide)) rfl dX4_copy_85 ?_
            refine lv_iload_n hx hb dX4_copy_86 rfl (lv_at hl 2 rfl) ?_
            refine lv_iload hx hb dX4_copy_87 (lv_at hl 5 rfl) ?_
            obtain ⟨r141, k141, hg, hf⟩ := bR_inv hf
            refine q_ci (rest := []) (ws' := (wX4_copy cI cJ cZ cS a_t a_party a_kept a_tape a_telephone a_sheets a_sheets0 a_sheets0_numbers a_sheets1 a_sheets1_numbers a_sheets2 a_sheets2_numbers a_sheets3 a_sheets3_numbers a_findings v_isKept v_sheets0_bits v_sheets0_size v_sheets0_numbers v_sheets1_bits v_sheets1_size v_sheets1_numbers v_sheets2_bits v_sheets2_size v_sheets2_numbers v_sheets3_bits v_sheets3_size v_sheets3_numbers v_findings)) (w1 := (wX1_hasRun cI cJ cZ cS a_sheets3 a_sheets3_numbers v_sheets3_bits v_sheets3_size)) fx h [8] rfl rfl rfl rfl (q_runV fx h hl.1 [8] rfl rfl (tX1_hasRun l D cI cJ cZ cS tb a_sheets3 a_sheets3_numbers H.size v_sheets3_bits v_sheets3_size x2 x5 r141 k141 hg) mvX1_hasRun k_566 ⟨rfl, rfl⟩ ⟨Nat.le_of_ble_eq_true rfl, Nat.le_of_ble_eq_true rfl⟩ rfl rfl rfl rfl (Nat.le_of_ble_eq_true rfl) dX4_copy_89 ⟨Nat.le_of_ble_eq_true rfl, Nat.le_of_ble_eq_true rfl⟩) (fun H locs h => ?_)
            refine lv_if_eq (tgt := 111) hx hb dX4_copy_92 (by decide) (fun c142 => ?_) (fun c142 => ?_)
            · have hf := it_t c142 hf
              exact LX4_copy_111 fx h (lv_sub hl [0] rfl) hf
            have hf := it_f c142 hf
            refine lv_aload_n hx hb dX4_copy_95 rfl (lv_at hl 0 rfl) ?_
            refine q_get (v := .ref a_sheets) fx inX4 h 0 rfl rfl 5 (by decide) k_179 rfl dX4_copy_96 ?_
            refine lv_iload_n hx hb dX4_copy_99 rfl (lv_at hl 3 rfl) ?_
            refine q_aald (v := a_sheets1) fx h 1 rfl c128 (vinK (by decide)) rfl dX4_copy_100 ?_
            refine lv_iload hx hb dX4_copy_101 (lv_at hl 4 rfl) ?_
            refine lv_iload hx hb dX4_copy_103 (lv_at hl 5 rfl) ?_
            obtain ⟨r143, k143, hg, hf⟩ := bR_inv hf
            refine q_ci (rest := []) (ws' := (wX4_copy cI cJ cZ cS a_t a_party a_kept a_tape a_telephone a_sheets a_sheets0 a_sheets0_numbers a_sheets1 a_sheets1_numbers a_sheets2 a_sheets2_numbers a_sheets3 a_sheets3_numbers a_findings v_isKept v_sheets0_bits v_sheets0_size v_sheets0_numbers v_sheets1_bits v_sheets1_size v_sheets1_numbers v_sheets2_bits v_sheets2_size v_sheets2_numbers v_sheets3_bits v_sheets3_size v_sheets3_numbers v_findings)) (w1 := (wX1_hasRun cI cJ cZ cS a_sheets1 a_sheets1_numbers v_sheets1_bits v_sheets1_size)) fx h [4] rfl rfl rfl rfl (q_runV fx h hl.1 [4] rfl rfl (tX1_hasRun l D cI cJ cZ cS tb a_sheets1 a_sheets1_numbers H.size v_sheets1_bits v_sheets1_size x4 x5 r143 k143 hg) mvX1_hasRun k_566 ⟨rfl, rfl⟩ ⟨Nat.le_of_ble_eq_true rfl, Nat.le_of_ble_eq_true rfl⟩ rfl rfl rfl rfl (Nat.le_of_ble_eq_true rfl) dX4_copy_105 ⟨Nat.le_of_ble_eq_true rfl, Nat.le_of_ble_eq_true rfl⟩) (fun H locs h => ?_)
            refine lv_if_ne (tgt := 118) hx hb dX4_copy_108 (by decide) (fun c144 => ?_) (fun c144 => ?_)
            · have hf := it_f c144 hf
              refine lv_aload_n hx hb dX4_copy_118 rfl (lv_at hl 0 rfl) ?_
              refine q_get (v := .ref a_sheets) fx inX4 h 0 rfl rfl 5 (by decide) k_179 rfl dX4_copy_119 ?_
              refine lv_iload_n hx hb dX4_copy_122 rfl (lv_at hl 1 rfl) ?_
              refine q_aald (v := a_sheets3) fx h 1 rfl c8 (vinK (by decide)) rfl dX4_copy_123 ?_
              refine q_getN (v := .ref a_sheets3_numbers) fx inX1 h 8 rfl rfl 2 (by decide) nf_11 rfl dX4_copy_124 ?_
              refine lv_iload_n hx hb dX4_copy_127 rfl (lv_at hl 2 rfl) ?_
              refine lv_aload_n hx hb dX4_copy_128 rfl (lv_at hl 0 rfl) ?_
              refine q_get (v := .ref a_sheets) fx inX4 h 0 rfl rfl 5 (by decide) k_179 rfl dX4_copy_129 ?_
              refine lv_iload_n hx hb dX4_copy_132 rfl (lv_at hl 3 rfl) ?_
              refine q_aald (v := a_sheets1) fx h 1 rfl c128 (vinK (by decide)) rfl dX4_copy_133 ?_
              refine q_getN (v := .ref a_sheets1_numbers) fx inX1 h 4 rfl rfl 2 (by decide) nf_11 rfl dX4_copy_134 ?_
              refine lv_iload hx hb dX4_copy_137 (lv_at hl 4 rfl) ?_
              refine lv_iload hx hb dX4_copy_139 (lv_at hl 5 rfl) ?_
              obtain ⟨i145, hf⟩ := gCp_inv hf
              refine q_copyl (ws' := (wX4_copy cI cJ cZ cS a_t a_party a_kept a_tape a_telephone a_sheets a_sheets0 a_sheets0_numbers a_sheets1 a_sheets1_numbers a_sheets2 a_sheets2_numbers a_sheets3 a_sheets3_numbers a_findings v_isKept v_sheets0_bits v_sheets0_size v_sheets0_numbers v_sheets1_bits v_sheets1_size (va_cpy v_sheets3_numbers v_sheets1_numbers x2.toNatClampNeg x4.toNatClampNeg x5.toNatClampNeg) v_sheets2_bits v_sheets2_size v_sheets2_numbers v_sheets3_bits v_sheets3_size v_sheets3_numbers v_findings)) fx h hl.1 9 5 rfl rfl k_570 k_572 k_571 k_58 i145 (Nat.le_of_ble_eq_true rfl) (Nat.le_of_ble_eq_true rfl) rfl dX4_copy_141 (fun H locs h => ?_)
              refine lv_iload hx hb dX4_copy_144 (lv_at hl 5 rfl) ?_
              exact q_reti (fun k : (Nat → Int64) × (Nat → Int64) × (Nat → Int64) × (Nat → Int64) × (Nat → Int32) => (wX4_copy cI cJ cZ cS a_t a_party a_kept a_tape a_telephone a_sheets a_sheets0 a_sheets0_numbers a_sheets1 a_sheets1_numbers a_sheets2 a_sheets2_numbers a_sheets3 a_sheets3_numbers a_findings v_isKept v_sheets0_bits v_sheets0_size k.1 v_sheets1_bits v_sheets1_size k.2.1 v_sheets2_bits v_sheets2_size k.2.2.1 v_sheets3_bits v_sheets3_size k.2.2.2.1 k.2.2.2.2)) fx hf h dX4_copy_146
            have hf := it_t c144 hf
            exact LX4_copy_111 fx h (lv_sub hl [0] rfl) hf
          have hf := it_f c140 hf
          refine lv_aload_n hx hb dX4_copy_73 rfl (lv_at hl 0 rfl) ?_
          refine q_ldc fx k_269 dX4_copy_74 ?_
          obtain ⟨r146, k146, hg, hf⟩ := bR_inv hf
          refine q_ci (rest := []) (ws' := (wX4_copy cI cJ cZ cS a_t a_party a_kept a_tape a_telephone a_sheets a_sheets0 a_sheets0_numbers a_sheets1 a_sheets1_numbers a_sheets2 a_sheets2_numbers a_sheets3 a_sheets3_numbers a_findings v_isKept v_sheets0_bits v_sheets0_size v_sheets0_numbers v_sheets1_bits v_sheets1_size v_sheets1_numbers v_sheets2_bits v_sheets2_size v_sheets2_numbers v_sheets3_bits v_sheets3_size v_sheets3_numbers k146)) (w1 := (wX4_found cI cJ cZ cS a_t a_party a_kept a_tape a_telephone a_sheets a_findings v_isKept k146)) fx h [0, 10] rfl rfl rfl rfl (q_runV fx h hl.1 [0, 10] rfl rfl (tX4_found l D cI cJ cZ cS tb a_t a_party a_kept a_tape a_telephone a_sheets a_findings H.size v_isKept v_findings (-1000000003) r146 k146 hg) mvX4_found k_207 ⟨rfl, rfl⟩ ⟨Nat.le_of_ble_eq_true rfl, Nat.le_of_ble_eq_true rfl⟩ rfl rfl rfl rfl (Nat.le_of_ble_eq_true rfl) dX4_copy_76 ⟨Nat.le_of_ble_eq_true rfl, Nat.le_of_ble_eq_true rfl⟩) (fun H locs h => ?_)
          exact q_reti (fun k : (Nat → Int64) × (Nat → Int64) × (Nat → Int64) × (Nat → Int64) × (Nat → Int32) => (wX4_copy cI cJ cZ cS a_t a_party a_kept a_tape a_telephone a_sheets a_sheets0 a_sheets0_numbers a_sheets1 a_sheets1_numbers a_sheets2 a_sheets2_numbers a_sheets3 a_sheets3_numbers a_findings v_isKept v_sheets0_bits v_sheets0_size k.1 v_sheets1_bits v_sheets1_size k.2.1 v_sheets2_bits v_sheets2_size k.2.2.1 v_sheets3_bits v_sheets3_size k.2.2.2.1 k.2.2.2.2)) fx hf h dX4_copy_79
        have hf := it_f c139 hf
        exact LX4_copy_45 fx h (lv_sub hl [0] rfl) hf
      · refine q_aald (v := a_sheets2) fx h 1 rfl c128 (vinK (by decide)) rfl dX4_copy_38 ?_
        obtain ⟨r147, k147, hg, hf⟩ := bR_inv hf
        refine q_ci (rest := []) (ws' := (wX4_copy cI cJ cZ cS a_t a_party a_kept a_tape a_telephone a_sheets a_sheets0 a_sheets0_numbers a_sheets1 a_sheets1_numbers a_sheets2 a_sheets2_numbers a_sheets3 a_sheets3_numbers a_findings v_isKept v_sheets0_bits v_sheets0_size v_sheets0_numbers v_sheets1_bits v_sheets1_size v_sheets1_numbers v_sheets2_bits v_sheets2_size v_sheets2_numbers v_sheets3_bits v_sheets3_size v_sheets3_numbers v_findings)) (w1 := (wX1_isMissing cI cJ cZ cS a_sheets2 a_sheets2_numbers v_sheets2_bits v_sheets2_size)) fx h [6] rfl rfl rfl rfl (q_runV fx h hl.1 [6] rfl rfl (tX1_isMissing l D cI cJ cZ cS tb a_sheets2 a_sheets2_numbers H.size v_sheets2_bits v_sheets2_size r147 k147 hg) mvX1_isMissing k_553 ⟨rfl, rfl⟩ ⟨Nat.le_of_ble_eq_true rfl, Nat.le_of_ble_eq_true rfl⟩ rfl rfl rfl rfl (Nat.le_of_ble_eq_true rfl) dX4_copy_39 ⟨Nat.le_of_ble_eq_true rfl, Nat.le_of_ble_eq_true rfl⟩) (fun H locs h => ?_)
        refine lv_if_eq (tgt := 52) hx hb dX4_copy_42 (by decide) (fun c148 => ?_) (fun c148 => ?_)
        · have hf := it_t c148 hf
          refine lv_aload_n hx hb dX4_copy_52 rfl (lv_at hl 0 rfl) ?_
          refine q_get (v := .ref a_sheets) fx inX4 h 0 rfl rfl 5 (by decide) k_179 rfl dX4_copy_53 ?_
          refine lv_iload_n hx hb dX4_copy_56 rfl (lv_at hl 1 rfl) ?_
          refine q_aald (v := a_sheets3) fx h 1 rfl c8 (vinK (by decide)) rfl dX4_copy_57 ?_
          refine q_getN (v := .int v_sheets3_bits) fx inX1 h 8 rfl rfl 0 (by decide) nf_9 rfl dX4_copy_58 ?_
          refine lv_aload_n hx hb dX4_copy_61 rfl (lv_at hl 0 rfl) ?_
          refine q_get (v := .ref a_sheets) fx inX4 h 0 rfl rfl 5 (by decide) k_179 rfl dX4_copy_62 ?_
          refine lv_iload_n hx hb dX4_copy_65 rfl (lv_at hl 3 rfl) ?_
          refine q_aald (v := a_sheets2) fx h 1 rfl c128 (vinK (by decide)) rfl dX4_copy_66 ?_
          refine q_getN (v := .int v_sheets2_bits) fx inX1 h 6 rfl rfl 0 (by decide) nf_9 rfl dX4_copy_67 ?_
          refine lv_icmp_eq (tgt := 80) hx hb dX4_copy_70 (by decide) (fun c149 => ?_) (fun c149 => ?_)
          · have hf := it_t c149 hf
            refine lv_aload_n hx hb dX4_copy_80 rfl (lv_at hl 0 rfl) ?_
            refine q_get (v := .ref a_sheets) fx inX4 h 0 rfl rfl 5 (by decide) k_179 rfl dX4_copy_81 ?_
            refine lv_iload_n hx hb dX4_copy_84 rfl (lv_at hl 1 rfl) ?_
            refine q_aald (v := a_sheets3) fx h 1 rfl c8 (vinK (by decide)) rfl dX4_copy_85 ?_
            refine lv_iload_n hx hb dX4_copy_86 rfl (lv_at hl 2 rfl) ?_
            refine lv_iload hx hb dX4_copy_87 (lv_at hl 5 rfl) ?_
            obtain ⟨r150, k150, hg, hf⟩ := bR_inv hf
            refine q_ci (rest := []) (ws' := (wX4_copy cI cJ cZ cS a_t a_party a_kept a_tape a_telephone a_sheets a_sheets0 a_sheets0_numbers a_sheets1 a_sheets1_numbers a_sheets2 a_sheets2_numbers a_sheets3 a_sheets3_numbers a_findings v_isKept v_sheets0_bits v_sheets0_size v_sheets0_numbers v_sheets1_bits v_sheets1_size v_sheets1_numbers v_sheets2_bits v_sheets2_size v_sheets2_numbers v_sheets3_bits v_sheets3_size v_sheets3_numbers v_findings)) (w1 := (wX1_hasRun cI cJ cZ cS a_sheets3 a_sheets3_numbers v_sheets3_bits v_sheets3_size)) fx h [8] rfl rfl rfl rfl (q_runV fx h hl.1 [8] rfl rfl (tX1_hasRun l D cI cJ cZ cS tb a_sheets3 a_sheets3_numbers H.size v_sheets3_bits v_sheets3_size x2 x5 r150 k150 hg) mvX1_hasRun k_566 ⟨rfl, rfl⟩ ⟨Nat.le_of_ble_eq_true rfl, Nat.le_of_ble_eq_true rfl⟩ rfl rfl rfl rfl (Nat.le_of_ble_eq_true rfl) dX4_copy_89 ⟨Nat.le_of_ble_eq_true rfl, Nat.le_of_ble_eq_true rfl⟩) (fun H locs h => ?_)
            refine lv_if_eq (tgt := 111) hx hb dX4_copy_92 (by decide) (fun c151 => ?_) (fun c151 => ?_)
            · have hf := it_t c151 hf
              exact LX4_copy_111 fx h (lv_sub hl [0] rfl) hf
            have hf := it_f c151 hf
            refine lv_aload_n hx hb dX4_copy_95 rfl (lv_at hl 0 rfl) ?_
            refine q_get (v := .ref a_sheets) fx inX4 h 0 rfl rfl 5 (by decide) k_179 rfl dX4_copy_96 ?_
            refine lv_iload_n hx hb dX4_copy_99 rfl (lv_at hl 3 rfl) ?_
            refine q_aald (v := a_sheets2) fx h 1 rfl c128 (vinK (by decide)) rfl dX4_copy_100 ?_
            refine lv_iload hx hb dX4_copy_101 (lv_at hl 4 rfl) ?_
            refine lv_iload hx hb dX4_copy_103 (lv_at hl 5 rfl) ?_
            obtain ⟨r152, k152, hg, hf⟩ := bR_inv hf
            refine q_ci (rest := []) (ws' := (wX4_copy cI cJ cZ cS a_t a_party a_kept a_tape a_telephone a_sheets a_sheets0 a_sheets0_numbers a_sheets1 a_sheets1_numbers a_sheets2 a_sheets2_numbers a_sheets3 a_sheets3_numbers a_findings v_isKept v_sheets0_bits v_sheets0_size v_sheets0_numbers v_sheets1_bits v_sheets1_size v_sheets1_numbers v_sheets2_bits v_sheets2_size v_sheets2_numbers v_sheets3_bits v_sheets3_size v_sheets3_numbers v_findings)) (w1 := (wX1_hasRun cI cJ cZ cS a_sheets2 a_sheets2_numbers v_sheets2_bits v_sheets2_size)) fx h [6] rfl rfl rfl rfl (q_runV fx h hl.1 [6] rfl rfl (tX1_hasRun l D cI cJ cZ cS tb a_sheets2 a_sheets2_numbers H.size v_sheets2_bits v_sheets2_size x4 x5 r152 k152 hg) mvX1_hasRun k_566 ⟨rfl, rfl⟩ ⟨Nat.le_of_ble_eq_true rfl, Nat.le_of_ble_eq_true rfl⟩ rfl rfl rfl rfl (Nat.le_of_ble_eq_true rfl) dX4_copy_105 ⟨Nat.le_of_ble_eq_true rfl, Nat.le_of_ble_eq_true rfl⟩) (fun H locs h => ?_)
            refine lv_if_ne (tgt := 118) hx hb dX4_copy_108 (by decide) (fun c153 => ?_) (fun c153 => ?_)
            · have hf := it_f c153 hf
              refine lv_aload_n hx hb dX4_copy_118 rfl (lv_at hl 0 rfl) ?_
              refine q_get (v := .ref a_sheets) fx inX4 h 0 rfl rfl 5 (by decide) k_179 rfl dX4_copy_119 ?_
              refine lv_iload_n hx hb dX4_copy_122 rfl (lv_at hl 1 rfl) ?_
              refine q_aald (v := a_sheets3) fx h 1 rfl c8 (vinK (by decide)) rfl dX4_copy_123 ?_
              refine q_getN (v := .ref a_sheets3_numbers) fx inX1 h 8 rfl rfl 2 (by decide) nf_11 rfl dX4_copy_124 ?_
              refine lv_iload_n hx hb dX4_copy_127 rfl (lv_at hl 2 rfl) ?_
              refine lv_aload_n hx hb dX4_copy_128 rfl (lv_at hl 0 rfl) ?_
              refine q_get (v := .ref a_sheets) fx inX4 h 0 rfl rfl 5 (by decide) k_179 rfl dX4_copy_129 ?_
              refine lv_iload_n hx hb dX4_copy_132 rfl (lv_at hl 3 rfl) ?_
              refine q_aald (v := a_sheets2) fx h 1 rfl c128 (vinK (by decide)) rfl dX4_copy_133 ?_
              refine q_getN (v := .ref a_sheets2_numbers) fx inX1 h 6 rfl rfl 2 (by decide) nf_11 rfl dX4_copy_134 ?_
              refine lv_iload hx hb dX4_copy_137 (lv_at hl 4 rfl) ?_
              refine lv_iload hx hb dX4_copy_139 (lv_at hl 5 rfl) ?_
              obtain ⟨i154, hf⟩ := gCp_inv hf
              refine q_copyl (ws' := (wX4_copy cI cJ cZ cS a_t a_party a_kept a_tape a_telephone a_sheets a_sheets0 a_sheets0_numbers a_sheets1 a_sheets1_numbers a_sheets2 a_sheets2_numbers a_sheets3 a_sheets3_numbers a_findings v_isKept v_sheets0_bits v_sheets0_size v_sheets0_numbers v_sheets1_bits v_sheets1_size v_sheets1_numbers v_sheets2_bits v_sheets2_size (va_cpy v_sheets3_numbers v_sheets2_numbers x2.toNatClampNeg x4.toNatClampNeg x5.toNatClampNeg) v_sheets3_bits v_sheets3_size v_sheets3_numbers v_findings)) fx h hl.1 9 7 rfl rfl k_570 k_572 k_571 k_58 i154 (Nat.le_of_ble_eq_true rfl) (Nat.le_of_ble_eq_true rfl) rfl dX4_copy_141 (fun H locs h => ?_)
              refine lv_iload hx hb dX4_copy_144 (lv_at hl 5 rfl) ?_
              exact q_reti (fun k : (Nat → Int64) × (Nat → Int64) × (Nat → Int64) × (Nat → Int64) × (Nat → Int32) => (wX4_copy cI cJ cZ cS a_t a_party a_kept a_tape a_telephone a_sheets a_sheets0 a_sheets0_numbers a_sheets1 a_sheets1_numbers a_sheets2 a_sheets2_numbers a_sheets3 a_sheets3_numbers a_findings v_isKept v_sheets0_bits v_sheets0_size k.1 v_sheets1_bits v_sheets1_size k.2.1 v_sheets2_bits v_sheets2_size k.2.2.1 v_sheets3_bits v_sheets3_size k.2.2.2.1 k.2.2.2.2)) fx hf h dX4_copy_146
            have hf := it_t c153 hf
            exact LX4_copy_111 fx h (lv_sub hl [0] rfl) hf
          have hf := it_f c149 hf
          refine lv_aload_n hx hb dX4_copy_73 rfl (lv_at hl 0 rfl) ?_
          refine q_ldc fx k_269 dX4_copy_74 ?_
          obtain ⟨r155, k155, hg, hf⟩ := bR_inv hf
          refine q_ci (rest := []) (ws' := (wX4_copy cI cJ cZ cS a_t a_party a_kept a_tape a_telephone a_sheets a_sheets0 a_sheets0_numbers a_sheets1 a_sheets1_numbers a_sheets2 a_sheets2_numbers a_sheets3 a_sheets3_numbers a_findings v_isKept v_sheets0_bits v_sheets0_size v_sheets0_numbers v_sheets1_bits v_sheets1_size v_sheets1_numbers v_sheets2_bits v_sheets2_size v_sheets2_numbers v_sheets3_bits v_sheets3_size v_sheets3_numbers k155)) (w1 := (wX4_found cI cJ cZ cS a_t a_party a_kept a_tape a_telephone a_sheets a_findings v_isKept k155)) fx h [0, 10] rfl rfl rfl rfl (q_runV fx h hl.1 [0, 10] rfl rfl (tX4_found l D cI cJ cZ cS tb a_t a_party a_kept a_tape a_telephone a_sheets a_findings H.size v_isKept v_findings (-1000000003) r155 k155 hg) mvX4_found k_207 ⟨rfl, rfl⟩ ⟨Nat.le_of_ble_eq_true rfl, Nat.le_of_ble_eq_true rfl⟩ rfl rfl rfl rfl (Nat.le_of_ble_eq_true rfl) dX4_copy_76 ⟨Nat.le_of_ble_eq_true rfl, Nat.le_of_ble_eq_true rfl⟩) (fun H locs h => ?_)
          exact q_reti (fun k : (Nat → Int64) × (Nat → Int64) × (Nat → Int64) × (Nat → Int64) × (Nat → Int32) => (wX4_copy cI cJ cZ cS a_t a_party a_kept a_tape a_telephone a_sheets a_sheets0 a_sheets0_numbers a_sheets1 a_sheets1_numbers a_sheets2 a_sheets2_numbers a_sheets3 a_sheets3_numbers a_findings v_isKept v_sheets0_bits v_sheets0_size k.1 v_sheets1_bits v_sheets1_size k.2.1 v_sheets2_bits v_sheets2_size k.2.2.1 v_sheets3_bits v_sheets3_size k.2.2.2.1 k.2.2.2.2)) fx hf h dX4_copy_79
        have hf := it_f c148 hf
        exact LX4_copy_45 fx h (lv_sub hl [0] rfl) hf
      · refine q_aald (v := a_sheets3) fx h 1 rfl c128 (vinK (by decide)) rfl dX4_copy_38 ?_
        obtain ⟨r156, k156, hg, hf⟩ := bR_inv hf
        refine q_ci (rest := []) (ws' := (wX4_copy cI cJ cZ cS a_t a_party a_kept a_tape a_telephone a_sheets a_sheets0 a_sheets0_numbers a_sheets1 a_sheets1_numbers a_sheets2 a_sheets2_numbers a_sheets3 a_sheets3_numbers a_findings v_isKept v_sheets0_bits v_sheets0_size v_sheets0_numbers v_sheets1_bits v_sheets1_size v_sheets1_numbers v_sheets2_bits v_sheets2_size v_sheets2_numbers v_sheets3_bits v_sheets3_size v_sheets3_numbers v_findings)) (w1 := (wX1_isMissing cI cJ cZ cS a_sheets3 a_sheets3_numbers v_sheets3_bits v_sheets3_size)) fx h [8] rfl rfl rfl rfl (q_runV fx h hl.1 [8] rfl rfl (tX1_isMissing l D cI cJ cZ cS tb a_sheets3 a_sheets3_numbers H.size v_sheets3_bits v_sheets3_size r156 k156 hg) mvX1_isMissing k_553 ⟨rfl, rfl⟩ ⟨Nat.le_of_ble_eq_true rfl, Nat.le_of_ble_eq_true rfl⟩ rfl rfl rfl rfl (Nat.le_of_ble_eq_true rfl) dX4_copy_39 ⟨Nat.le_of_ble_eq_true rfl, Nat.le_of_ble_eq_true rfl⟩) (fun H locs h => ?_)
        refine lv_if_eq (tgt := 52) hx hb dX4_copy_42 (by decide) (fun c157 => ?_) (fun c157 => ?_)
        · have hf := it_t c157 hf
          refine lv_aload_n hx hb dX4_copy_52 rfl (lv_at hl 0 rfl) ?_
          refine q_get (v := .ref a_sheets) fx inX4 h 0 rfl rfl 5 (by decide) k_179 rfl dX4_copy_53 ?_
          refine lv_iload_n hx hb dX4_copy_56 rfl (lv_at hl 1 rfl) ?_
          refine q_aald (v := a_sheets3) fx h 1 rfl c8 (vinK (by decide)) rfl dX4_copy_57 ?_
          refine q_getN (v := .int v_sheets3_bits) fx inX1 h 8 rfl rfl 0 (by decide) nf_9 rfl dX4_copy_58 ?_
          refine lv_aload_n hx hb dX4_copy_61 rfl (lv_at hl 0 rfl) ?_
          refine q_get (v := .ref a_sheets) fx inX4 h 0 rfl rfl 5 (by decide) k_179 rfl dX4_copy_62 ?_
          refine lv_iload_n hx hb dX4_copy_65 rfl (lv_at hl 3 rfl) ?_
          refine q_aald (v := a_sheets3) fx h 1 rfl c128 (vinK (by decide)) rfl dX4_copy_66 ?_
          refine q_getN (v := .int v_sheets3_bits) fx inX1 h 8 rfl rfl 0 (by decide) nf_9 rfl dX4_copy_67 ?_
          refine lv_icmp_eq (tgt := 80) hx hb dX4_copy_70 (by decide) (fun c158 => ?_) (fun c158 => ?_)
          · have hf := it_t c158 hf
            refine lv_aload_n hx hb dX4_copy_80 rfl (lv_at hl 0 rfl) ?_
            refine q_get (v := .ref a_sheets) fx inX4 h 0 rfl rfl 5 (by decide) k_179 rfl dX4_copy_81 ?_
            refine lv_iload_n hx hb dX4_copy_84 rfl (lv_at hl 1 rfl) ?_
            refine q_aald (v := a_sheets3) fx h 1 rfl c8 (vinK (by decide)) rfl dX4_copy_85 ?_
            refine lv_iload_n hx hb dX4_copy_86 rfl (lv_at hl 2 rfl) ?_
            refine lv_iload hx hb dX4_copy_87 (lv_at hl 5 rfl) ?_
            obtain ⟨r159, k159, hg, hf⟩ := bR_inv hf
            refine q_ci (rest := []) (ws' := (wX4_copy cI cJ cZ cS a_t a_party a_kept a_tape a_telephone a_sheets a_sheets0 a_sheets0_numbers a_sheets1 a_sheets1_numbers a_sheets2 a_sheets2_numbers a_sheets3 a_sheets3_numbers a_findings v_isKept v_sheets0_bits v_sheets0_size v_sheets0_numbers v_sheets1_bits v_sheets1_size v_sheets1_numbers v_sheets2_bits v_sheets2_size v_sheets2_numbers v_sheets3_bits v_sheets3_size v_sheets3_numbers v_findings)) (w1 := (wX1_hasRun cI cJ cZ cS a_sheets3 a_sheets3_numbers v_sheets3_bits v_sheets3_size)) fx h [8] rfl rfl rfl rfl (q_runV fx h hl.1 [8] rfl rfl (tX1_hasRun l D cI cJ cZ cS tb a_sheets3 a_sheets3_numbers H.size v_sheets3_bits v_sheets3_size x2 x5 r159 k159 hg) mvX1_hasRun k_566 ⟨rfl, rfl⟩ ⟨Nat.le_of_ble_eq_true rfl, Nat.le_of_ble_eq_true rfl⟩ rfl rfl rfl rfl (Nat.le_of_ble_eq_true rfl) dX4_copy_89 ⟨Nat.le_of_ble_eq_true rfl, Nat.le_of_ble_eq_true rfl⟩) (fun H locs h => ?_)
            refine lv_if_eq (tgt := 111) hx hb dX4_copy_92 (by decide) (fun c160 => ?_) (fun c160 => ?_)
            · have hf := it_t c160 hf
              exact LX4_copy_111 fx h (lv_sub hl [0] rfl) hf
            have hf := it_f c160 hf
            refine lv_aload_n hx hb dX4_copy_95 rfl (lv_at hl 0 rfl) ?_
            refine q_get (v := .ref a_sheets) fx inX4 h 0 rfl rfl 5 (by decide) k_179 rfl dX4_copy_96 ?_
            refine lv_iload_n hx hb dX4_copy_99 rfl (lv_at hl 3 rfl) ?_
            refine q_aald (v := a_sheets3) fx h 1 rfl c128 (vinK (by decide)) rfl dX4_copy_100 ?_
            refine lv_iload hx hb dX4_copy_101 (lv_at hl 4 rfl) ?_
            refine lv_iload hx hb dX4_copy_103 (lv_at hl 5 rfl) ?_
            obtain ⟨r161, k161, hg, hf⟩ := bR_inv hf
            refine q_ci (rest := []) (ws' := (wX4_copy cI cJ cZ cS a_t a_party a_kept a_tape a_telephone a_sheets a_sheets0 a_sheets0_numbers a_sheets1 a_sheets1_numbers a_sheets2 a_sheets2_numbers a_sheets3 a_sheets3_numbers a_findings v_isKept v_sheets0_bits v_sheets0_size v_sheets0_numbers v_sheets1_bits v_sheets1_size v_sheets1_numbers v_sheets2_bits v_sheets2_size v_sheets2_numbers v_sheets3_bits v_sheets3_size v_sheets3_numbers v_findings)) (w1 := (wX1_hasRun cI cJ cZ cS a_sheets3 a_sheets3_numbers v_sheets3_bits v_sheets3_size)) fx h [8] rfl rfl rfl rfl (q_runV fx h hl.1 [8] rfl rfl (tX1_hasRun l D cI cJ cZ cS tb a_sheets3 a_sheets3_numbers H.size v_sheets3_bits v_sheets3_size x4 x5 r161 k161 hg) mvX1_hasRun k_566 ⟨rfl, rfl⟩ ⟨Nat.le_of_ble_eq_true rfl, Nat.le_of_ble_eq_true rfl⟩ rfl rfl rfl rfl (Nat.le_of_ble_eq_true rfl) dX4_copy_105 ⟨Nat.le_of_ble_eq_true rfl, Nat.le_of_ble_eq_true rfl⟩) (fun H locs h => ?_)
            refine lv_if_ne (tgt := 118) hx hb dX4_copy_108 (by decide) (fun c162 => ?_) (fun c162 => ?_)
            · have hf := it_f c162 hf
              refine lv_aload_n hx hb dX4_copy_118 rfl (lv_at hl 0 rfl) ?_
              refine q_get (v := .ref a_sheets) fx inX4 h 0 rfl rfl 5 (by decide) k_179 rfl dX4_copy_119 ?_
              refine lv_iload_n hx hb dX4_copy_122 rfl (lv_at hl 1 rfl) ?_
              refine q_aald (v := a_sheets3) fx h 1 rfl c8 (vinK (by decide)) rfl dX4_copy_123 ?_
              refine q_getN (v := .ref a_sheets3_numbers) fx inX1 h 8 rfl rfl 2 (by decide) nf_11 rfl dX4_copy_124 ?_
              refine lv_iload_n hx hb dX4_copy_127 rfl (lv_at hl 2 rfl) ?_
              refine lv_aload_n hx hb dX4_copy_128 rfl (lv_at hl 0 rfl) ?_
              refine q_get (v := .ref a_sheets) fx inX4 h 0 rfl rfl 5 (by decide) k_179 rfl dX4_copy_129 ?_
              refine lv_iload_n hx hb dX4_copy_132 rfl (lv_at hl 3 rfl) ?_
              refine q_aald (v := a_sheets3) fx h 1 rfl c128 (vinK (by decide)) rfl dX4_copy_133 ?_
              refine q_getN (v := .ref a_sheets3_numbers) fx inX1 h 8 rfl rfl 2 (by decide) nf_11 rfl dX4_copy_134 ?_
              refine lv_iload hx hb dX4_copy_137 (lv_at hl 4 rfl) ?_
              refine lv_iload hx hb dX4_copy_139 (lv_at hl 5 rfl) ?_
              obtain ⟨i163, hf⟩ := gCp_inv hf
              refine q_copyl (ws' := (wX4_copy cI cJ cZ cS a_t a_party a_kept a_tape a_telephone a_sheets a_sheets0 a_sheets0_numbers a_sheets1 a_sheets1_numbers a_sheets2 a_sheets2_numbers a_sheets3 a_sheets3_numbers a_findings v_isKept v_sheets0_bits v_sheets0_size v_sheets0_numbers v_sheets1_bits v_sheets1_size v_sheets1_numbers v_sheets2_bits v_sheets2_size v_sheets2_numbers v_sheets3_bits v_sheets3_size (va_cpy v_sheets3_numbers v_sheets3_numbers x2.toNatClampNeg x4.toNatClampNeg x5.toNatClampNeg) v_findings)) fx h hl.1 9 9 rfl rfl k_570 k_572 k_571 k_58 i163 (Nat.le_of_ble_eq_true rfl) (Nat.le_of_ble_eq_true rfl) rfl dX4_copy_141 (fun H locs h => ?_)
              refine lv_iload hx hb dX4_copy_144 (lv_at hl 5 rfl) ?_
              exact q_reti (fun k : (Nat → Int64) × (Nat → Int64) × (Nat → Int64) × (Nat → Int64) × (Nat → Int32) => (wX4_copy cI cJ cZ cS a_t a_party a_kept a_tape a_telephone a_sheets a_sheets0 a_sheets0_numbers a_sheets1 a_sheets1_numbers a_sheets2 a_sheets2_numbers a_sheets3 a_sheets3_numbers a_findings v_isKept v_sheets0_bits v_sheets0_size k.1 v_sheets1_bits v_sheets1_size k.2.1 v_sheets2_bits v_sheets2_size k.2.2.1 v_sheets3_bits v_sheets3_size k.2.2.2.1 k.2.2.2.2)) fx hf h dX4_copy_146
            have hf := it_t c162 hf
            exact LX4_copy_111 fx h (lv_sub hl [0] rfl) hf
          have hf := it_f c158 hf
          refine lv_aload_n hx hb dX4_copy_73 rfl (lv_at hl 0 rfl) ?_
          refine q_ldc fx k_269 dX4_copy_74 ?_
          obtain ⟨r164, k164, hg, hf⟩ := bR_inv hf
          refine q_ci (rest := []) (ws' := (wX4_copy cI cJ cZ cS a_t a_party a_kept a_tape a_telephone a_sheets a_sheets0 a_sheets0_numbers a_sheets1 a_sheets1_numbers a_sheets2 a_sheets2_numbers a_sheets3 a_sheets3_numbers a_findings v_isKept v_sheets0_bits v_sheets0_size v_sheets0_numbers v_sheets1_bits v_sheets1_size v_sheets1_numbers v_sheets2_bits v_sheets2_size v_sheets2_numbers v_sheets3_bits v_sheets3_size v_sheets3_numbers k164)) (w1 := (wX4_found cI cJ cZ cS a_t a_party a_kept a_tape a_telephone a_sheets a_findings v_isKept k164)) fx h [0, 10] rfl rfl rfl rfl (q_runV fx h hl.1 [0, 10] rfl rfl (tX4_found l D cI cJ cZ cS tb a_t a_party a_kept a_tape a_telephone a_sheets a_findings H.size v_isKept v_findings (-1000000003) r164 k164 hg) mvX4_found k_207 ⟨rfl, rfl⟩ ⟨Nat.le_of_ble_eq_true rfl, Nat.le_of_ble_eq_true rfl⟩ rfl rfl rfl rfl (Nat.le_of_ble_eq_true rfl) dX4_copy_76 ⟨Nat.le_of_ble_eq_true rfl, Nat.le_of_ble_eq_true rfl⟩) (fun H locs h => ?_)
          exact q_reti (fun k : (Nat → Int64) × (Nat → Int64) × (Nat → Int64) × (Nat → Int64) × (Nat → Int32) => (wX4_copy cI cJ cZ cS a_t a_party a_kept a_tape a_telephone a_sheets a_sheets0 a_sheets0_numbers a_sheets1 a_sheets1_numbers a_sheets2 a_sheets2_numbers a_sheets3 a_sheets3_numbers a_findings v_isKept v_sheets0_bits v_sheets0_size k.1 v_sheets1_bits v_sheets1_size k.2.1 v_sheets2_bits v_sheets2_size k.2.2.1 v_sheets3_bits v_sheets3_size k.2.2.2.1 k.2.2.2.2)) fx hf h dX4_copy_79
        have hf := it_f c157 hf
        exact LX4_copy_45 fx h (lv_sub hl [0] rfl) hf
  have hf := it_t c7 hf
  exact LX4_copy_14 fx h (lv_sub hl [0] rfl) hf
end
section
/-! X4_lays -/
abbrev wX4_lays (cI cJ cZ cS : ClassId) (a_t a_party a_party_kinds a_party_costs a_party_terms a_party_known a_kept a_tape a_telephone a_sheets a_sheets0 a_sheets0_numbers a_sheets1 a_sheets1_numbers a_sheets2 a_sheets2_numbers a_sheets3 a_sheets3_numbers a_findings : Nat) (v_isKept : Int32) (v_party_size : Int32) (v_party_list : Int32) (v_party_told : Int32) (v_sheets0_bits : Int32) (v_sheets0_size : Int32) (v_sheets0_numbers : Nat → Int64) (v_sheets1_bits : Int32) (v_sheets1_size : Int32) (v_sheets1_numbers : Nat → Int64) (v_sheets2_bits : Int32) (v_sheets2_size : Int32) (v_sheets2_numbers : Nat → Int64) (v_sheets3_bits : Int32) (v_sheets3_size : Int32) (v_sheets3_numbers : Nat → Int64) (v_findings : Nat → Int32) : va_W := [(a_t, .inr (4, [.ref a_party, .ref a_kept, .int v_isKept, .ref a_tape, .ref a_telephone, .ref a_sheets, .ref a_findings])), (a_party, .inr (0, [.int v_party_size, .int v_party_list, .int v_party_told, .ref a_party_kinds, .ref a_party_costs, .ref a_party_terms, .ref a_party_known])), (a_sheets, .inl (cS, 4, .inr (.inr (.inr (.inr (q_sh a_sheets0 a_sheets1 a_sheets2 a_sheets3)))))), (a_sheets0, .inr (1, [.int v_sheets0_bits, .int v_sheets0_size, .ref a_sheets0_numbers])), (a_sheets0_numbers, .inl (cJ, 40, .inr (.inl v_sheets0_numbers))), (a_sheets1, .inr (1, [.int v_sheets1_bits, .int v_sheets1_size, .ref a_sheets1_numbers])), (a_sheets1_numbers, .inl (cJ, 40, .inr (.inl v_sheets1_numbers))), (a_sheets2, .inr (1, [.int v_sheets2_bits, .int v_sheets2_size, .ref a_sheets2_numbers])), (a_sheets2_numbers, .inl (cJ, 40, .inr (.inl v_sheets2_numbers))), (a_sheets3, .inr (1, [.int v_sheets3_bits, .int v_sheets3_size, .ref a_sheets3_numbers])), (a_sheets3_numbers, .inl (cJ, 40, .inr (.inl v_sheets3_numbers))), (a_findings, .inl (cI, 7, .inl v_findings))]
abbrev rX4_lays : Room := { frames := 2, cells := 0, slots := 0, locals := 41 }
def fX4_lays_77 (v_party_size : Int32) (v_sheets0_bits : Int32) (v_sheets0_size : Int32) (v_sheets0_numbers : Nat → Int64) (v_sheets1_bits : Int32) (v_sheets1_size : Int32) (v_sheets1_numbers : Nat → Int64) (v_sheets2_bits : Int32) (v_sheets2_size : Int32) (v_sheets2_numbers : Nat → Int64) (v_sheets3_bits : Int32) (v_sheets3_size : Int32) (v_sheets3_numbers : Nat → Int64) (v_party_list : Int32) (v_findings : Nat → Int32) (y3 : Int32) : Option (Int32 × Int32 × (Nat → Int32)) :=
  some (y3, (y3, v_findings))
set_option maxRecDepth 100000 in
set_option maxHeartbeats 4000000 in
theorem LX4_lays_77 {p : Program} {l : Launch} {e : Env} {s : State} {m : MethodId} {args : Array Value} {below : List Frame} {meth : Method} {c : Code} {D : va_G} {cI cJ cZ cS : ClassId} {tb : Nat} {A : Nat → Prop} {a_t a_party a_party_kinds a_party_costs a_party_terms a_party_known a_kept a_tape a_telephone a_sheets a_sheets0 a_sheets0_numbers a_sheets1 a_sheets1_numbers a_sheets2 a_sheets2_numbers a_sheets3 a_sheets3_numbers a_findings : Nat} {v_isKept : Int32} {v_party_size : Int32} {v_party_told : Int32} {v_sheets0_bits : Int32} {v_sheets0_size : Int32} {v_sheets0_numbers : Nat → Int64} {v_sheets1_bits : Int32} {v_sheets1_size : Int32} {v_sheets1_numbers : Nat → Int64} {v_sheets2_bits : Int32} {v_sheets2_size : Int32} {v_sheets2_numbers : Nat → Int64} {v_sheets3_bits : Int32} {v_sheets3_size : Int32} {v_sheets3_numbers : Nat → Int64} {rr : Int32} {kk' : Int32 × (Nat → Int32)} (fx : q_Fx p s m args meth c cX4_lays 5 RX4 (some .int) D cI cJ cZ cS tb A) : ∀ {v_party_list : Int32} {v_findings : Nat → Int32} {y3 : Int32} {H : Heap} {locs : List Loc} {ls : Array Slot}, q_H D A s (wX4_lays cI cJ cZ cS a_t a_party a_party_kinds a_party_costs a_party_terms a_party_known a_kept a_tape a_telephone a_sheets a_sheets0 a_sheets0_numbers a_sheets1 a_sheets1_numbers a_sheets2 a_sheets2_numbers a_sheets3 a_sheets3_numbers a_findings v_isKept v_party_size v_party_list v_party_told v_sheets0_bits v_sheets0_size v_sheets0_numbers v_sheets1_bits v_sheets1_size v_sheets1_numbers v_sheets2_bits v_sheets2_size v_sheets2_numbers v_sheets3_bits v_sheets3_size v_sheets3_numbers v_findings) H locs → lv_has ls 5 [(0, .ref a_t), (3, .int y3)] → fX4_lays_77 v_party_size v_sheets0_bits v_sheets0_size v_sheets0_numbers v_sheets1_bits v_sheets1_size v_sheets1_numbers v_sheets2_bits v_sheets2_size v_sheets2_numbers v_sheets3_bits v_sheets3_size v_sheets3_numbers v_party_list v_findings y3 = some (rr, kk') → W p l e rX4_lays s m args below meth c H locs 0 0 (MQ below (q_Ri D rr A ((fun k : Int32 × (Nat → Int32) => (wX4_lays cI cJ cZ cS a_t a_party a_party_kinds a_party_costs a_party_terms a_party_known a_kept a_tape a_telephone a_sheets a_sheets0 a_sheets0_numbers a_sheets1 a_sheets1_numbers a_sheets2 a_sheets2_numbers a_sheets3 a_sheets3_numbers a_findings v_isKept v_party_size k.1 v_party_told v_sheets0_bits v_sheets0_size v_sheets0_numbers v_sheets1_bits v_sheets1_size v_sheets1_numbers v_sheets2_bits v_sheets2_size v_sheets2_numbers v_sheets3_bits v_sheets3_size v_sheets3_numbers k.2)) kk')) args s 0 0 A) (F0 m 77 ls []) := by
  intro v_party_list v_findings y3 H locs ls h hl hf
  have hx := fx.1
  have hb := fx.2.1
  unfold fX4_lays_77 at hf
  refine lv_aload_n hx hb dX4_lays_77 rfl (lv_at hl 0 rfl) ?_
  refine q_get (v := .ref a_party) fx inX4 h 0 rfl rfl 0 (by decide) k_174 rfl dX4_lays_78 ?_
  refine lv_iload_n hx hb dX4_lays_81 rfl (lv_at hl 1 rfl) ?_
  refine q_putN (v := .int y3) (ws' := (wX4_lays cI cJ cZ cS a_t a_party a_party_kinds a_party_costs a_party_terms a_party_known a_kept a_tape a_telephone a_sheets a_sheets0 a_sheets0_numbers a_sheets1 a_sheets1_numbers a_sheets2 a_sheets2_numbers a_sheets3 a_sheets3_numbers a_findings v_isKept v_party_size y3 v_party_told v_sheets0_bits v_sheets0_size v_sheets0_numbers v_sheets1_bits v_sheets1_size v_sheets1_numbers v_sheets2_bits v_sheets2_size v_sheets2_numbers v_sheets3_bits v_sheets3_size v_sheets3_numbers v_findings)) fx inX0 tyX0 tyX0_ok nmX0 h 1 rfl rfl 1 (by decide) nf_3 rfl rfl rfl (Nat.le_of_ble_eq_true rfl) rfl dX4_lays_82 (fun H locs h => ?_)
  refine lv_iload_n hx hb dX4_lays_85 rfl (lv_at hl 1 rfl) ?_
  exact q_reti (fun k : Int32 × (Nat → Int32) => (wX4_lays cI cJ cZ cS a_t a_party a_party_kinds a_party_costs a_party_terms a_party_known a_kept a_tape a_telephone a_sheets a_sheets0 a_sheets0_numbers a_sheets1 a_sheets1_numbers a_sheets2 a_sheets2_numbers a_sheets3 a_sheets3_numbers a_findings v_isKept v_party_size k.1 v_party_told v_sheets0_bits v_sheets0_size v_sheets0_numbers v_sheets1_bits v_sheets1_size v_sheets1_numbers v_sheets2_bits v_sheets2_size v_sheets2_numbers v_sheets3_bits v_sheets3_size v_sheets3_numbers k.2)) fx hf h dX4_lays_86
def fX4_lays_71 (v_party_size : Int32) (v_sheets0_bits : Int32) (v_sheets0_size : Int32) (v_sheets0_numbers : Nat → Int64) (v_sheets1_bits : Int32) (v_sheets1_size : Int32) (v_sheets1_numbers : Nat → Int64) (v_sheets2_bits : Int32) (v_sheets2_size : Int32) (v_sheets2_numbers : Nat → Int64) (v_sheets3_bits : Int32) (v_sheets3_size : Int32) (v_sheets3_numbers : Nat → Int64) (ag21 : Int32 → (Nat → Int32) → Int32 → Int32 → Int32 → Option (Int32 × Int32 × (Nat → Int32))) (v_party_list : Int32) (v_findings : Nat → Int32) (y1 : Int32) (y3 : Int32) (y4 : Int32) : Option (Int32 × Int32 × (Nat → Int32)) :=
  nm (y4 + 1) (fun u1 =>
  ag21 v_party_list v_findings y1 y3 u1)
set_option maxRecDepth 100000 in
set_option maxHeartbeats 4000000 in
theorem LX4_lays_71 {p : Program} {l : Launch} {e : Env} {s : State} {m : MethodId} {args : Array Value} {below : List Frame} {meth : Method} {c : Code} {D : va_G} {cI cJ cZ cS : ClassId} {tb : Nat} {A : Nat → Prop} {a_t a_party a_party_kinds a_party_costs a_party_terms a_party_known a_kept a_tape a_telephone a_sheets a_sheets0 a_sheets0_numbers a_sheets1 a_sheets1_numbers a_sheets2 a_sheets2_numbers a_sheets3 a_sheets3_numbers a_findings : Nat} {v_isKept : Int32} {v_party_size : Int32} {v_party_told : Int32} {v_sheets0_bits : Int32} {v_sheets0_size : Int32} {v_sheets0_numbers : Nat → Int64} {v_sheets1_bits : Int32} {v_sheets1_size : Int32} {v_sheets1_numbers : Nat → Int64} {v_sheets2_bits : Int32} {v_sheets2_size : Int32} {v_sheets2_numbers : Nat → Int64} {v_sheets3_bits : Int32} {v_sheets3_size : Int32} {v_sheets3_numbers : Nat → Int64} {rr : Int32} {kk' : Int32 × (Nat → Int32)} (fx : q_Fx p s m args meth c cX4_lays 5 RX4 (some .int) D cI cJ cZ cS tb A) {ag21 : Int32 → (Nat → Int32) → Int32 → Int32 → Int32 → Option (Int32 × Int32 × (Nat → Int32))} (hag21 : ∀ {v_party_list : Int32} {v_findings : Nat → Int32} {y1 : Int32} {y3 : Int32} {y4 : Int32} {H : Heap} {locs : List Loc} {ls : Array Slot}, q_H D A s (wX4_lays cI cJ cZ cS a_t a_party a_party_kinds a_party_costs a_party_terms a_party_known a_kept a_tape a_telephone a_sheets a_sheets0 a_sheets0_numbers a_sheets1 a_sheets1_numbers a_sheets2 a_sheets2_numbers a_sheets3 a_sheets3_numbers a_findings v_isKept v_party_size v_party_list v_party_told v_sheets0_bits v_sheets0_size v_sheets0_numbers v_sheets1_bits v_sheets1_size v_sheets1_numbers v_sheets2_bits v_sheets2_size v_sheets2_numbers v_sheets3_bits v_sheets3_size v_sheets3_numbers v_findings) H locs → lv_has ls 5 [(0, .ref a_t), (1, .int y1), (3, .int y3), (4, .int y4)] → ag21 v_party_list v_findings y1 y3 y4 = some (rr, kk') → W p l e rX4_lays s m args below meth c H locs 0 0 (MQ below (q_Ri D rr A ((fun k : Int32 × (Nat → Int32) => (wX4_lays cI cJ cZ cS a_t a_party a_party_kinds a_party_costs a_party_terms a_party_known a_kept a_tape a_telephone a_sheets a_sheets0 a_sheets0_numbers a_sheets1 a_sheets1_numbers a_sheets2 a_sheets2_numbers a_sheets3 a_sheets3_numbers a_findings v_isKept v_party_size k.1 v_party_told v_sheets0_bits v_sheets0_size v_sheets0_numbers v_sheets1_bits v_sheets1_size v_sheets1_numbers v_sheets2_bits v_sheets2_size v_sheets2_numbers v_sheets3_bits v_sheets3_size v_sheets3_numbers k.2)) kk')) args s 0 0 A) (F0 m 21 ls [])) : ∀ {v_party_list : Int32} {v_findings : Nat → Int32} {y1 : Int32} {y3 : Int32} {y4 : Int32} {H : Heap} {locs : List Loc} {ls : Array Slot}, q_H D A s (wX4_lays cI cJ cZ cS a_t a_party a_party_kinds a_party_costs a_party_terms a_party_known a_kept a_tape a_telephone a_sheets a_sheets0 a_sheets0_numbers a_sheets1 a_sheets1_numbers a_sheets2 a_sheets2_numbers a_sheets3 a_sheets3_numbers a_findings v_isKept v_party_size v_party_list v_party_told v_sheets0_bits v_sheets0_size v_sheets0_numbers v_sheets1_bits v_sheets1_size v_sheets1_numbers v_sheets2_bits v_sheets2_size v_sheets2_numbers v_sheets3_bits v_sheets3_size v_sheets3_numbers v_findings) H locs → lv_has ls 5 [(0, .ref a_t), (1, .int y1), (3, .int y3), (4, .int y4)] → fX4_lays_71 v_party_size v_sheets0_bits v_sheets0_size v_sheets0_numbers v_sheets1_bits v_sheets1_size v_sheets1_numbers v_sheets2_bits v_sheets2_size v_sheets2_numbers v_sheets3_bits v_sheets3_size v_sheets3_numbers ag21 v_party_list v_findings y1 y3 y4 = some (rr, kk') → W p l e rX4_lays s m args below meth c H locs 0 0 (MQ below (q_Ri D rr A ((fun k : Int32 × (Nat → Int32) => (wX4_lays cI cJ cZ cS a_t a_party a_party_kinds a_party_costs a_party_terms a_party_known a_kept a_tape a_telephone a_sheets a_sheets0 a_sheets0_numbers a_sheets1 a_sheets1_numbers a_sheets2 a_sheets2_numbers a_sheets3 a_sheets3_numbers a_findings v_isKept v_party_size k.1 v_party_told v_sheets0_bits v_sheets0_size v_sheets0_numbers v_sheets1_bits v_sheets1_size v_sheets1_numbers v_sheets2_bits v_sheets2_size v_sheets2_numbers v_sheets3_bits v_sheets3_size v_sheets3_numbers k.2)) kk')) args s 0 0 A) (F0 m 71 ls []) := by
  intro v_party_list v_findings y1 y3 y4 H locs ls h hl hf
  have hx := fx.1
  have hb := fx.2.1
  unfold fX4_lays_71 at hf
  obtain ⟨u1, eu1, hf⟩ := nm_inv hf
  refine lv_iinc (v := u1) (lv' := [(4, .int u1), (0, .ref a_t), (1, .int y1), (3, .int y3)]) hx hb dX4_lays_71 hl (k := 3) rfl (by rw [eu1]; rfl) (by decide) rfl (fun ls hl => ?_)
  refine lv_goto (tgt := 21) hx hb dX4_lays_74 (by decide) ?_
  exact hag21 h (lv_sub hl [1, 2, 3, 0] rfl) hf
def fX4_lays_21 (v_party_size : Int32) (v_sheets0_bits : Int32) (v_sheets0_size : Int32) (v_sheets0_numbers : Nat → Int64) (v_sheets1_bits : Int32) (v_sheets1_size : Int32) (v_sheets1_numbers : Nat → Int64) (v_sheets2_bits : Int32) (v_sheets2_size : Int32) (v_sheets2_numbers : Nat → Int64) (v_sheets3_bits : Int32) (v_sheets3_size : Int32) (v_sheets3_numbers : Nat → Int64) (ag21 : Int32 → (Nat → Int32) → Int32 → Int32 → Int32 → Option (Int32 × Int32 × (Nat → Int32))) (v_party_list : Int32) (v_findings : Nat → Int32) (y1 : Int32) (y3 : Int32) (y4 : Int32) : Option (Int32 × Int32 × (Nat → Int32)) :=
  (if v_party_size ≤ y4 then (
  fX4_lays_77 v_party_size v_sheets0_bits v_sheets0_size v_sheets0_numbers v_sheets1_bits v_sheets1_size v_sheets1_numbers v_sheets2_bits v_sheets2_size v_sheets2_numbers v_sheets3_bits v_sheets3_size v_sheets3_numbers v_party_list v_findings y3)
  else (
  sel4 y1 (
  (if v_sheets0_size ≤ y4 then (
  fX4_lays_77 v_party_size v_sheets0_bits v_sheets0_size v_sheets0_numbers v_sheets1_bits v_sheets1_size v_sheets1_numbers v_sheets2_bits v_sheets2_size v_sheets2_numbers v_sheets3_bits v_sheets3_size v_sheets3_numbers v_party_list v_findings y3)
  else (
  gIn y4 40 (
  (if (lg_cmp (v_sheets0_numbers y4.toNatClampNeg) 0) = 0 then (
  fX4_lays_71 v_party_size v_sheets0_bits v_sheets0_size v_sheets0_numbers v_sheets1_bits v_sheets1_size v_sheets1_numbers v_sheets2_bits v_sheets2_size v_sheets2_numbers v_sheets3_bits v_sheets3_size v_sheets3_numbers ag21 v_party_list v_findings y1 y3 y4)
  else (
  nm (y3 ||| (jshl 1 y4)) (fun u7 =>
  fX4_lays_71 v_party_size v_sheets0_bits v_sheets0_size v_sheets0_numbers v_sheets1_bits v_sheets1_size v_sheets1_numbers v_sheets2_bits v_sheets2_size v_sheets2_numbers v_sheets3_bits v_sheets3_size v_sheets3_numbers ag21 v_party_list v_findings y1 u7 y4)))))))
  ((if v_sheets1_size ≤ y4 then (
  fX4_lays_77 v_party_size v_sheets0_bits v_sheets0_size v_sheets0_numbers v_sheets1_bits v_sheets1_size v_sheets1_numbers v_sheets2_bits v_sheets2_size v_sheets2_numbers v_sheets3_bits v_sheets3_size v_sheets3_numbers v_party_list v_findings y3)
  else (
  gIn y4 40 (
  (if (lg_cmp (v_sheets1_numbers y4.toNatClampNeg) 0) = 0 then (
  fX4_lays_71 v_party_size v_sheets0_bits v_sheets0_size v_sheets0_numbers v_sheets1_bits v_sheets1_size v_sheets1_numbers v_sheets2_bits v_sheets2_size v_sheets2_numbers v_sheets3_bits v_sheets3_size v_sheets3_numbers ag21 v_party_list v_findings y1 y3 y4)
  else (
  nm (y3 ||| (jshl 1 y4)) (fun u11 =>
  fX4_lays_71 v_party_size v_sheets0_bits v_sheets0_size v_sheets0_numbers v_sheets1_bits v_sheets1_size v_sheets1_numbers v_sheets2_bits v_sheets2_size v_sheets2_numbers v_sheets3_bits v_sheets3_size v_sheets3_numbers ag21 v_party_list v_findings y1 u11 y4)))))))
  ((if v_sheets2_size ≤ y4 then (
  fX4_lays_77 v_party_size v_sheets0_bits v_sheets0_size v_sheets0_numbers v_sheets1_bits v_sheets1_size v_sheets1_numbers v_sheets2_bits v_sheets2_size v_sheets2_numbers v_sheets3_bits v_sheets3_size v_sheets3_numbers v_party_list v_findings y3)
  else (
  gIn y4 40 (
  (if (lg_cmp (v_sheets2_numbers y4.toNatClampNeg) 0) = 0 then (
  fX4_lays_71 v_party_size v_sheets0_bits v_sheets0_size v_sheets0_numbers v_sheets1_bits v_sheets1_size v_sheets1_numbers v_sheets2_bits v_sheets2_size v_sheets2_numbers v_sheets3_bits v_sheets3_size v_sheets3_numbers ag21 v_party_list v_findings y1 y3 y4)
  else (
  nm (y3 ||| (jshl 1 y4)) (fun u15 =>
  fX4_lays_71 v_party_size v_sheets0_bits v_sheets0_size v_sheets0_numbers v_sheets1_bits v_sheets1_size v_sheets1_numbers v_sheets2_bits v_sheets2_size v_sheets2_numbers v_sheets3_bits v_sheets3_size v_sheets3_numbers ag21 v_party_list v_findings y1 u15 y4)))))))
  ((if v_sheets3_size ≤ y4 then (
  fX4_lays_77 v_party_size v_sheets0_bits v_sheets0_size v_sheets0_numbers v_sheets1_bits v_sheets1_size v_sheets1_numbers v_sheets2_bits v_sheets2_size v_sheets2_numbers v_sheets3_bits v_sheets3_size v_sheets3_numbers v_party_list v_findings y3)
  else (
  gIn y4 40 (
  (if (lg_cmp (v_sheets3_numbers y4.toNatClampNeg) 0) = 0 then (
  fX4_lays_71 v_party_size v_sheets0_bits v_sheets0_size v_sheets0_numbers v_sheets1_bits v_sheets1_size v_sheets1_numbers v_sheets2_bits v_sheets2_size v_sheets2_numbers v_sheets3_bits v_sheets3_size v_sheets3_numbers ag21 v_party_list v_findings y1 y3 y4)
  else (
  nm (y3 ||| (jshl 1 y4)) (fun u19 =>
  fX4_lays_71 v_party_size v_sheets0_bits v_sheets0_size v_sheets0_numbers v_sheets1_bits v_sheets1_size v_sheets1_numbers v_sheets2_bits v_sheets2_size v_sheets2_numbers v_sheets3_bits v_sheets3_size v_sheets3_numbers ag21 v_party_list v_findings y1 u19 y4)))))))))
set_option maxRecDepth 100000 in
set_option maxHeartbeats 4000000 in
theorem LX4_lays_21 {p : Program} {l : Launch} {e : Env} {s : State} {m : MethodId} {args : Array Value} {below : List Frame} {meth : Method} {c : Code} {D : va_G} {cI cJ cZ cS : ClassId} {tb : Nat} {A : Nat → Prop} {a_t a_party a_party_kinds a_party_costs a_party_terms a_party_known a_kept a_tape a_telephone a_sheets a_sheets0 a_sheets0_numbers a_sheets1 a_sheets1_numbers a_sheets2 a_sheets2_numbers a_sheets3 a_sheets3_numbers a_findings : Nat} {v_isKept : Int32} {v_party_size : Int32} {v_party_told : Int32} {v_sheets0_bits : Int32} {v_sheets0_size : Int32} {v_sheets0_numbers : Nat → Int64} {v_sheets1_bits : Int32} {v_sheets1_size : Int32} {v_sheets1_numbers : Nat → Int64} {v_sheets2_bits : Int32} {v_sheets2_size : Int32} {v_sheets2_numbers : Nat → Int64} {v_sheets3_bits : Int32} {v_sheets3_size : Int32} {v_sheets3_numbers : Nat → Int64} {rr : Int32} {kk' : Int32 × (Nat → Int32)} (fx : q_Fx p s m args meth c cX4_lays 5 RX4 (some .int) D cI cJ cZ cS tb A) {ag21 : Int32 → (Nat → Int32) → Int32 → Int32 → Int32 → Option (Int32 × Int32 × (Nat → Int32))} (hag21 : ∀ {v_party_list : Int32} {v_findings : Nat → Int32} {y1 : Int32} {y3 : Int32} {y4 : Int32} {H : Heap} {locs : List Loc} {ls : Array Slot}, q_H D A s (wX4_lays cI cJ cZ cS a_t a_party a_party_kinds a_party_costs a_party_terms a_party_known a_kept a_tape a_telephone a_sheets a_sheets0 a_sheets0_numbers a_sheets1 a_sheets1_numbers a_sheets2 a_sheets2_numbers a_sheets3 a_sheets3_numbers a_findings v_isKept v_party_size v_party_list v_party_told v_sheets0_bits v_sheets0_size v_sheets0_numbers v_sheets1_bits v_sheets1_size v_sheets1_numbers v_sheets2_bits v_sheets2_size v_sheets2_numbers v_sheets3_bits v_sheets3_size v_sheets3_numbers v_findings) H locs → lv_has ls 5 [(0, .ref a_t), (1, .int y1), (3, .int y3), (4, .int y4)] → ag21 v_party_list v_findings y1 y3 y4 = some (rr, kk') → W p l e rX4_lays s m args below meth c H locs 0 0 (MQ below (q_Ri D rr A ((fun k : Int32 × (Nat → Int32) => (wX4_lays cI cJ cZ cS a_t a_party a_party_kinds a_party_costs a_party_terms a_party_known a_kept a_tape a_telephone a_sheets a_sheets0 a_sheets0_numbers a_sheets1 a_sheets1_numbers a_sheets2 a_sheets2_numbers a_sheets3 a_sheets3_numbers a_findings v_isKept v_party_size k.1 v_party_told v_sheets0_bits v_sheets0_size v_sheets0_numbers v_sheets1_bits v_sheets1_size v_sheets1_numbers v_sheets2_bits v_sheets2_size v_sheets2_numbers v_sheets3_bits v_sheets3_size v_sheets3_numbers k.2)) kk')) args s 0 0 A) (F0 m 21 ls [])) : ∀ {v_party_list : Int32} {v_findings : Nat → Int32} {y1 : Int32} {y3 : Int32} {y4 : Int32} {H : Heap} {locs : List Loc} {ls : Array Slot}, q_H D A s (wX4_lays cI cJ cZ cS a_t a_party a_party_kinds a_party_costs a_party_terms a_party_known a_kept a_tape a_telephone a_sheets a_sheets0 a_sheets0_numbers a_sheets1 a_sheets1_numbers a_sheets2 a_sheets2_numbers a_sheets3 a_sheets3_numbers a_findings v_isKept v_party_size v_party_list v_party_told v_sheets0_bits v_sheets0_size v_sheets0_numbers v_sheets1_bits v_sheets1_size v_sheets1_numbers v_sheets2_bits v_sheets2_size v_sheets2_numbers v_sheets3_bits v_sheets3_size v_sheets3_numbers v_findings) H locs → lv_has ls 5 [(0, .ref a_t), (1, .int y1), (3, .int y3), (4, .int y4)] → fX4_lays_21 v_party_size v_sheets0_bits v_sheets0_size v_sheets0_numbers v_sheets1_bits v_sheets1_size v_sheets1_numbers v_sheets2_bits v_sheets2_size v_sheets2_numbers v_sheets3_bits v_sheets3_size v_sheets3_numbers ag21 v_party_list v_findings y1 y3 y4 = some (rr, kk') → W p l e rX4_lays s m args below meth c H locs 0 0 (MQ below (q_Ri D rr A ((fun k : Int32 × (Nat → Int32) => (wX4_lays cI cJ cZ cS a_t a_party a_party_kinds a_party_costs a_party_terms a_party_known a_kept a_tape a_telephone a_sheets a_sheets0 a_sheets0_numbers a_sheets1 a_sheets1_numbers a_sheets2 a_sheets2_numbers a_sheets3 a_sheets3_numbers a_findings v_isKept v_party_size k.1 v_party_told v_sheets0_bits v_sheets0_size v_sheets0_numbers v_sheets1_bits v_sheets1_size v_sheets1_numbers v_sheets2_bits v_sheets2_size v_sheets2_numbers v_sheets3_bits v_sheets3_size v_sheets3_numbers k.2)) kk')) args s 0 0 A) (F0 m 21 ls []) := by
  intro v_party_list v_findings y1 y3 y4 H locs ls h hl hf
  have hx := fx.1
  have hb := fx.2.1
  unfold fX4_lays_21 at hf
  refine lv_iload hx hb dX4_lays_21 (lv_at hl 3 rfl) ?_
  refine lv_aload_n hx hb dX4_lays_23 rfl (lv_at hl 0 rfl) ?_
  refine q_get (v := .ref a_party) fx inX4 h 0 rfl rfl 0 (by decide) k_174 rfl dX4_lays_24 ?_
  refine q_getN (v := .int v_party_size) fx inX0 h 1 rfl rfl 0 (by decide) nf_0 rfl dX4_lays_27 ?_
  refine lv_icmp_ge (tgt := 77) hx hb dX4_lays_30 (by decide) (fun c2 => ?_) (fun c2 => ?_)
  · have hf := it_t c2 hf
    exact LX4_lays_77 fx h (lv_sub hl [0, 2] rfl) hf
  have hf := it_f c2 hf
  refine lv_iload hx hb dX4_lays_33 (lv_at hl 3 rfl) ?_
  refine lv_aload_n hx hb dX4_lays_35 rfl (lv_at hl 0 rfl) ?_
  refine q_get (v := .ref a_sheets) fx inX4 h 0 rfl rfl 5 (by decide) k_179 rfl dX4_lays_36 ?_
  refine lv_iload_n hx hb dX4_lays_39 rfl (lv_at hl 1 rfl) ?_
  rcases sel4_inv hf with ⟨c3, hf⟩ | ⟨c3, hf⟩ | ⟨c3, hf⟩ | ⟨c3, hf⟩
  · refine q_aald (v := a_sheets0) fx h 2 rfl c3 (vinK (by decide)) rfl dX4_lays_40 ?_
    refine q_getN (v := .int v_sheets0_size) fx inX1 h 3 rfl rfl 1 (by decide) nf_10 rfl dX4_lays_41 ?_
    refine lv_icmp_ge (tgt := 77) hx hb dX4_lays_44 (by decide) (fun c4 => ?_) (fun c4 => ?_)
    · have hf := it_t c4 hf
      exact LX4_lays_77 fx h (lv_sub hl [0, 2] rfl) hf
    have hf := it_f c4 hf
    refine lv_aload_n hx hb dX4_lays_47 rfl (lv_at hl 0 rfl) ?_
    refine q_get (v := .ref a_sheets) fx inX4 h 0 rfl rfl 5 (by decide) k_179 rfl dX4_lays_48 ?_
    refine lv_iload_n hx hb dX4_lays_51 rfl (lv_at hl 1 rfl) ?_
    refine q_aald (v := a_sheets0) fx h 2 rfl c3 (vinK (by decide)) rfl dX4_lays_52 ?_
    refine q_getN (v := .ref a_sheets0_numbers) fx inX1 h 3 rfl rfl 2 (by decide) nf_11 rfl dX4_lays_53 ?_
    refine lv_iload hx hb dX4_lays_56 (lv_at hl 3 rfl) ?_
    obtain ⟨i5, hf⟩ := gIn_inv hf
    refine q_lald fx h 4 rfl i5 dX4_lays_58 ?_
    refine lv_lconst (v := 0) hx hb dX4_lays_59 (by decide) ?_
    refine W.lcmp hx hb dX4_lays_60 ?_
    refine lv_if_eq (tgt := 71) hx hb dX4_lays_61 (by decide) (fun c6 => ?_) (fun c6 => ?_)
    · have hf := it_t c6 hf
      exact LX4_lays_71 fx hag21 h (lv_sub hl [0, 1, 2, 3] rfl) hf
    have hf := it_f c6 hf
    refine lv_iload_n hx hb dX4_lays_64 rfl (lv_at hl 2 rfl) ?_
    refine lv_iconst (v := 1) hx hb dX4_lays_65 (by decide) ?_
    refine lv_iload hx hb dX4_lays_66 (lv_at hl 3 rfl) ?_
    refine lv_ishl hx hb dX4_lays_68 ?_
    refine lv_ior hx hb dX4_lays_69 ?_
    obtain ⟨u7, eu7, hf⟩ := nm_inv hf
    refine lv_eqi eu7 ?_
    refine lv_istore_n (lv' := [(3, .int u7), (0, .ref a_t), (1, .int y1), (4, .int y4)]) hx hb dX4_lays_70 rfl hl (by decide) rfl (fun ls hl => ?_)
    exact LX4_lays_71 fx hag21 h (lv_sub hl [1, 2, 0, 3] rfl) hf
  · refine q_aald (v := a_sheets1) fx h 2 rfl c3 (vinK (by decide)) rfl dX4_lays_40 ?_
    refine q_getN (v := .int v_sheets1_size) fx inX1 h 5 rfl rfl 1 (by decide) nf_10 rfl dX4_lays_41 ?_
    refine lv_icmp_ge (tgt := 77) hx hb dX4_lays_44 (by decide) (fun c8 => ?_) (fun c8 => ?_)
    · have hf := it_t c8 hf
      exact LX4_lays_77 fx h (lv_sub hl [0, 2] rfl) hf
    have hf := it_f c8 hf
    refine lv_aload_n hx hb dX4_lays_47 rfl (lv_at hl 0 rfl) ?_
    refine q_get (v := .ref a_sheets) fx inX4 h 0 rfl rfl 5 (by decide) k_179 rfl dX4_lays_48 ?_
    refine lv_iload_n hx hb dX4_lays_51 rfl (lv_at hl 1 rfl) ?_
    refine q_aald (v := a_sheets1) fx h 2 rfl c3 (vinK (by decide)) rfl dX4_lays_52 ?_
    refine q_getN (v := .ref a_sheets1_numbers) fx inX1 h 5 rfl rfl 2 (by decide) nf_11 rfl dX4_lays_53 ?_
    refine lv_iload hx hb dX4_lays_56 (lv_at hl 3 rfl) ?_
    obtain ⟨i9, hf⟩ := gIn_inv hf
    refine q_lald fx h 6 rfl i9 dX4_lays_58 ?_
    refine lv_lconst (v := 0) hx hb dX4_lays_59 (by decide) ?_
    refine W.lcmp hx hb dX4_lays_60 ?_
    refine lv_if_eq (tgt := 71) hx hb dX4_lays_61 (by decide) (fun c10 => ?_) (fun c10 => ?_)
    · have hf := it_t c10 hf
      exact LX4_lays_71 fx hag21 h (lv_sub hl [0, 1, 2, 3] rfl) hf
    have hf := it_f c10 hf
    refine lv_iload_n hx hb dX4_lays_64 rfl (lv_at hl 2 rfl) ?_
    refine lv_iconst (v := 1) hx hb dX4_lays_65 (by decide) ?_
    refine lv_iload hx hb dX4_lays_66 (lv_at hl 3 rfl) ?_
    refine lv_ishl hx hb dX4_lays_68 ?_
    refine lv_ior hx hb dX4_lays_69 ?_
    obtain ⟨u11, eu11, hf⟩ := nm_inv hf
    refine lv_eqi eu11 ?_
    refine lv_istore_n (lv' := [(3, .int u11), (0, .ref a_t), (1, .int y1), (4, .int y4)]) hx hb dX4_lays_70 rfl hl (by decide) rfl (fun ls hl => ?_)
    exact LX4_lays_71 fx hag21 h (lv_sub hl [1, 2, 0, 3] rfl) hf
  · refine q_aald (v := a_sheets2) fx h 2 rfl c3 (vinK (by decide)) rfl dX4_lays_40 ?_
    refine q_getN (v := .int v_sheets2_size) fx inX1 h 7 rfl rfl 1 (by decide) nf_10 rfl dX4_lays_41 ?_
    refine lv_icmp_ge (tgt := 77) hx hb dX4_lays_44 (by decide) (fun c12 => ?_) (fun c12 => ?_)
    · have hf := it_t c12 hf
      exact LX4_lays_77 fx h (lv_sub hl [0, 2] rfl) hf
    have hf := it_f c12 hf
    refine lv_aload_n hx hb dX4_lays_47 rfl (lv_at hl 0 rfl) ?_
    refine q_get (v := .ref a_sheets) fx inX4 h 0 rfl rfl 5 (by decide) k_179 rfl dX4_lays_48 ?_
    refine lv_iload_n hx hb dX4_lays_51 rfl (lv_at hl 1 rfl) ?_
    refine q_aald (v := a_sheets2) fx h 2 rfl c3 (vinK (by decide)) rfl dX4_lays_52 ?_
    refine q_getN (v := .ref a_sheets2_numbers) fx inX1 h 7 rfl rfl 2 (by decide) nf_11 rfl dX4_lays_53 ?_
    refine lv_iload hx hb dX4_lays_56 (lv_at hl 3 rfl) ?_
    obtain ⟨i13, hf⟩ := gIn_inv hf
    refine q_lald fx h 8 rfl i13 dX4_lays_58 ?_
    refine lv_lconst (v := 0) hx hb dX4_lays_59 (by decide) ?_
    refine W.lcmp hx hb dX4_lays_60 ?_
    refine lv_if_eq (tgt := 71) hx hb dX4_lays_61 (by decide) (fun c14 => ?_) (fun c14 => ?_)
    · have hf := it_t c14 hf
      exact LX4_lays_71 fx hag21 h (lv_sub hl [0, 1, 2, 3] rfl) hf
    have hf := it_f c14 hf
    refine lv_iload_n hx hb dX4_lays_64 rfl (lv_at hl 2 rfl) ?_
    refine lv_iconst (v := 1) hx hb dX4_lays_65 (by decide) ?_
    refine lv_iload hx hb dX4_lays_66 (lv_at hl 3 rfl) ?_
    refine lv_ishl hx hb dX4_lays_68 ?_
    refine lv_ior hx hb dX4_lays_69 ?_
    obtain ⟨u15, eu15, hf⟩ := nm_inv hf
    refine lv_eqi eu15 ?_
    refine lv_istore_n (lv' := [(3, .int u15), (0, .ref a_t), (1, .int y1), (4, .int y4)]) hx hb dX4_lays_70 rfl hl (by decide) rfl (fun ls hl => ?_)
    exact LX4_lays_71 fx hag21 h (lv_sub hl [1, 2, 0, 3] rfl) hf
  · refine q_aald (v := a_sheets3) fx h 2 rfl c3 (vinK (by decide)) rfl dX4_lays_40 ?_
    refine q_getN (v := .int v_sheets3_size) fx inX1 h 9 rfl rfl 1 (by decide) nf_10 rfl dX4_lays_41 ?_
    refine lv_icmp_ge (tgt := 77) hx hb dX4_lays_44 (by decide) (fun c16 => ?_) (fun c16 => ?_)
    · have hf := it_t c16 hf
      exact LX4_lays_77 fx h (lv_sub hl [0, 2] rfl) hf
    have hf := it_f c16 hf
    refine lv_aload_n hx hb dX4_lays_47 rfl (lv_at hl 0 rfl) ?_
    refine q_get (v := .ref a_sheets) fx inX4 h 0 rfl rfl 5 (by decide) k_179 rfl dX4_lays_48 ?_
    refine lv_iload_n hx hb dX4_lays_51 rfl (lv_at hl 1 rfl) ?_
    refine q_aald (v := a_sheets3) fx h 2 rfl c3 (vinK (by decide)) rfl dX4_lays_52 ?_
    refine q_getN (v := .ref a_sheets3_numbers) fx inX1 h 9 rfl rfl 2 (by decide) nf_11 rfl dX4_lays_53 ?_
    refine lv_iload hx hb dX4_lays_56 (lv_at hl 3 rfl) ?_
    obtain ⟨i17, hf⟩ := gIn_inv hf
    refine q_lald fx h 10 rfl i17 dX4_lays_58 ?_
    refine lv_lconst (v := 0) hx hb dX4_lays_59 (by decide) ?_
    refine W.lcmp hx hb dX4_lays_60 ?_
    refine lv_if_eq (tgt := 71) hx hb dX4_lays_61 (by decide) (fun c18 => ?_) (fun c18 => ?_)
    · have hf := it_t c18 hf
      exact LX4_lays_71 fx hag21 h (lv_sub hl [0, 1, 2, 3] rfl) hf
    have hf := it_f c18 hf
    refine lv_iload_n hx hb dX4_lays_64 rfl (lv_at hl 2 rfl) ?_
    refine lv_iconst (v := 1) hx hb dX4_lays_65 (by decide) ?_
    refine lv_iload hx hb dX4_lays_66 (lv_at hl 3 rfl) ?_
    refine lv_ishl hx hb dX4_lays_68 ?_
    refine lv_ior hx hb dX4_lays_69 ?_
    obtain ⟨u19, eu19, hf⟩ := nm_inv hf
    refine lv_eqi eu19 ?_
    refine lv_istore_n (lv' := [(3, .int u19), (0, .ref a_t), (1, .int y1), (4, .int y4)]) hx hb dX4_lays_70 rfl hl (by decide) rfl (fun ls hl => ?_)
    exact LX4_lays_71 fx hag21 h (lv_sub hl [1, 2, 0, 3] rfl) hf
set_option maxRecDepth 100000 in
theorem EX4_lays_21 {p : Program} {l : Launch} {e : Env} {s : State} {m : MethodId} {args : Array Value} {below : List Frame} {meth : Method} {c : Code} {D : va_G} {cI cJ cZ cS : ClassId} {tb : Nat} {A : Nat → Prop} {a_t a_party a_party_kinds a_party_costs a_party_terms a_party_known a_kept a_tape a_telephone a_sheets a_sheets0 a_sheets0_numbers a_sheets1 a_sheets1_numbers a_sheets2 a_sheets2_numbers a_sheets3 a_sheets3_numbers a_findings : Nat} {v_isKept : Int32} {v_party_size : Int32} {v_party_told : Int32} {v_sheets0_bits : Int32} {v_sheets0_size : Int32} {v_sheets0_numbers : Nat → Int64} {v_sheets1_bits : Int32} {v_sheets1_size : Int32} {v_sheets1_numbers : Nat → Int64} {v_sheets2_bits : Int32} {v_sheets2_size : Int32} {v_sheets2_numbers : Nat → Int64} {v_sheets3_bits : Int32} {v_sheets3_size : Int32} {v_sheets3_numbers : Nat → Int64} {rr : Int32} {kk' : Int32 × (Nat → Int32)} (fx : q_Fx p s m args meth c cX4_lays 5 RX4 (some .int) D cI cJ cZ cS tb A) : ∀ (n : Nat), ∀ {v_party_list : Int32} {v_findings : Nat → Int32} {y1 : Int32} {y3 : Int32} {y4 : Int32} {H : Heap} {locs : List Loc} {ls : Array Slot}, q_H D A s (wX4_lays cI cJ cZ cS a_t a_party a_party_kinds a_party_costs a_party_terms a_party_known a_kept a_tape a_telephone a_sheets a_sheets0 a_sheets0_numbers a_sheets1 a_sheets1_numbers a_sheets2 a_sheets2_numbers a_sheets3 a_sheets3_numbers a_findings v_isKept v_party_size v_party_list v_party_told v_sheets0_bits v_sheets0_size v_sheets0_numbers v_sheets1_bits v_sheets1_size v_sheets1_numbers v_sheets2_bits v_sheets2_size v_sheets2_numbers v_sheets3_bits v_sheets3_size v_sheets3_numbers v_findings) H locs → lv_has ls 5 [(0, .ref a_t), (1, .int y1), (3, .int y3), (4, .int y4)] → ll5 (fX4_lays_21 v_party_size v_sheets0_bits v_sheets0_size v_sheets0_numbers v_sheets1_bits v_sheets1_size v_sheets1_numbers v_sheets2_bits v_sheets2_size v_sheets2_numbers v_sheets3_bits v_sheets3_size v_sheets3_numbers) n v_party_list v_findings y1 y3 y4 = some (rr, kk') → W p l e rX4_lays s m args below meth c H locs 0 0 (MQ below (q_Ri D rr A ((fun k : Int32 × (Nat → Int32) => (wX4_lays cI cJ cZ cS a_t a_party a_party_kinds a_party_costs a_party_terms a_party_known a_kept a_tape a_telephone a_sheets a_sheets0 a_sheets0_numbers a_sheets1 a_sheets1_numbers a_sheets2 a_sheets2_numbers a_sheets3 a_sheets3_numbers a_findings v_isKept v_party_size k.1 v_party_told v_sheets0_bits v_sheets0_size v_sheets0_numbers v_sheets1_bits v_sheets1_size v_sheets1_numbers v_sheets2_bits v_sheets2_size v_sheets2_numbers v_sheets3_bits v_sheets3_size v_sheets3_numbers k.2)) kk')) args s 0 0 A) (F0 m 21 ls []) := by
  intro n
  induction n with
  | zero => intro v_party_list v_findings y1 y3 y4 H locs ls h hl hf; exact (ll5_z hf).elim
  | succ n ih => intro v_party_list v_findings y1 y3 y4 H locs ls h hl hf; exact LX4_lays_21 fx ih h hl (ll5_s hf)
def fX4_lays (v_party_size : Int32) (v_party_list : Int32) (v_sheets0_bits : Int32) (v_sheets0_size : Int32) (v_sheets0_numbers : Nat → Int64) (v_sheets1_bits : Int32) (v_sheets1_size : Int32) (v_sheets1_numbers : Nat → Int64) (v_sheets2_bits : Int32) (v_sheets2_size : Int32) (v_sheets2_numbers : Nat → Int64) (v_sheets3_bits : Int32) (v_sheets3_size : Int32) (v_sheets3_numbers : Nat → Int64) (v_findings : Nat → Int32) (x1 : Int32) : Option (Int32 × Int32 × (Nat → Int32)) :=
  bR (fX4_sheetLack v_sheets0_bits v_sheets1_bits v_sheets2_bits v_sheets3_bits x1) (fun r20 k20 =>
  (if r20 = 0 then (
  ll5 (fX4_lays_21 v_party_size v_sheets0_bits v_sheets0_size v_sheets0_numbers v_sheets1_bits v_sheets1_size v_sheets1_numbers v_sheets2_bits v_sheets2_size v_sheets2_numbers v_sheets3_bits v_sheets3_size v_sheets3_numbers) qF v_party_list v_findings x1 0 0)
  else (
  bR (fX4_found v_findings r20) (fun r22 k22 =>
  some (r22, (v_party_list, k22))))))
set_option maxRecDepth 100000 in
set_option maxHeartbeats 4000000 in
theorem tX4_lays (l : Launch) (D : va_G) (cI cJ cZ cS : ClassId) (tb : Nat) (a_t a_party a_party_kinds a_party_costs a_party_terms a_party_known a_kept a_tape a_telephone a_sheets a_sheets0 a_sheets0_numbers a_sheets1 a_sheets1_numbers a_sheets2 a_sheets2_numbers a_sheets3 a_sheets3_numbers a_findings : Nat) (sz : Nat) (v_isKept : Int32) (v_party_size : Int32) (v_party_list : Int32) (v_party_told : Int32) (v_sheets0_bits : Int32) (v_sheets0_size : Int32) (v_sheets0_numbers : Nat → Int64) (v_sheets1_bits : Int32) (v_sheets1_size : Int32) (v_sheets1_numbers : Nat → Int64) (v_sheets2_bits : Int32) (v_sheets2_size : Int32) (v_sheets2_numbers : Nat → Int64) (v_sheets3_bits : Int32) (v_sheets3_size : Int32) (v_sheets3_numbers : Nat → Int64) (v_findings : Nat → Int32) (x1 : Int32) (rr : Int32) (kk' : Int32 × (Nat → Int32)) (hf : fX4_lays v_party_size v_party_list v_sheets0_bits v_sheets0_size v_sheets0_numbers v_sheets1_bits v_sheets1_size v_sheets1_numbers v_sheets2_bits v_sheets2_size v_sheets2_numbers v_sheets3_bits v_sheets3_size v_sheets3_numbers v_findings x1 = some (rr, kk')) : Met l yX4_lays (Cond.code yX4_lays cX4_lays 5 (some .int) :: wA) rX4_lays (q_Pre D cI cJ cZ cS tb [.ref a_t, .int x1] sz (wX4_lays cI cJ cZ cS a_t a_party a_party_kinds a_party_costs a_party_terms a_party_known a_kept a_tape a_telephone a_sheets a_sheets0 a_sheets0_numbers a_sheets1 a_sheets1_numbers a_sheets2 a_sheets2_numbers a_sheets3 a_sheets3_numbers a_findings v_isKept v_party_size v_party_list v_party_told v_sheets0_bits v_sheets0_size v_sheets0_numbers v_sheets1_bits v_sheets1_size v_sheets1_numbers v_sheets2_bits v_sheets2_size v_sheets2_numbers v_sheets3_bits v_sheets3_size v_sheets3_numbers v_findings)) (q_Ri D rr (va_A (wX4_lays cI cJ cZ cS a_t a_party a_party_kinds a_party_costs a_party_terms a_party_known a_kept a_tape a_telephone a_sheets a_sheets0 a_sheets0_numbers a_sheets1 a_sheets1_numbers a_sheets2 a_sheets2_numbers a_sheets3 a_sheets3_numbers a_findings v_isKept v_party_size v_party_list v_party_told v_sheets0_bits v_sheets0_size v_sheets0_numbers v_sheets1_bits v_sheets1_size v_sheets1_numbers v_sheets2_bits v_sheets2_size v_sheets2_numbers v_sheets3_bits v_sheets3_size v_sheets3_numbers v_findings) sz) ((fun k : Int32 × (Nat → Int32) => (wX4_lays cI cJ cZ cS a_t a_party a_party_kinds a_party_costs a_party_terms a_party_known a_kept a_tape a_telephone a_sheets a_sheets0 a_sheets0_numbers a_sheets1 a_sheets1_numbers a_sheets2 a_sheets2_numbers a_sheets3 a_sheets3_numbers a_findings v_isKept v_party_size k.1 v_party_told v_sheets0_bits v_sheets0_size v_sheets0_numbers v_sheets1_bits v_sheets1_size v_sheets1_numbers v_sheets2_bits v_sheets2_size v_sheets2_numbers v_sheets3_bits v_sheets3_size v_sheets3_numbers k.2)) kk')) 0 0 (va_A (wX4_lays cI cJ cZ cS a_t a_party a_party_kinds a_party_costs a_party_terms a_party_known a_kept a_tape a_telephone a_sheets a_sheets0 a_sheets0_numbers a_sheets1 a_sheets1_numbers a_sheets2 a_sheets2_numbers a_sheets3 a_sheets3_numbers a_findings v_isKept v_party_size v_party_list v_party_told v_sheets0_bits v_sheets0_size v_sheets0_numbers v_sheets1_bits v_sheets1_size v_sheets1_numbers v_sheets2_bits v_sheets2_size v_sheets2_numbers v_sheets3_bits v_sheets3_size v_sheets3_numbers v_findings) sz) := by
  refine q_enter (Qf := fun A => (q_Ri D rr A ((fun k : Int32 × (Nat → Int32) => (wX4_lays cI cJ cZ cS a_t a_party a_party_kinds a_party_costs a_party_terms a_party_known a_kept a_tape a_telephone a_sheets a_sheets0 a_sheets0_numbers a_sheets1 a_sheets1_numbers a_sheets2 a_sheets2_numbers a_sheets3 a_sheets3_numbers a_findings v_isKept v_party_size k.1 v_party_told v_sheets0_bits v_sheets0_size v_sheets0_numbers v_sheets1_bits v_sheets1_size v_sheets1_numbers v_sheets2_bits v_sheets2_size v_sheets2_numbers v_sheets3_bits v_sheets3_size v_sheets3_numbers k.2)) kk'))) (by decide) rfl (Nat.le_of_ble_eq_true rfl) ?_
  intro p e s m below meth c A ls fx hname h hl
  have hx := fx.1
  have hb := fx.2.1
  have hl : lv_has ls 5 [(0, .ref a_t), (1, .int x1)] := hl
  generalize h9 : s.heap = H at h ⊢
  clear h9
  generalize h9 : ([] : List Loc) = locs at h ⊢
  clear h9
  unfold fX4_lays at hf
  refine lv_aload_n hx hb dX4_lays_0 rfl (lv_at hl 0 rfl) ?_
  refine lv_iload_n hx hb dX4_lays_1 rfl (lv_at hl 1 rfl) ?_
  obtain ⟨r20, k20, hg, hf⟩ := bR_inv hf
  refine q_ci (rest := []) (ws' := (wX4_lays cI cJ cZ cS a_t a_party a_party_kinds a_party_costs a_party_terms a_party_known a_kept a_tape a_telephone a_sheets a_sheets0 a_sheets0_numbers a_sheets1 a_sheets1_numbers a_sheets2 a_sheets2_numbers a_sheets3 a_sheets3_numbers a_findings v_isKept v_party_size v_party_list v_party_told v_sheets0_bits v_sheets0_size v_sheets0_numbers v_sheets1_bits v_sheets1_size v_sheets1_numbers v_sheets2_bits v_sheets2_size v_sheets2_numbers v_sheets3_bits v_sheets3_size v_sheets3_numbers v_findings)) (w1 := (wX4_sheetLack cI cJ cZ cS a_t a_party a_kept a_tape a_telephone a_sheets a_sheets0 a_sheets0_numbers a_sheets1 a_sheets1_numbers a_sheets2 a_sheets2_numbers a_sheets3 a_sheets3_numbers a_findings v_isKept v_sheets0_bits v_sheets0_size v_sheets1_bits v_sheets1_size v_sheets2_bits v_sheets2_size v_sheets3_bits v_sheets3_size)) fx h [0, 2, 3, 5, 7, 9] rfl rfl rfl rfl (q_runV fx h hl.1 [0, 2, 3, 5, 7, 9] rfl rfl (tX4_sheetLack l D cI cJ cZ cS tb a_t a_party a_kept a_tape a_telephone a_sheets a_sheets0 a_sheets0_numbers a_sheets1 a_sheets1_numbers a_sheets2 a_sheets2_numbers a_sheets3 a_sheets3_numbers a_findings H.size v_isKept v_sheets0_bits v_sheets0_size v_sheets1_bits v_sheets1_size v_sheets2_bits v_sheets2_size v_sheets3_bits v_sheets3_size x1 r20 k20 hg) mvX4_sheetLack k_549 ⟨rfl, rfl⟩ ⟨Nat.le_of_ble_eq_true rfl, Nat.le_of_ble_eq_true rfl⟩ rfl rfl rfl rfl (Nat.le_of_ble_eq_true rfl) dX4_lays_2 ⟨Nat.le_of_ble_eq_true rfl, Nat.le_of_ble_eq_true rfl⟩) (fun H locs h => ?_)
  refine lv_istore_n (lv' := [(2, .int r20), (0, .ref a_t), (1, .int x1)]) hx hb dX4_lays_5 rfl hl (by decide) rfl (fun ls hl => ?_)
  refine lv_iload_n hx hb dX4_lays_6 rfl (lv_at hl 0 rfl) ?_
  refine lv_if_eq (tgt := 16) hx hb dX4_lays_7 (by decide) (fun c21 => ?_) (fun c21 => ?_)
  · have hf := it_t c21 hf
    refine lv_iconst (v := 0) hx hb dX4_lays_16 (by decide) ?_
    refine lv_istore_n (lv' := [(3, .int 0), (2, .int r20), (0, .ref a_t), (1, .int x1)]) hx hb dX4_lays_17 rfl hl (by decide) rfl (fun ls hl => ?_)
    refine lv_iconst (v := 0) hx hb dX4_lays_18 (by decide) ?_
    refine lv_istore (lv' := [(4, .int 0), (3, .int 0), (2, .int r20), (0, .ref a_t), (1, .int x1)]) hx hb dX4_lays_19 hl (by decide) rfl (fun ls hl => ?_)
    exact EX4_lays_21 fx qF h (lv_sub hl [3, 4, 1, 0] rfl) hf
  have hf := it_f c21 hf
  refine lv_aload_n hx hb dX4_lays_10 rfl (lv_at hl 1 rfl) ?_
  refine lv_iload_n hx hb dX4_lays_11 rfl (lv_at hl 0 rfl) ?_
  obtain ⟨r22, k22, hg, hf⟩ := bR_inv hf
  refine q_ci (rest := []) (ws' := (wX4_lays cI cJ cZ cS a_t a_party a_party_kinds a_party_costs a_party_terms a_party_known a_kept a_tape a_telephone a_sheets a_sheets0 a_sheets0_numbers a_sheets1 a_sheets1_numbers a_sheets2 a_sheets2_numbers a_sheets3 a_sheets3_numbers a_findings v_isKept v_party_size v_party_list v_party_told v_sheets0_bits v_sheets0_size v_sheets0_numbers v_sheets1_bits v_sheets1_size v_sheets1_numbers v_sheets2_bits v_sheets2_size v_sheets2_numbers v_sheets3_bits v_sheets3_size v_sheets3_numbers k22)) (w1 := (wX4_found cI cJ cZ cS a_t a_party a_kept a_tape a_telephone a_sheets a_findings v_isKept k22)) fx h [0, 11] rfl rfl rfl rfl (q_runV fx h hl.1 [0, 11] rfl rfl (tX4_found l D cI cJ cZ cS tb a_t a_party a_kept a_tape a_telephone a_sheets a_findings H.size v_isKept v_findings r20 r22 k22 hg) mvX4_found k_207 ⟨rfl, rfl⟩ ⟨Nat.le_of_ble_eq_true rfl, Nat.le_of_ble_eq_true rfl⟩ rfl rfl rfl rfl (Nat.le_of_ble_eq_true rfl) dX4_lays_12 ⟨Nat.le_of_ble_eq_true rfl, Nat.le_of_ble_eq_true rfl⟩) (fun H locs h => ?_)
  exact q_reti (fun k : Int32 × (Nat → Int32) => (wX4_lays cI cJ cZ cS a_t a_party a_party_kinds a_party_costs a_party_terms a_party_known a_kept a_tape a_telephone a_sheets a_sheets0 a_sheets0_numbers a_sheets1 a_sheets1_numbers a_sheets2 a_sheets2_numbers a_sheets3 a_sheets3_numbers a_findings v_isKept v_party_size k.1 v_party_told v_sheets0_bits v_sheets0_size v_sheets0_numbers v_sheets1_bits v_sheets1_size v_sheets1_numbers v_sheets2_bits v_sheets2_size v_sheets2_numbers v_sheets3_bits v_sheets3_size v_sheets3_numbers k.2)) fx hf h dX4_lays_15
/-! X4_book -/
abbrev wX4_book (cI cJ cZ cS : ClassId) (a_t a_party a_party_kinds a_party_costs a_party_terms a_party_known a_kept a_tape a_telephone a_sheets a_sheets0 a_sheets0_numbers a_sheets1 a_sheets1_numbers a_sheets2 a_sheets2_numbers a_sheets3 a_sheets3_numbers a_findings : Nat) (v_isKept : Int32) (v_party_size : Int32) (v_party_list : Int32) (v_party_told : Int32) (v_party_kinds : Nat → Int32) (v_party_terms : Nat → Int64) (v_party_known : Nat → Int32) (v_sheets0_bits : Int32) (v_sheets0_size : Int32) (v_sheets0_numbers : Nat → Int64) (v_sheets1_bits : Int32) (v_sheets1_size : Int32) (v_sheets1_numbers : Nat → Int64) (v_sheets2_bits : Int32) (v_sheets2_size : Int32) (v_sheets2_numbers : Nat → Int64) (v_sheets3_bits : Int32) (v_sheets3_size : Int32) (v_sheets3_numbers : Nat → Int64) (v_findings : Nat → Int32) : va_W := [(a_t, .inr (4, [.ref a_party, .ref a_kept, .int v_isKept, .ref a_tape, .ref a_telephone, .ref a_sheets, .ref a_findings])), (a_party, .inr (0, [.int v_party_size, .int v_party_list, .int v_party_told, .ref a_party_kinds, .ref a_party_costs, .ref a_party_terms, .ref a_party_known])), (a_party_kinds, .inl (cI, 8, .inl v_party_kinds)), (a_party_terms, .inl (cJ, 32, .inr (.inl v_party_terms))), (a_party_known, .inl (cI, 256, .inl v_party_known)), (a_sheets, .inl (cS, 4, .inr (.inr (.inr (.inr (q_sh a_sheets0 a_sheets1 a_sheets2 a_sheets3)))))), (a_sheets0, .inr (1, [.int v_sheets0_bits, .int v_sheets0_size, .ref a_sheets0_numbers])), (a_sheets0_numbers, .inl (cJ, 40, .inr (.inl v_sheets0_numbers))), (a_sheets1, .inr (1, [.int v_sheets1_bits, .int v_sheets1_size, .ref a_sheets1_numbers])), (a_sheets1_numbers, .inl (cJ, 40, .inr (.inl v_sheets1_numbers))), (a_sheets2, .inr (1, [.int v_sheets2_bits, .int v_sheets2_size, .ref a_sheets2_numbers])), (a_sheets2_numbers, .inl (cJ, 40, .inr (.inl v_sheets2_numbers))), (a_sheets3, .inr (1, [.int v_sheets3_bits, .int v_sheets3_size, .ref a_sheets3_numbers])), (a_sheets3_numbers, .inl (cJ, 40, .inr (.inl v_sheets3_numbers))), (a_findings, .inl (cI, 7, .inl v_findings))]
abbrev rX4_book : Room := { frames := 4, cells := 0, slots := 0, locals := 90 }
def fX4_book_27 (v_party_size : Int32) (v_party_list : Int32) (v_party_kinds : Nat → Int32) (v_party_terms : Nat → Int64) (v_sheets0_bits : Int32) (v_sheets0_size : Int32) (v_sheets1_bits : Int32) (v_sheets1_size : Int32) (v_sheets2_bits : Int32) (v_sheets2_size : Int32) (v_sheets3_bits : Int32) (v_sheets3_size : Int32) (ag27 : (Nat → Int32) → (Nat → Int64) → (Nat → Int64) → (Nat → Int64) → (Nat → Int64) → (Nat → Int32) → Int32 → Int32 → Int32 → Option (Int32 × (Nat → Int32) × (Nat → Int64) × (Nat → Int64) × (Nat → Int64) × (Nat → Int64) × (Nat → Int32))) (v_party_known : Nat → Int32) (v_sheets0_numbers : Nat → Int64) (v_sheets1_numbers : Nat → Int64) (v_sheets2_numbers : Nat → Int64) (v_sheets3_numbers : Nat → Int64) (v_findings : Nat → Int32) (y1 : Int32) (y3 : Int32) (y4 : Int32) : Option (Int32 × (Nat → Int32) × (Nat → Int64) × (Nat → Int64) × (Nat → Int64) × (Nat → Int64) × (Nat → Int32)) :=
  sel4 y1 (
  (if v_sheets0_size ≤ y4 then (
  some (v_sheets0_size, (v_party_known, v_sheets0_numbers, v_sheets1_numbers, v_sheets2_numbers, v_sheets3_numbers, v_findings)))
  else (
  bR (fX1_put v_sheets0_bits v_sheets0_numbers y4 (y3.toInt64)) (fun r3 k3 =>
  bR (fX0_comers v_party_size v_party_kinds v_party_terms v_party_known y3) (fun r4 k4 =>
  nm (y4 + 1) (fun u5 =>
  ag27 k4 k3 v_sheets1_numbers v_sheets2_numbers v_sheets3_numbers v_findings y1 r4 u5))))))
  ((if v_sheets1_size ≤ y4 then (
  some (v_sheets1_size, (v_party_known, v_sheets0_numbers, v_sheets1_numbers, v_sheets2_numbers, v_sheets3_numbers, v_findings)))
  else (
  bR (fX1_put v_sheets1_bits v_sheets1_numbers y4 (y3.toInt64)) (fun r7 k7 =>
  bR (fX0_comers v_party_size v_party_kinds v_party_terms v_party_known y3) (fun r8 k8 =>
  nm (y4 + 1) (fun u9 =>
  ag27 k8 v_sheets0_numbers k7 v_sheets2_numbers v_sheets3_numbers v_findings y1 r8 u9))))))
  ((if v_sheets2_size ≤ y4 then (
  some (v_sheets2_size, (v_party_known, v_sheets0_numbers, v_sheets1_numbers, v_sheets2_numbers, v_sheets3_numbers, v_findings)))
  else (
  bR (fX1_put v_sheets2_bits v_sheets2_numbers y4 (y3.toInt64)) (fun r11 k11 =>
  bR (fX0_comers v_party_size v_party_kinds v_party_terms v_party_known y3) (fun r12 k12 =>
  nm (y4 + 1) (fun u13 =>
  ag27 k12 v_sheets0_numbers v_sheets1_numbers k11 v_sheets3_numbers v_findings y1 r12 u13))))))
  ((if v_sheets3_size ≤ y4 then (
  some (v_sheets3_size, (v_party_known, v_sheets0_numbers, v_sheets1_numbers, v_sheets2_numbers, v_sheets3_numbers, v_findings)))
  else (
  bR (fX1_put v_sheets3_bits v_sheets3_numbers y4 (y3.toInt64)) (fun r15 k15 =>
  bR (fX0_comers v_party_size v_party_kinds v_party_terms v_party_known y3) (fun r16 k16 =>
  nm (y4 + 1) (fun u17 =>
  ag27 k16 v_sheets0_numbers v_sheets1_numbers v_sheets2_numbers k15 v_findings y1 r16 u17))))))
set_option maxRecDepth 100000 in
set_option maxHeartbeats 4000000 in
theorem LX4_book_27 {p : Program} {l : Launch} {e : Env} {s : State} {m : MethodId} {args : Array Value} {below : List Frame} {meth : Method} {c : Code} {D : va_G} {cI cJ cZ cS : ClassId} {tb : Nat} {A : Nat → Prop} {a_t a_party a_party_kinds a_party_costs a_party_terms a_party_known a_kept a_tape a_telephone a_sheets a_sheets0 a_sheets0_numbers a_sheets1 a_sheets1_numbers a_sheets2 a_sheets2_numbers a_sheets3 a_sheets3_numbers a_findings : Nat} {v_isKept : Int32} {v_party_size : Int32} {v_party_list : Int32} {v_party_told : Int32} {v_party_kinds : Nat → Int32} {v_party_terms : Nat → Int64} {v_sheets0_bits : Int32} {v_sheets0_size : Int32} {v_sheets1_bits : Int32} {v_sheets1_size : Int32} {v_sheets2_bits : Int32} {v_sheets2_size : Int32} {v_sheets3_bits : Int32} {v_sheets3_size : Int32} {rr : Int32} {kk' : (Nat → Int32) × (Nat → Int64) × (Nat → Int64) × (Nat → Int64) × (Nat → Int64) × (Nat → Int32)} (fx : q_Fx p s m args meth c cX4_book 5 RX4 (some .int) D cI cJ cZ cS tb A) {ag27 : (Nat → Int32) → (Nat → Int64) → (Nat → Int64) → (Nat → Int64) → (Nat → Int64) → (Nat → Int32) → Int32 → Int32 → Int32 → Option (Int32 × (Nat → Int32) × (Nat → Int64) × (Nat → Int64) × (Nat → Int64) × (Nat → Int64) × (Nat → Int32))} (hag27 : ∀ {v_party_known : Nat → Int32} {v_sheets0_numbers : Nat → Int64} {v_sheets1_numbers : Nat → Int64} {v_sheets2_numbers : Nat → Int64} {v_sheets3_numbers : Nat → Int64} {v_findings : Nat → Int32} {y1 : Int32} {y3 : Int32} {y4 : Int32} {H : Heap} {locs : List Loc} {ls : Array Slot}, q_H D A s (wX4_book cI cJ cZ cS a_t a_party a_party_kinds a_party_costs a_party_terms a_party_known a_kept a_tape a_telephone a_sheets a_sheets0 a_sheets0_numbers a_sheets1 a_sheets1_numbers a_sheets2 a_sheets2_numbers a_sheets3 a_sheets3_numbers a_findings v_isKept v_party_size v_party_list v_party_told v_party_kinds v_party_terms v_party_known v_sheets0_bits v_sheets0_size v_sheets0_numbers v_sheets1_bits v_sheets1_size v_sheets1_numbers v_sheets2_bits v_sheets2_size v_sheets2_numbers v_sheets3_bits v_sheets3_size v_sheets3_numbers v_findings) H locs → lv_has ls 5 [(0, .ref a_t), (1, .int y1), (3, .int y3), (4, .int y4)] → ag27 v_party_known v_sheets0_numbers v_sheets1_numbers v_sheets2_numbers v_sheets3_numbers v_findings y1 y3 y4 = some (rr, kk') → W p l e rX4_book s m args below meth c H locs 0 0 (MQ below (q_Ri D rr A ((fun k : (Nat → Int32) × (Nat → Int64) × (Nat → Int64) × (Nat → Int64) × (Nat → Int64) × (Nat → Int32) => (wX4_book cI cJ cZ cS a_t a_party a_party_kinds a_party_costs a_party_terms a_party_known a_kept a_tape a_telephone a_sheets a_sheets0 a_sheets0_numbers a_sheets1 a_sheets1_numbers a_sheets2 a_sheets2_numbers a_sheets3 a_sheets3_numbers a_findings v_isKept v_party_size v_party_list v_party_told v_party_kinds v_party_terms k.1 v_sheets0_bits v_sheets0_size k.2.1 v_sheets1_bits v_sheets1_size k.2.2.1 v_sheets2_bits v_sheets2_size k.2.2.2.1 v_sheets3_bits v_sheets3_size k.2.2.2.2.1 k.2.2.2.2.2)) kk')) args s 0 0 A) (F0 m 27 ls [])) : ∀ {v_party_known : Nat → Int32} {v_sheets0_numbers : Nat → Int64} {v_sheets1_numbers : Nat → Int64} {v_sheets2_numbers : Nat → Int64} {v_sheets3_numbers : Nat → Int64} {v_findings : Nat → Int32} {y1 : Int32} {y3 : Int32} {y4 : Int32} {H : Heap} {locs : List Loc} {ls : Array Slot}, q_H D A s (wX4_book cI cJ cZ cS a_t a_party a_party_kinds a_party_costs a_party_terms a_party_known a_kept a_tape a_telephone a_sheets a_sheets0 a_sheets0_numbers a_sheets1 a_sheets1_numbers a_sheets2 a_sheets2_numbers a_sheets3 a_sheets3_numbers a_findings v_isKept v_party_size v_party_list v_party_told v_party_kinds v_party_terms v_party_known v_sheets0_bits v_sheets0_size v_sheets0_numbers v_sheets1_bits v_sheets1_size v_sheets1_numbers v_sheets2_bits v_sheets2_size v_sheets2_numbers v_sheets3_bits v_sheets3_size v_sheets3_numbers v_findings) H locs → lv_has ls 5 [(0, .ref a_t), (1, .int y1), (3, .int y3), (4, .int y4)] → fX4_book_27 v_party_size v_party_list v_party_kinds v_party_terms v_sheets0_bits v_sheets0_size v_sheets1_bits v_sheets1_size v_sheets2_bits v_sheets2_size v_sheets3_bits v_sheets3_size ag27 v_party_known v_sheets0_numbers v_sheets1_numbers v_sheets2_numbers v_sheets3_numbers v_findings y1 y3 y4 = some (rr, kk') → W p l e rX4_book s m args below meth c H locs 0 0 (MQ below (q_Ri D rr A ((fun k : (Nat → Int32) × (Nat → Int64) × (Nat → Int64) × (Nat → Int64) × (Nat → Int64) × (Nat → Int32) => (wX4_book cI cJ cZ cS a_t a_party a_party_kinds a_party_costs a_party_terms a_party_known a_kept a_tape a_telephone a_sheets a_sheets0 a_sheets0_numbers a_sheets1 a_sheets1_numbers a_sheets2 a_sheets2_numbers a_sheets3 a_sheets3_numbers a_findings v_isKept v_party_size v_party_list v_party_told v_party_kinds v_party_terms k.1 v_sheets0_bits v_sheets0_size k.2.1 v_sheets1_bits v_sheets1_size k.2.2.1 v_sheets2_bits v_sheets2_size k.2.2.2.1 v_sheets3_bits v_sheets3_size k.2.2.2.2.1 k.2.2.2.2.2)) kk')) args s 0 0 A) (F0 m 27 ls []) := by
  intro v_party_known v_sheets0_numbers v_sheets1_numbers v_sheets2_numbers v_sheets3_numbers v_findings y1 y3 y4 H locs ls h hl hf
  have hx := fx.1
  have hb := fx.2.1
  unfold fX4_book_27 at hf
  refine lv_iload hx hb dX4_book_27 (lv_at hl 3 rfl) ?_
  refine lv_aload_n hx hb dX4_book_29 rfl (lv_at hl 0 rfl) ?_
  refine q_get (v := .ref a_sheets) fx inX4 h 0 rfl rfl 5 (by decide) k_179 rfl dX4_book_30 ?_
  refine lv_iload_n hx hb dX4_book_33 rfl (lv_at hl 1 rfl) ?_
  rcases sel4_inv hf with ⟨c1, hf⟩ | ⟨c1, hf⟩ | ⟨c1, hf⟩ | ⟨c1, hf⟩
  · refine q_aald (v := a_sheets0) fx h 5 rfl c1 (vinK (by decide)) rfl dX4_book_34 ?_
    refine q_getN (v := .int v_sheets0_size) fx inX1 h 6 rfl rfl 1 (by decide) nf_10 rfl dX4_book_35 ?_
    refine lv_icmp_ge (tgt := 70) hx hb dX4_book_38 (by decide) (fun c2 => ?_) (fun c2 => ?_)
    · have hf := it_t c2 hf
      refine lv_aload_n hx hb dX4_book_70 rfl (lv_at hl 0 rfl) ?_
      refine q_get (v := .ref a_sheets) fx inX4 h 0 rfl rfl 5 (by decide) k_179 rfl dX4_book_71 ?_
      refine lv_iload_n hx hb dX4_book_74 rfl (lv_at hl 1 rfl) ?_
      refine q_aald (v := a_sheets0) fx h 5 rfl c1 (vinK (by decide)) rfl dX4_book_75 ?_
      refine q_getN (v := .int v_sheets0_size) fx inX1 h 6 rfl rfl 1 (by decide) nf_10 rfl dX4_book_76 ?_
      exact q_reti (fun k : (Nat → Int32) × (Nat → Int64) × (Nat → Int64) × (Nat → Int64) × (Nat → Int64) × (Nat → Int32) => (wX4_book cI cJ cZ cS a_t a_party a_party_kinds a_party_costs a_party_terms a_party_known a_kept a_tape a_telephone a_sheets a_sheets0 a_sheets0_numbers a_sheets1 a_sheets1_numbers a_sheets2 a_sheets2_numbers a_sheets3 a_sheets3_numbers a_findings v_isKept v_party_size v_party_list v_party_told v_party_kinds v_party_terms k.1 v_sheets0_bits v_sheets0_size k.2.1 v_sheets1_bits v_sheets1_size k.2.2.1 v_sheets2_bits v_sheets2_size k.2.2.2.1 v_sheets3_bits v_sheets3_size k.2.2.2.2.1 k.2.2.2.2.2)) fx hf h dX4_book_79
    have hf := it_f c2 hf
    refine lv_aload_n hx hb dX4_book_41 rfl (lv_at hl 0 rfl) ?_
    refine q_get (v := .ref a_sheets) fx inX4 h 0 rfl rfl 5 (by decide) k_179 rfl dX4_book_42 ?_
    refine lv_iload_n hx hb dX4_book_45 rfl (lv_at hl 1 rfl) ?_
    refine q_aald (v := a_sheets0) fx h 5 rfl c1 (vinK (by decide)) rfl dX4_book_46 ?_
    refine lv_iload hx hb dX4_book_47 (lv_at hl 3 rfl) ?_
    refine lv_iload_n hx hb dX4_book_49 rfl (lv_at hl 2 rfl) ?_
    refine lv_i2l hx hb dX4_book_50 rfl ?_
    obtain ⟨r3, k3, hg, hf⟩ := bR_inv hf
    refine q_cl (rest := []) (ws' := (wX4_book cI cJ cZ cS a_t a_party a_party_kinds a_party_costs a_party_terms a_party_known a_kept a_tape a_telephone a_sheets a_sheets0 a_sheets0_numbers a_sheets1 a_sheets1_numbers a_sheets2 a_sheets2_numbers a_sheets3 a_sheets3_numbers a_findings v_isKept v_party_size v_party_list v_party_told v_party_kinds v_party_terms v_party_known v_sheets0_bits v_sheets0_size k3 v_sheets1_bits v_sheets1_size v_sheets1_numbers v_sheets2_bits v_sheets2_size v_sheets2_numbers v_sheets3_bits v_sheets3_size v_sheets3_numbers v_findings)) (w1 := (wX1_put cI cJ cZ cS a_sheets0 a_sheets0_numbers v_sheets0_bits v_sheets0_size k3)) fx h [6, 7] rfl rfl rfl rfl (q_runV fx h hl.1 [6, 7] rfl rfl (tX1_put l D cI cJ cZ cS tb a_sheets0 a_sheets0_numbers H.size v_sheets0_bits v_sheets0_size v_sheets0_numbers y4 (y3.toInt64) r3 k3 hg) mvX1_put k_558 ⟨rfl, rfl⟩ ⟨Nat.le_of_ble_eq_true rfl, Nat.le_of_ble_eq_true rfl⟩ rfl rfl rfl rfl (Nat.le_of_ble_eq_true rfl) dX4_book_51 ⟨Nat.le_of_ble_eq_true rfl, Nat.le_of_ble_eq_true rfl⟩) (fun H locs h => ?_)
    refine lv_pop2_2 hx hb dX4_book_54 rfl ?_
    refine lv_aload_n hx hb dX4_book_55 rfl (lv_at hl 0 rfl) ?_
    refine q_get (v := .ref a_party) fx inX4 h 0 rfl rfl 0 (by decide) k_174 rfl dX4_book_56 ?_
    refine lv_iload_n hx hb dX4_book_59 rfl (lv_at hl 2 rfl) ?_
    obtain ⟨r4, k4, hg, hf⟩ := bR_inv hf
    refine q_ci (rest := []) (ws' := (wX4_book cI cJ cZ cS a_t a_party a_party_kinds a_party_costs a_party_terms a_party_known a_kept a_tape a_telephone a_sheets a_sheets0 a_sheets0_numbers a_sheets1 a_sheets1_numbers a_sheets2 a_sheets2_numbers a_sheets3 a_sheets3_numbers a_findings v_isKept v_party_size v_party_list v_party_told v_party_kinds v_party_terms k4 v_sheets0_bits v_sheets0_size k3 v_sheets1_bits v_sheets1_size v_sheets1_numbers v_sheets2_bits v_sheets2_size v_sheets2_numbers v_sheets3_bits v_sheets3_size v_sheets3_numbers v_findings)) (w1 := (wX0_comers cI cJ cZ cS a_party a_party_kinds a_party_costs a_party_terms a_party_known v_party_size v_party_list v_party_told v_party_kinds v_party_terms k4)) fx h [1, 2, 3, 4] rfl rfl rfl rfl (q_runV fx h hl.1 [1, 2, 3, 4] rfl rfl (tX0_comers l D cI cJ cZ cS tb a_party a_party_kinds a_party_costs a_party_terms a_party_known H.size v_party_size v_party_list v_party_told v_party_kinds v_party_terms v_party_known y3 r4 k4 hg) mvX0_comers k_224 ⟨rfl, rfl⟩ ⟨Nat.le_of_ble_eq_true rfl, Nat.le_of_ble_eq_true rfl⟩ rfl rfl rfl rfl (Nat.le_of_ble_eq_true rfl) dX4_book_60 ⟨Nat.le_of_ble_eq_true rfl, Nat.le_of_ble_eq_true rfl⟩) (fun H locs h => ?_)
    refine lv_istore_n (lv' := [(3, .int r4), (0, .ref a_t), (1, .int y1), (4, .int y4)]) hx hb dX4_book_63 rfl hl (by decide) rfl (fun ls hl => ?_)
    obtain ⟨u5, eu5, hf⟩ := nm_inv hf
    refine lv_iinc (v := u5) (lv' := [(4, .int u5), (3, .int r4), (0, .ref a_t), (1, .int y1)]) hx hb dX4_book_64 hl (k := 3) rfl (by rw [eu5]; rfl) (by decide) rfl (fun ls hl => ?_)
    refine lv_goto (tgt := 27) hx hb dX4_book_67 (by decide) ?_
    exact hag27 h (lv_sub hl [2, 3, 1, 0] rfl) hf
  · refine q_aald (v := a_sheets1) fx h 5 rfl c1 (vinK (by decide)) rfl dX4_book_34 ?_
    refine q_getN (v := .int v_sheets1_size) fx inX1 h 8 rfl rfl 1 (by decide) nf_10 rfl dX4_book_35 ?_
    refine lv_icmp_ge (tgt := 70) hx hb dX4_book_38 (by decide) (fun c6 => ?_) (fun c6 => ?_)
    · have hf := it_t c6 hf
      refine lv_aload_n hx hb dX4_book_70 rfl (lv_at hl 0 rfl) ?_
      refine q_get (v := .ref a_sheets) fx inX4 h 0 rfl rfl 5 (by decide) k_179 rfl dX4_book_71 ?_
      refine lv_iload_n hx hb dX4_book_74 rfl (lv_at hl 1 rfl) ?_
      refine q_aald (v := a_sheets1) fx h 5 rfl c1 (vinK (by decide)) rfl dX4_book_75 ?_
      refine q_getN (v := .int v_sheets1_size) fx inX1 h 8 rfl rfl 1 (by decide) nf_10 rfl dX4_book_76 ?_
      exact q_reti (fun k : (Nat → Int32) × (Nat → Int64) × (Nat → Int64) × (Nat → Int64) × (Nat → Int64) × (Nat → Int32) => (wX4_book cI cJ cZ cS a_t a_party a_party_kinds a_party_costs a_party_terms a_party_known a_kept a_tape a_telephone a_sheets a_sheets0 a_sheets0_numbers a_sheets1 a_sheets1_numbers a_sheets2 a_sheets2_numbers a_sheets3 a_sheets3_numbers a_findings v_isKept v_party_size v_party_list v_party_told v_party_kinds v_party_terms k.1 v_sheets0_bits v_sheets0_size k.2.1 v_sheets1_bits v_sheets1_size k.2.2.1 v_sheets2_bits v_sheets2_size k.2.2.2.1 v_sheets3_bits v_sheets3_size k.2.2.2.2.1 k.2.2.2.2.2)) fx hf h dX4_book_79
    have hf := it_f c6 hf
    refine lv_aload_n hx hb dX4_book_41 rfl (lv_at hl 0 rfl) ?_
    refine q_get (v := .ref a_sheets) fx inX4 h 0 rfl rfl 5 (by decide) k_179 rfl dX4_book_42 ?_
    refine lv_iload_n hx hb dX4_book_45 rfl (lv_at hl 1 rfl) ?_
    refine q_aald (v := a_sheets1) fx h 5 rfl c1 (vinK (by decide)) rfl dX4_book_46 ?_
    refine lv_iload hx hb dX4_book_47 (lv_at hl 3 rfl) ?_
    refine lv_iload_n hx hb dX4_book_49 rfl (lv_at hl 2 rfl) ?_
    refine lv_i2l hx hb dX4_book_50 rfl ?_
    obtain ⟨r7, k7, hg, hf⟩ := bR_inv hf
    refine q_cl (rest := []) (ws' := (wX4_book cI cJ cZ cS a_t a_party a_party_kinds a_party_costs a_party_terms a_party_known a_kept a_tape a_telephone a_sheets a_sheets0 a_sheets0_numbers a_sheets1 a_sheets1_numbers a_sheets2 a_sheets2_numbers a_sheets3 a_sheets3_numbers a_findings v_isKept v_party_size v_party_list v_party_told v_party_kinds v_party_terms v_party_known v_sheets0_bits v_sheets0_size v_sheets0_numbers v_sheets1_bits v_sheets1_size k7 v_sheets2_bits v_sheets2_size v_sheets2_numbers v_sheets3_bits v_sheets3_size v_sheets3_numbers v_findings)) (w1 := (wX1_put cI cJ cZ cS a_sheets1 a_sheets1_numbers v_sheets1_bits v_sheets1_size k7)) fx h [8, 9] rfl rfl rfl rfl (q_runV fx h hl.1 [8, 9] rfl rfl (tX1_put l D cI cJ cZ cS tb a_sheets1 a_sheets1_numbers H.size v_sheets1_bits v_sheets1_size v_sheets1_numbers y4 (y3.toInt64) r7 k7 hg) mvX1_put k_558 ⟨rfl, rfl⟩ ⟨Nat.le_of_ble_eq_true rfl, Nat.le_of_ble_eq_true rfl⟩ rfl rfl rfl rfl (Nat.le_of_ble_eq_true rfl) dX4_book_51 ⟨Nat.le_of_ble_eq_true rfl, Nat.le_of_ble_eq_true rfl⟩) (fun H locs h => ?_)
    refine lv_pop2_2 hx hb dX4_book_54 rfl ?_
    refine lv_aload_n hx hb dX4_book_55 rfl (lv_at hl 0 rfl) ?_
    refine q_get (v := .ref a_party) fx inX4 h 0 rfl rfl 0 (by decide) k_174 rfl dX4_book_56 ?_
    refine lv_iload_n hx hb dX4_book_59 rfl (lv_at hl 2 rfl) ?_
    obtain ⟨r8, k8, hg, hf⟩ := bR_inv hf
    refine q_ci (rest := []) (ws' := (wX4_book cI cJ cZ cS a_t a_party a_party_kinds a_party_costs a_party_terms a_party_known a_kept a_tape a_telephone a_sheets a_sheets0 a_sheets0_numbers a_sheets1 a_sheets1_numbers a_sheets2 a_sheets2_numbers a_sheets3 a_sheets3_numbers a_findings v_isKept v_party_size v_party_list v_party_told v_party_kinds v_party_terms k8 v_sheets0_bits v_sheets0_size v_sheets0_numbers v_sheets1_bits v_sheets1_size k7 v_sheets2_bits v_sheets2_size v_sheets2_numbers v_sheets3_bits v_sheets3_size v_sheets3_numbers v_findings)) (w1 := (wX0_comers cI cJ cZ cS a_party a_party_kinds a_party_costs a_party_terms a_party_known v_party_size v_party_list v_party_told v_party_kinds v_party_terms k8)) fx h [1, 2, 3, 4] rfl rfl rfl rfl (q_runV fx h hl.1 [1, 2, 3, 4] rfl rfl (tX0_comers l D cI cJ cZ cS tb a_party a_party_kinds a_party_costs a_party_terms a_party_known H.size v_party_size v_party_list v_party_told v_party_kinds v_party_terms v_party_known y3 r8 k8 hg) mvX0_comers k_224 ⟨rfl, rfl⟩ ⟨Nat.le_of_ble_eq_true rfl, Nat.le_of_ble_eq_true rfl⟩ rfl rfl rfl rfl (Nat.le_of_ble_eq_true rfl) dX4_book_60 ⟨Nat.le_of_ble_eq_true rfl, Nat.le_of_ble_eq_true rfl⟩) (fun H locs h => ?_)
    refine lv_istore_n (lv' := [(3, .int r8), (0, .ref a_t), (1, .int y1), (4, .int y4)]) hx hb dX4_book_63 rfl hl (by decide) rfl (fun ls hl => ?_)
    obtain ⟨u9, eu9, hf⟩ := nm_inv hf
    refine lv_iinc (v := u9) (lv' := [(4, .int u9), (3, .int r8), (0, .ref a_t), (1, .int y1)]) hx hb dX4_book_64 hl (k := 3) rfl (by rw [eu9]; rfl) (by decide) rfl (fun ls hl => ?_)
    refine lv_goto (tgt := 27) hx hb dX4_book_67 (by decide) ?_
    exact hag27 h (lv_sub hl [2, 3, 1, 0] rfl) hf
  · refine q_aald (v := a_sheets2) fx h 5 rfl c1 (vinK (by decide)) rfl dX4_book_34 ?_
    refine q_getN (v := .int v_sheets2_size) fx inX1 h 10 rfl rfl 1 (by decide) nf_10 rfl dX4_book_35 ?_
    refine lv_icmp_ge (tgt := 70) hx hb dX4_book_38 (by decide) (fun c10 => ?_) (fun c10 => ?_)
    · have hf := it_t c10 hf
      refine lv_aload_n hx hb dX4_book_70 rfl (lv_at hl 0 rfl) ?_
      refine q_get (v := .ref a_sheets) fx inX4 h 0 rfl rfl 5 (by decide) k_179 rfl dX4_book_71 ?_
      refine lv_iload_n hx hb dX4_book_74 rfl (lv_at hl 1 rfl) ?_
      refine q_aald (v := a_sheets2) fx h 5 rfl c1 (vinK (by decide)) rfl dX4_book_75 ?_
      refine q_getN (v := .int v_sheets2_size) fx inX1 h 10 rfl rfl 1 (by decide) nf_10 rfl dX4_book_76 ?_
      exact q_reti (fun k : (Nat → Int32) × (Nat → Int64) × (Nat → Int64) × (Nat → Int64) × (Nat → Int64) × (Nat → Int32) => (wX4_book cI cJ cZ cS a_t a_party a_party_kinds a_party_costs a_party_terms a_party_known a_kept a_tape a_telephone a_sheets a_sheets0 a_sheets0_numbers a_sheets1 a_sheets1_numbers a_sheets2 a_sheets2_numbers a_sheets3 a_sheets3_numbers a_findings v_isKept v_party_size v_party_list v_party_told v_party_kinds v_party_terms k.1 v_sheets0_bits v_sheets0_size k.2.1 v_sheets1_bits v_sheets1_size k.2.2.1 v_sheets2_bits v_sheets2_size k.2.2.2.1 v_sheets3_bits v_sheets3_size k.2.2.2.2.1 k.2.2.2.2.2)) fx hf h dX4_book_79
    have hf := it_f c10 hf
    refine lv_aload_n hx hb dX4_book_41 rfl (lv_at hl 0 rfl) ?_
    refine q_get (v := .ref a_sheets) fx inX4 h 0 rfl rfl 5 (by decide) k_179 rfl dX4_book_42 ?_
    refine lv_iload_n hx hb dX4_book_45 rfl (lv_at hl 1 rfl) ?_
    refine q_aald (v := a_sheets2) fx h 5 rfl c1 (vinK (by decide)) rfl dX4_book_46 ?_
    refine lv_iload hx hb dX4_book_47 (lv_at hl 3 rfl) ?_
    refine lv_iload_n hx hb dX4_book_49 rfl (lv_at hl 2 rfl) ?_
    refine lv_i2l hx hb dX4_book_50 rfl ?_
    obtain ⟨r11, k11, hg, hf⟩ := bR_inv hf
    refine q_cl (rest := []) (ws' := (wX4_book cI cJ cZ cS a_t a_party a_party_kinds a_party_costs a_party_terms a_party_known a_kept a_tape a_telephone a_sheets a_sheets0 a_sheets0_numbers a_sheets1 a_sheets1_numbers a_sheets2 a_sheets2_numbers a_sheets3 a_sheets3_numbers a_findings v_isKept v_party_size v_party_list v_party_told v_party_kinds v_party_terms v_party_known v_sheets0_bits v_sheets0_size v_sheets0_numbers v_sheets1_bits v_sheets1_size v_sheets1_numbers v_sheets2_bits v_sheets2_size k11 v_sheets3_bits v_sheets3_size v_sheets3_numbers v_findings)) (w1 := (wX1_put cI cJ cZ cS a_sheets2 a_sheets2_numbers v_sheets2_bits v_sheets2_size k11)) fx h [10, 11] rfl rfl rfl rfl (q_runV fx h hl.1 [10, 11] rfl rfl (tX1_put l D cI cJ cZ cS tb a_sheets2 a_sheets2_numbers H.size v_sheets2_bits v_sheets2_size v_sheets2_numbers y4 (y3.toInt64) r11 k11 hg) mvX1_put k_558 ⟨rfl, rfl⟩ ⟨Nat.le_of_ble_eq_true rfl, Nat.le_of_ble_eq_true rfl⟩ rfl rfl rfl rfl (Nat.le_of_ble_eq_true rfl) dX4_book_51 ⟨Nat.le_of_ble_eq_true rfl, Nat.le_of_ble_eq_true rfl⟩) (fun H locs h => ?_)
    refine lv_pop2_2 hx hb dX4_book_54 rfl ?_
    refine lv_aload_n hx hb dX4_book_55 rfl (lv_at hl 0 rfl) ?_
    refine q_get (v := .ref a_party) fx inX4 h 0 rfl rfl 0 (by decide) k_174 rfl dX4_book_56 ?_
    refine lv_iload_n hx hb dX4_book_59 rfl (lv_at hl 2 rfl) ?_
    obtain ⟨r12, k12, hg, hf⟩ := bR_inv hf
    refine q_ci (rest := []) (ws' := (wX4_book cI cJ cZ cS a_t a_party a_party_kinds a_party_costs a_party_terms a_party_known a_kept a_tape a_telephone a_sheets a_sheets0 a_sheets0_numbers a_sheets1 a_sheets1_numbers a_sheets2 a_sheets2_numbers a_sheets3 a_sheets3_numbers a_findings v_isKept v_party_size v_party_list v_party_told v_party_kinds v_party_terms k12 v_sheets0_bits v_sheets0_size v_sheets0_numbers v_sheets1_bits v_sheets1_size v_sheets1_numbers v_sheets2_bits v_sheets2_size k11 v_sheets3_bits v_sheets3_size v_sheets3_numbers v_findings)) (w1 := (wX0_comers cI cJ cZ cS a_party a_party_kinds a_party_costs a_party_terms a_party_known v_party_size v_party_list v_party_told v_party_kinds v_party_terms k12)) fx h [1, 2, 3, 4] rfl rfl rfl rfl (q_runV fx h hl.1 [1, 2, 3, 4] rfl rfl (tX0_comers l D cI cJ cZ cS tb a_party a_party_kinds a_party_costs a_party_terms a_party_known H.size v_party_size v_party_list v_party_told v_party_kinds v_party_terms v_party_known y3 r12 k12 hg) mvX0_comers k_224 ⟨rfl, rfl⟩ ⟨Nat.le_of_ble_eq_true rfl, Nat.le_of_ble_eq_true rfl⟩ rfl rfl rfl rfl (Nat.le_of_ble_eq_true rfl) dX4_book_60 ⟨Nat.le_of_ble_eq_true rfl, Nat.le_of_ble_eq_true rfl⟩) (fun H locs h => ?_)
    refine lv_istore_n (lv' := [(3, .int r12), (0, .ref a_t), (1, .int y1), (4, .int y4)]) hx hb dX4_book_63 rfl hl (by decide) rfl (fun ls hl => ?_)
    obtain ⟨u13, eu13, hf⟩ := nm_inv hf
    refine lv_iinc (v := u13) (lv' := [(4, .int u13), (3, .int r12), (0, .ref a_t), (1, .int y1)]) hx hb dX4_book_64 hl (k := 3) rfl (by rw [eu13]; rfl) (by decide) rfl (fun ls hl => ?_)
    refine lv_goto (tgt := 27) hx hb dX4_book_67 (by decide) ?_
    exact hag27 h (lv_sub hl [2, 3, 1, 0] rfl) hf
  · refine q_aald (v := a_sheets3) fx h 5 rfl c1 (vinK (by decide)) rfl dX4_book_34 ?_
    refine q_getN (v := .int v_sheets3_size) fx inX1 h 12 rfl rfl 1 (by decide) nf_10 rfl dX4_book_35 ?_
    refine lv_icmp_ge (tgt := 70) hx hb dX4_book_38 (by decide) (fun c14 => ?_) (fun c14 => ?_)
    · have hf := it_t c14 hf
      refine lv_aload_n hx hb dX4_book_70 rfl (lv_at hl 0 rfl) ?_
      refine q_get (v := .ref a_sheets) fx inX4 h 0 rfl rfl 5 (by decide) k_179 rfl dX4_book_71 ?_
      refine lv_iload_n hx hb dX4_book_74 rfl (lv_at hl 1 rfl) ?_
      refine q_aald (v := a_sheets3) fx h 5 rfl c1 (vinK (by decide)) rfl dX4_book_75 ?_
      refine q_getN (v := .int v_sheets3_size) fx inX1 h 12 rfl rfl 1 (by decide) nf_10 rfl dX4_book_76 ?_
      exact q_reti (fun k : (Nat → Int32) × (Nat → Int64) × (Nat → Int64) × (Nat → Int64) × (Nat → Int64) × (Nat → Int32) => (wX4_book cI cJ cZ cS a_t a_party a_party_kinds a_party_costs a_party_terms a_party_known a_kept a_tape a_telephone a_sheets a_sheets0 a_sheets0_numbers a_sheets1 a_sheets1_numbers a_sheets2 a_sheets2_numbers a_sheets3 a_sheets3_numbers a_findings v_isKept v_party_size v_party_list v_party_told v_party_kinds v_party_terms k.1 v_sheets0_bits v_sheets0_size k.2.1 v_sheets1_bits v_sheets1_size k.2.2.1 v_sheets2_bits v_sheets2_size k.2.2.2.1 v_sheets3_bits v_sheets3_size k.2.2.2.2.1 k.2.2.2.2.2)) fx hf h dX4_book_79
    have hf := it_f c14 hf
    refine lv_aload_n hx hb dX4_book_41 rfl (lv_at hl 0 rfl) ?_
    refine q_get (v := .ref a_sheets) fx inX4 h 0 rfl rfl 5 (by decide) k_179 rfl dX4_book_42 ?_
    refine lv_iload_n hx hb dX4_book_45 rfl (lv_at hl 1 rfl) ?_
    refine q_aald (v := a_sheets3) fx h 5 rfl c1 (vinK (by decide)) rfl dX4_book_46 ?_
    refine lv_iload hx hb dX4_book_47 (lv_at hl 3 rfl) ?_
    refine lv_iload_n hx hb dX4_book_49 rfl (lv_at hl 2 rfl) ?_
    refine lv_i2l hx hb dX4_book_50 rfl ?_
    obtain ⟨r15, k15, hg, hf⟩ := bR_inv hf
    refine q_cl (rest := []) (ws' := (wX4_book cI cJ cZ cS a_t a_party a_party_kinds a_party_costs a_party_terms a_party_known a_kept a_tape a_telephone a_sheets a_sheets0 a_sheets0_numbers a_sheets1 a_sheets1_numbers a_sheets2 a_sheets2_numbers a_sheets3 a_sheets3_numbers a_findings v_isKept v_party_size v_party_list v_party_told v_party_kinds v_party_terms v_party_known v_sheets0_bits v_sheets0_size v_sheets0_numbers v_sheets1_bits v_sheets1_size v_sheets1_numbers v_sheets2_bits v_sheets2_size v_sheets2_numbers v_sheets3_bits v_sheets3_size k15 v_findings)) (w1 := (wX1_put cI cJ cZ cS a_sheets3 a_sheets3_numbers v_sheets3_bits v_sheets3_size k15)) fx h [12, 13] rfl rfl rfl rfl (q_runV fx h hl.1 [12, 13] rfl rfl (tX1_put l D cI cJ cZ cS tb a_sheets3 a_sheets3_numbers H.size v_sheets3_bits v_sheets3_size v_sheets3_numbers y4 (y3.toInt64) r15 k15 hg) mvX1_put k_558 ⟨rfl, rfl⟩ ⟨Nat.le_of_ble_eq_true rfl, Nat.le_of_ble_eq_true rfl⟩ rfl rfl rfl rfl (Nat.le_of_ble_eq_true rfl) dX4_book_51 ⟨Nat.le_of_ble_eq_true rfl, Nat.le_of_ble_eq_true rfl⟩) (fun H locs h => ?_)
    refine lv_pop2_2 hx hb dX4_book_54 rfl ?_
    refine lv_aload_n hx hb dX4_book_55 rfl (lv_at hl 0 rfl) ?_
    refine q_get (v := .ref a_party) fx inX4 h 0 rfl rfl 0 (by decide) k_174 rfl dX4_book_56 ?_
    refine lv_iload_n hx hb dX4_book_59 rfl (lv_at hl 2 rfl) ?_
    obtain ⟨r16, k16, hg, hf⟩ := bR_inv hf
    refine q_ci (rest := []) (ws' := (wX4_book cI cJ cZ cS a_t a_party a_party_kinds a_party_costs a_party_terms a_party_known a_kept a_tape a_telephone a_sheets a_sheets0 a_sheets0_numbers a_sheets1 a_sheets1_numbers a_sheets2 a_sheets2_numbers a_sheets3 a_sheets3_numbers a_findings v_isKept v_party_size v_party_list v_party_told v_party_kinds v_party_terms k16 v_sheets0_bits v_sheets0_size v_sheets0_numbers v_sheets1_bits v_sheets1_size v_sheets1_numbers v_sheets2_bits v_sheets2_size v_sheets2_numbers v_sheets3_bits v_sheets3_size k15 v_findings)) (w1 := (wX0_comers cI cJ cZ cS a_party a_party_kinds a_party_costs a_party_terms a_party_known v_party_size v_party_list v_party_told v_party_kinds v_party_terms k16)) fx h [1, 2, 3, 4] rfl rfl rfl rfl (q_runV fx h hl.1 [1, 2, 3, 4] rfl rfl (tX0_comers l D cI cJ cZ cS tb a_party a_party_kinds a_party_costs a_party_terms a_party_known H.size v_party_size v_party_list v_party_told v_party_kinds v_party_terms v_party_known y3 r16 k16 hg) mvX0_comers k_224 ⟨rfl, rfl⟩ ⟨Nat.le_of_ble_eq_true rfl, Nat.le_of_ble_eq_true rfl⟩ rfl rfl rfl rfl (Nat.le_of_ble_eq_true rfl) dX4_book_60 ⟨Nat.le_of_ble_eq_true rfl, Nat.le_of_ble_eq_true rfl⟩) (fun H locs h => ?_)
    refine lv_istore_n (lv' := [(3, .int r16), (0, .ref a_t), (1, .int y1), (4, .int y4)]) hx hb dX4_book_63 rfl hl (by decide) rfl (fun ls hl => ?_)
    obtain ⟨u17, eu17, hf⟩ := nm_inv hf
    refine lv_iinc (v := u17) (lv' := [(4, .int u17), (3, .int r16), (0, .ref a_t), (1, .int y1)]) hx hb dX4_book_64 hl (k := 3) rfl (by rw [eu17]; rfl) (by decide) rfl (fun ls hl => ?_)
    refine lv_goto (tgt := 27) hx hb dX4_book_67 (by decide) ?_
    exact hag27 h (lv_sub hl [2, 3, 1, 0] rfl) hf
set_option maxRecDepth 100000 in
theorem EX4_book_27 {p : Program} {l : Launch} {e : Env} {s : State} {m : MethodId} {args : Array Value} {below : List Frame} {meth : Method} {c : Code} {D : va_G} {cI cJ cZ cS : ClassId} {tb : Nat} {A : Nat → Prop} {a_t a_party a_party_kinds a_party_costs a_party_terms a_party_known a_kept a_tape a_telephone a_sheets a_sheets0 a_sheets0_numbers a_sheets1 a_sheets1_numbers a_sheets2 a_sheets2_numbers a_sheets3 a_sheets3_numbers a_findings : Nat} {v_isKept : Int32} {v_party_size : Int32} {v_party_list : Int32} {v_party_told : Int32} {v_party_kinds : Nat → Int32} {v_party_terms : Nat → Int64} {v_sheets0_bits : Int32} {v_sheets0_size : Int32} {v_sheets1_bits : Int32} {v_sheets1_size : Int32} {v_sheets2_bits : Int32} {v_sheets2_size : Int32} {v_sheets3_bits : Int32} {v_sheets3_size : Int32} {rr : Int32} {kk' : (Nat → Int32) × (Nat → Int64) × (Nat → Int64) × (Nat → Int64) × (Nat → Int64) × (Nat → Int32)} (fx : q_Fx p s m args meth c cX4_book 5 RX4 (some .int) D cI cJ cZ cS tb A) : ∀ (n : Nat), ∀ {v_party_known : Nat → Int32} {v_sheets0_numbers : Nat → Int64} {v_sheets1_numbers : Nat → Int64} {v_sheets2_numbers : Nat → Int64} {v_sheets3_numbers : Nat → Int64} {v_findings : Nat → Int32} {y1 : Int32} {y3 : Int32} {y4 : Int32} {H : Heap} {locs : List Loc} {ls : Array Slot}, q_H D A s (wX4_book cI cJ cZ cS a_t a_party a_party_kinds a_party_costs a_party_terms a_party_known a_kept a_tape a_telephone a_sheets a_sheets0 a_sheets0_numbers a_sheets1 a_sheets1_numbers a_sheets2 a_sheets2_numbers a_sheets3 a_sheets3_numbers a_findings v_isKept v_party_size v_party_list v_party_told v_party_kinds v_party_terms v_party_known v_sheets0_bits v_sheets0_size v_sheets0_numbers v_sheets1_bits v_sheets1_size v_sheets1_numbers v_sheets2_bits v_sheets2_size v_sheets2_numbers v_sheets3_bits v_sheets3_size v_sheets3_numbers v_findings) H locs → lv_has ls 5 [(0, .ref a_t), (1, .int y1), (3, .int y3), (4, .int y4)] → ll9 (fX4_book_27 v_party_size v_party_list v_party_kinds v_party_terms v_sheets0_bits v_sheets0_size v_sheets1_bits v_sheets1_size v_sheets2_bits v_sheets2_size v_sheets3_bits v_sheets3_size) n v_party_known v_sheets0_numbers v_sheets1_numbers v_sheets2_numbers v_sheets3_numbers v_findings y1 y3 y4 = some (rr, kk') → W p l e rX4_book s m args below meth c H locs 0 0 (MQ below (q_Ri D rr A ((fun k : (Nat → Int32) × (Nat → Int64) × (Nat → Int64) × (Nat → Int64) × (Nat → Int64) × (Nat → Int32) => (wX4_book cI cJ cZ cS a_t a_party a_party_kinds a_party_costs a_party_terms a_party_known a_kept a_tape a_telephone a_sheets a_sheets0 a_sheets0_numbers a_sheets1 a_sheets1_numbers a_sheets2 a_sheets2_numbers a_sheets3 a_sheets3_numbers a_findings v_isKept v_party_size v_party_list v_party_told v_party_kinds v_party_terms k.1 v_sheets0_bits v_sheets0_size k.2.1 v_sheets1_bits v_sheets1_size k.2.2.1 v_sheets2_bits v_sheets2_size k.2.2.2.1 v_sheets3_bits v_sheets3_size k.2.2.2.2.1 k.2.2.2.2.2)) kk')) args s 0 0 A) (F0 m 27 ls []) := by
  intro n
  induction n with
  | zero => intro v_party_known v_sheets0_numbers v_sheets1_numbers v_sheets2_numbers v_sheets3_numbers v_findings y1 y3 y4 H locs ls h hl hf; exact (ll9_z hf).elim
  | succ n ih => intro v_party_known v_sheets0_numbers v_sheets1_numbers v_sheets2_numbers v_sheets3_numbers v_findings y1 y3 y4 H locs ls h hl hf; exact LX4_book_27 fx ih h hl (ll9_s hf)
def fX4_book (v_party_size : Int32) (v_party_list : Int32) (v_party_kinds : Nat → Int32) (v_party_terms : Nat → Int64) (v_party_known : Nat → Int32) (v_sheets0_bits : Int32) (v_sheets0_size : Int32) (v_sheets0_numbers : Nat → Int64) (v_sheets1_bits : Int32) (v_sheets1_size : Int32) (v_sheets1_numbers : Nat → Int64) (v_sheets2_bits : Int32) (v_sheets2_size : Int32) (v_sheets2_numbers : Nat → Int64) (v_sheets3_bits : Int32) (v_sheets3_size : Int32) (v_sheets3_numbers : Nat → Int64) (v_findings : Nat → Int32) (x1 : Int32) : Option (Int32 × (Nat → Int32) × (Nat → Int64) × (Nat → Int64) × (Nat → Int64) × (Nat → Int64) × (Nat → Int32)) :=
  bR (fX4_sheetLack v_sheets0_bits v_sheets1_bits v_sheets2_bits v_sheets3_bits x1) (fun r18 k18 =>
  (if r18 = 0 then (
  ll9 (fX4_book_27 v_party_size v_party_list v_party_kinds v_party_terms v_sheets0_bits v_sheets0_size v_sheets1_bits v_sheets1_size v_sheets2_bits v_sheets2_size v_sheets3_bits v_sheets3_size) qF v_party_known v_sheets0_numbers v_sheets1_numbers v_sheets2_numbers v_sheets3_numbers v_findings x1 v_party_list 0)
  else (
  bR (fX4_found v_findings r18) (fun r20 k20 =>
  some (r20, (v_party_known, v_sheets0_numbers, v_sheets1_numbers, v_sheets2_numbers, v_sheets3_numbers, k20))))))
set_option maxRecDepth 100000 in
set_option maxHeartbeats 4000000 in
theorem tX4_book (l : Launch) (D : va_G) (cI cJ cZ cS : ClassId) (tb : Nat) (a_t a_party a_party_kinds a_party_costs a_party_terms a_party_known a_kept a_tape a_telephone a_sheets a_sheets0 a_sheets0_numbers a_sheets1 a_sheets1_numbers a_sheets2 a_sheets2_numbers a_sheets3 a_sheets3_numbers a_findings : Nat) (sz : Nat) (v_isKept : Int32) (v_party_size : Int32) (v_party_list : Int32) (v_party_told : Int32) (v_party_kinds : Nat → Int32) (v_party_terms : Nat → Int64) (v_party_known : Nat → Int32) (v_sheets0_bits : Int32) (v_sheets0_size : Int32) (v_sheets0_numbers : Nat → Int64) (v_sheets1_bits : Int32) (v_sheets1_size : Int32) (v_sheets1_numbers : Nat → Int64) (v_sheets2_bits : Int32) (v_sheets2_size : Int32) (v_sheets2_numbers : Nat → Int64) (v_sheets3_bits : Int32) (v_sheets3_size : Int32) (v_sheets3_numbers : Nat → Int64) (v_findings : Nat → Int32) (x1 : Int32) (rr : Int32) (kk' : (Nat → Int32) × (Nat → Int64) × (Nat → Int64) × (Nat → Int64) × (Nat → Int64) × (Nat → Int32)) (hf : fX4_book v_party_size v_party_list v_party_kinds v_party_terms v_party_known v_sheets0_bits v_sheets0_size v_sheets0_numbers v_sheets1_bits v_sheets1_size v_sheets1_numbers v_sheets2_bits v_sheets2_size v_sheets2_numbers v_sheets3_bits v_sheets3_size v_sheets3_numbers v_findings x1 = some (rr, kk')) : Met l yX4_book (Cond.code yX4_book cX4_book 5 (some .int) :: wA) rX4_book (q_Pre D cI cJ cZ cS tb [.ref a_t, .int x1] sz (wX4_book cI cJ cZ cS a_t a_party a_party_kinds a_party_costs a_party_terms a_party_known a_kept a_tape a_telephone a_sheets a_sheets0 a_sheets0_numbers a_sheets1 a_sheets1_numbers a_sheets2 a_sheets2_numbers a_sheets3 a_sheets3_numbers a_findings v_isKept v_party_size v_party_list v_party_told v_party_kinds v_party_terms v_party_known v_sheets0_bits v_sheets0_size v_sheets0_numbers v_sheets1_bits v_sheets1_size v_sheets1_numbers v_sheets2_bits v_sheets2_size v_sheets2_numbers v_sheets3_bits v_sheets3_size v_sheets3_numbers v_findings)) (q_Ri D rr (va_A (wX4_book cI cJ cZ cS a_t a_party a_party_kinds a_party_costs a_party_terms a_party_known a_kept a_tape a_telephone a_sheets a_sheets0 a_sheets0_numbers a_sheets1 a_sheets1_numbers a_sheets2 a_sheets2_numbers a_sheets3 a_sheets3_numbers a_findings v_isKept v_party_size v_party_list v_party_told v_party_kinds v_party_terms v_party_known v_sheets0_bits v_sheets0_size v_sheets0_numbers v_sheets1_bits v_sheets1_size v_sheets1_numbers v_sheets2_bits v_sheets2_size v_sheets2_numbers v_sheets3_bits v_sheets3_size v_sheets3_numbers v_findings) sz) ((fun k : (Nat → Int32) × (Nat → Int64) × (Nat → Int64) × (Nat → Int64) × (Nat → Int64) × (Nat → Int32) => (wX4_book cI cJ cZ cS a_t a_party a_party_kinds a_party_costs a_party_terms a_party_known a_kept a_tape a_telephone a_sheets a_sheets0 a_sheets0_numbers a_sheets1 a_sheets1_numbers a_sheets2 a_sheets2_numbers a_sheets3 a_sheets3_numbers a_findings v_isKept v_party_size v_party_list v_party_told v_party_kinds v_party_terms k.1 v_sheets0_bits v_sheets0_size k.2.1 v_sheets1_bits v_sheets1_size k.2.2.1 v_sheets2_bits v_sheets2_size k.2.2.2.1 v_sheets3_bits v_sheets3_size k.2.2.2.2.1 k.2.2.2.2.2)) kk')) 0 0 (va_A (wX4_book cI cJ cZ cS a_t a_party a_party_kinds a_party_costs a_party_terms a_party_known a_kept a_tape a_telephone a_sheets a_sheets0 a_sheets0_numbers a_sheets1 a_sheets1_numbers a_sheets2 a_sheets2_numbers a_sheets3 a_sheets3_numbers a_findings v_isKept v_party_size v_party_list v_party_told v_party_kinds v_party_terms v_party_known v_sheets0_bits v_sheets0_size v_sheets0_numbers v_sheets1_bits v_sheets1_size v_sheets1_numbers v_sheets2_bits v_sheets2_size v_sheets2_numbers v_sheets3_bits v_sheets3_size v_sheets3_numbers v_findings) sz) := by
  refine q_enter (Qf := fun A => (q_Ri D rr A ((fun k : (Nat → Int32) × (Nat → Int64) × (Nat → Int64) × (Nat → Int64) × (Nat → Int64) × (Nat → Int32) => (wX4_book cI cJ cZ cS a_t a_party a_party_kinds a_party_costs a_party_terms a_party_known a_kept a_tape a_telephone a_sheets a_sheets0 a_sheets0_numbers a_sheets1 a_sheets1_numbers a_sheets2 a_sheets2_numbers a_sheets3 a_sheets3_numbers a_findings v_isKept v_party_size v_party_list v_party_told v_party_kinds v_party_terms k.1 v_sheets0_bits v_sheets0_size k.2.1 v_sheets1_bits v_sheets1_size k.2.2.1 v_sheets2_bits v_sheets2_size k.2.2.2.1 v_sheets3_bits v_sheets3_size k.2.2.2.2.1 k.2.2.2.2.2)) kk'))) (by decide) rfl (Nat.le_of_ble_eq_true rfl) ?_
  intro p e s m below meth c A ls fx hname h hl
  have hx := fx.1
  have hb := fx.2.1
  have hl : lv_has ls 5 [(0, .ref a_t), (1, .int x1)] := hl
  generalize h9 : s.heap = H at h ⊢
  clear h9
  generalize h9 : ([] : List Loc) = locs at h ⊢
  clear h9
  unfold fX4_book at hf
  refine lv_aload_n hx hb dX4_book_0 rfl (lv_at hl 0 rfl) ?_
  refine lv_iload_n hx hb dX4_book_1 rfl (lv_at hl 1 rfl) ?_
  obtain ⟨r18, k18, hg, hf⟩ := bR_inv hf
  refine q_ci (rest := []) (ws' := (wX4_book cI cJ cZ cS a_t a_party a_party_kinds a_party_costs a_party_terms a_party_known a_kept a_tape a_telephone a_sheets a_sheets0 a_sheets0_numbers a_sheets1 a_sheets1_numbers a_sheets2 a_sheets2_numbers a_sheets3 a_sheets3_numbers a_findings v_isKept v_party_size v_party_list v_party_told v_party_kinds v_party_terms v_party_known v_sheets0_bits v_sheets0_size v_sheets0_numbers v_sheets1_bits v_sheets1_size v_sheets1_numbers v_sheets2_bits v_sheets2_size v_sheets2_numbers v_sheets3_bits v_sheets3_size v_sheets3_numbers v_findings)) (w1 := (wX4_sheetLack cI cJ cZ cS a_t a_party a_kept a_tape a_telephone a_sheets a_sheets0 a_sheets0_numbers a_sheets1 a_sheets1_numbers a_sheets2 a_sheets2_numbers a_sheets3 a_sheets3_numbers a_findings v_isKept v_sheets0_bits v_sheets0_size v_sheets1_bits v_sheets1_size v_sheets2_bits v_sheets2_size v_sheets3_bits v_sheets3_size)) fx h [0, 5, 6, 8, 10, 12] rfl rfl rfl rfl (q_runV fx h hl.1 [0, 5, 6, 8, 10, 12] rfl rfl (tX4_sheetLack l D cI cJ cZ cS tb a_t a_party a_kept a_tape a_telephone a_sheets a_sheets0 a_sheets0_numbers a_sheets1 a_sheets1_numbers a_sheets2 a_sheets2_numbers a_sheets3 a_sheets3_numbers a_findings H.size v_isKept v_sheets0_bits v_sheets0_size v_sheets1_bits v_sheets1_size v_sheets2_bits v_sheets2_size v_sheets3_bits v_sheets3_size x1 r18 k18 hg) mvX4_sheetLack k_549 ⟨rfl, rfl⟩ ⟨Nat.le_of_ble_eq_true rfl, Nat.le_of_ble_eq_true rfl⟩ rfl rfl rfl rfl (Nat.le_of_ble_eq_true rfl) dX4_book_2 ⟨Nat.le_of_ble_eq_true rfl, Nat.le_of_ble_eq_true rfl⟩) (fun H locs h => ?_)
  refine lv_istore_n (lv' := [(2, .int r18), (0, .ref a_t), (1, .int x1)]) hx hb dX4_book_5 rfl hl (by decide) rfl (fun ls hl => ?_)
  refine lv_iload_n hx hb dX4_book_6 rfl (lv_at hl 0 rfl) ?_
  refine lv_if_eq (tgt := 16) hx hb dX4_book_7 (by decide) (fun c19 => ?_) (fun c19 => ?_)
  · have hf := it_t c19 hf
    refine lv_aload_n hx hb dX4_book_16 rfl (lv_at hl 1 rfl) ?_
    refine q_get (v := .ref a_party) fx inX4 h 0 rfl rfl 0 (by decide) k_174 rfl dX4_book_17 ?_
    refine q_getN (v := .int v_party_list) fx inX0 h 1 rfl rfl 1 (by decide) nf_3 rfl dX4_book_20 ?_
    refine lv_istore_n (lv' := [(3, .int v_party_list), (2, .int r18), (0, .ref a_t), (1, .int x1)]) hx hb dX4_book_23 rfl hl (by decide) rfl (fun ls hl => ?_)
    refine lv_iconst (v := 0) hx hb dX4_book_24 (by decide) ?_
    refine lv_istore (lv' := [(4, .int 0), (3, .int v_party_list), (2, .int r18), (0, .ref a_t), (1, .int x1)]) hx hb dX4_book_25 hl (by decide) rfl (fun ls hl => ?_)
    exact EX4_book_27 fx qF h (lv_sub hl [3, 4, 1, 0] rfl) hf
  have hf := it_f c19 hf
  refine lv_aload_n hx hb dX4_book_10 rfl (lv_at hl 1 rfl) ?_
  refine lv_iload_n hx hb dX4_book_11 rfl (lv_at hl 0 rfl) ?_
  obtain ⟨r20, k20, hg, hf⟩ := bR_inv hf
  refine q_ci (rest := []) (ws' := (wX4_book cI cJ cZ cS a_t a_party a_party_kinds a_party_costs a_party_terms a_party_known a_kept a_tape a_telephone a_sheets a_sheets0 a_sheets0_numbers a_sheets1 a_sheets1_numbers a_sheets2 a_sheets2_numbers a_sheets3 a_sheets3_numbers a_findings v_isKept v_party_size v_party_list v_party_told v_party_kinds v_party_terms v_party_known v_sheets0_bits v_sheets0_size v_sheets0_numbers v_sheets1_bits v_sheets1_size v_sheets1_numbers v_sheets2_bits v_sheets2_size v_sheets2_numbers v_sheets3_bits v_sheets3_size v_sheets3_numbers k20)) (w1 := (wX4_found cI cJ cZ cS a_t a_party a_kept a_tape a_telephone a_sheets a_findings v_isKept k20)) fx h [0, 14] rfl rfl rfl rfl (q_runV fx h hl.1 [0, 14] rfl rfl (tX4_found l D cI cJ cZ cS tb a_t a_party a_kept a_tape a_telephone a_sheets a_findings H.size v_isKept v_findings r18 r20 k20 hg) mvX4_found k_207 ⟨rfl, rfl⟩ ⟨Nat.le_of_ble_eq_true rfl, Nat.le_of_ble_eq_true rfl⟩ rfl rfl rfl rfl (Nat.le_of_ble_eq_true rfl) dX4_book_12 ⟨Nat.le_of_ble_eq_true rfl, Nat.le_of_ble_eq_true rfl⟩) (fun H locs h => ?_)
  exact q_reti (fun k : (Nat → Int32) × (Nat → Int64) × (Nat → Int64) × (Nat → Int64) × (Nat → Int64) × (Nat → Int32) => (wX4_book cI cJ cZ cS a_t a_party a_party_kinds a_party_costs a_party_terms a_party_known a_kept a_tape a_telephone a_sheets a_sheets0 a_sheets0_numbers a_sheets1 a_sheets1_numbers a_sheets2 a_sheets2_numbers a_sheets3 a_sheets3_numbers a_findings v_isKept v_party_size v_party_list v_party_told v_party_kinds v_party_terms k.1 v_sheets0_bits v_sheets0_size k.2.1 v_sheets1_bits v_sheets1_size k.2.2.1 v_sheets2_bits v_sheets2_size k.2.2.2.1 v_sheets3_bits v_sheets3_size k.2.2.2.2.1 k.2.2.2.2.2)) fx hf h dX4_book_15
/-! X1_bitsAt -/
abbrev wX1_bitsAt (cI cJ cZ cS : ClassId) (a_t a_numbers : Nat) (v_bits : Int32) (v_size : Int32) (v_numbers : Nat → Int64) : va_W := [(a_t, .inr (1, [.int v_bits, .int v_size, .ref a_numbers])), (a_numbers, .inl (cJ, 40, .inr (.inl v_numbers)))]
abbrev rX1_bitsAt : Room := { frames := 0, cells := 0, slots := 0, locals := 0 }
def fX1_bitsAt (v_bits : Int32) (v_numbers : Nat → Int64) (x1 : Int32) : Option (Int64 × Unit) :=
  (if v_bits = 8 then (
  gIn x1 40 (
  some ((v_numbers x1.toNatClampNeg) &&& 255, ())))
  else (
  (if v_bits = 16 then (
  gIn x1 40 (
  some ((v_numbers x1.toNatClampNeg) &&& 65535, ())))
  else (
  gIn x1 40 (
  some (v_numbers x1.toNatClampNeg, ()))))))
set_option maxRecDepth 100000 in
set_option maxHeartbeats 4000000 in
theorem tX1_bitsAt (l : Launch) (D : va_G) (cI cJ cZ cS : ClassId) (tb : Nat) (a_t a_numbers : Nat) (sz : Nat) (v_bits : Int32) (v_size : Int32) (v_numbers : Nat → Int64) (x1 : Int32) (rr : Int64) (kk' : Unit) (hf : fX1_bitsAt v_bits v_numbers x1 = some (rr, kk')) : Met l yX1_bitsAt (Cond.code yX1_bitsAt cX1_bitsAt 2 (some .long) :: wA) rX1_bitsAt (q_Pre D cI cJ cZ cS tb [.ref a_t, .int x1] sz (wX1_bitsAt cI cJ cZ cS a_t a_numbers v_bits v_size v_numbers)) (q_Rl D rr (va_A (wX1_bitsAt cI cJ cZ cS a_t a_numbers v_bits v_size v_numbers) sz) ((fun k : Unit => (wX1_bitsAt cI cJ cZ cS a_t a_numbers v_bits v_size v_numbers)) kk')) 0 0 (va_A (wX1_bitsAt cI cJ cZ cS a_t a_numbers v_bits v_size v_numbers) sz) := by
  refine q_enter (Qf := fun A => (q_Rl D rr A ((fun k : Unit => (wX1_bitsAt cI cJ cZ cS a_t a_numbers v_bits v_size v_numbers)) kk'))) (by decide) rfl (Nat.le_of_ble_eq_true rfl) ?_
  intro p e s m below meth c A ls fx hname h hl
  have hx := fx.1
  have hb := fx.2.1
  have hl : lv_has ls 2 [(0, .ref a_t), (1, .int x1)] := hl
  generalize h9 : s.heap = H at h ⊢
  clear h9
  generalize h9 : ([] : List Loc) = locs at h ⊢
  clear h9
  unfold fX1_bitsAt at hf
  refine lv_aload_n hx hb dX1_bitsAt_0 rfl (lv_at hl 0 rfl) ?_
  refine q_get (v := .int v_bits) fx inX1 h 0 rfl rfl 0 (by decide) k_161 rfl dX1_bitsAt_1 ?_
  refine lv_bipush (v := 8) hx hb dX1_bitsAt_4 (by decide) ?_
  refine lv_icmp_ne (tgt := 22) hx hb dX1_bitsAt_6 (by decide) (fun c1 => ?_) (fun c1 => ?_)
  · have hf := it_f c1 hf
    refine lv_aload_n hx hb dX1_bitsAt_22 rfl (lv_at hl 0 rfl) ?_
    refine q_get (v := .int v_bits) fx inX1 h 0 rfl rfl 0 (by decide) k_161 rfl dX1_bitsAt_23 ?_
    refine lv_bipush (v := 16) hx hb dX1_bitsAt_26 (by decide) ?_
    refine lv_icmp_ne (tgt := 44) hx hb dX1_bitsAt_28 (by decide) (fun c2 => ?_) (fun c2 => ?_)
    · have hf := it_f c2 hf
      refine lv_aload_n hx hb dX1_bitsAt_44 rfl (lv_at hl 0 rfl) ?_
      refine q_get (v := .ref a_numbers) fx inX1 h 0 rfl rfl 2 (by decide) k_165 rfl dX1_bitsAt_45 ?_
      refine lv_iload_n hx hb dX1_bitsAt_48 rfl (lv_at hl 1 rfl) ?_
      obtain ⟨i3, hf⟩ := gIn_inv hf
      refine q_lald fx h 1 rfl i3 dX1_bitsAt_49 ?_
      exact q_retl (fun k : Unit => (wX1_bitsAt cI cJ cZ cS a_t a_numbers v_bits v_size v_numbers)) fx hf h dX1_bitsAt_50
    have hf := it_t c2 hf
    refine lv_aload_n hx hb dX1_bitsAt_31 rfl (lv_at hl 0 rfl) ?_
    refine q_get (v := .ref a_numbers) fx inX1 h 0 rfl rfl 2 (by decide) k_165 rfl dX1_bitsAt_32 ?_
    refine lv_iload_n hx hb dX1_bitsAt_35 rfl (lv_at hl 1 rfl) ?_
    obtain ⟨i4, hf⟩ := gIn_inv hf
    refine q_lald fx h 1 rfl i4 dX1_bitsAt_36 ?_
    refine q_ldc2 fx k_594 dX1_bitsAt_37 ?_
    refine lv_land hx hb dX1_bitsAt_40 ?_
    refine lv_goto (tgt := 50) hx hb dX1_bitsAt_41 (by decide) ?_
    exact q_retl (fun k : Unit => (wX1_bitsAt cI cJ cZ cS a_t a_numbers v_bits v_size v_numbers)) fx hf h dX1_bitsAt_50
  have hf := it_t c1 hf
  refine lv_aload_n hx hb dX1_bitsAt_9 rfl (lv_at hl 0 rfl) ?_
  refine q_get (v := .ref a_numbers) fx inX1 h 0 rfl rfl 2 (by decide) k_165 rfl dX1_bitsAt_10 ?_
  refine lv_iload_n hx hb dX1_bitsAt_13 rfl (lv_at hl 1 rfl) ?_
  obtain ⟨i5, hf⟩ := gIn_inv hf
  refine q_lald fx h 1 rfl i5 dX1_bitsAt_14 ?_
  refine q_ldc2 fx k_593 dX1_bitsAt_15 ?_
  refine lv_land hx hb dX1_bitsAt_18 ?_
  refine lv_goto (tgt := 50) hx hb dX1_bitsAt_19 (by decide) ?_
  exact q_retl (fun k : Unit => (wX1_bitsAt cI cJ cZ cS a_t a_numbers v_bits v_size v_numbers)) fx hf h dX1_bitsAt_50
/-! X1_holdsOnly -/
abbrev wX1_holdsOnly (cI cJ cZ cS : ClassId) (a_t a_numbers : Nat) (v_bits : Int32) (v_size : Int32) (v_numbers : Nat → Int64) : va_W := [(a_t, .inr (1, [.int v_bits, .int v_size, .ref a_numbers])), (a_numbers, .inl (cJ, 40, .inr (.inl v_numbers)))]
abbrev rX1_holdsOnly : Room := { frames := 1, cells := 0, slots := 0, locals := 21 }
def fX1_holdsOnly_2 (v_bits : Int32) (v_size : Int32) (v_numbers : Nat → Int64) (ag2 : Int32 → Int32 → Option (Int32 × Unit)) (y1 : Int32) (y2 : Int32) : Option (Int32 × Unit) :=
  (if v_size ≤ y2 then (
  some (1, ()))
  else (
  bR (fX1_bitsAt v_bits v_numbers y2) (fun r2 k2 =>
  (if (lg_cmp (r2 &&& ((y1.toInt64) ^^^ (-1))) 0) = 0 then (
  nm (y2 + 1) (fun u4 =>
  ag2 y1 u4))
  else (
  some (0, ()))))))
set_option maxRecDepth 100000 in
set_option maxHeartbeats 4000000 in
theorem LX1_holdsOnly_2 {p : Program} {l : Launch} {e : Env} {s : State} {m : MethodId} {args : Array Value} {below : List Frame} {meth : Method} {c : Code} {D : va_G} {cI cJ cZ cS : ClassId} {tb : Nat} {A : Nat → Prop} {a_t a_numbers : Nat} {v_bits : Int32} {v_size : Int32} {v_numbers : Nat → Int64} {rr : Int32} {kk' : Unit} (fx : q_Fx p s m args meth c cX1_holdsOnly 3 RX1 (some .boolean) D cI cJ cZ cS tb A) {ag2 : Int32 → Int32 → Option (Int32 × Unit)} (hag2 : ∀ {y1 : Int32} {y2 : Int32} {H : Heap} {locs : List Loc} {ls : Array Slot}, q_H D A s (wX1_holdsOnly cI cJ cZ cS a_t a_numbers v_bits v_size v_numbers) H locs → lv_has ls 3 [(0, .ref a_t), (1, .int y1), (2, .int y2)] → ag2 y1 y2 = some (rr, kk') → W p l e rX1_holdsOnly s m args below meth c H locs 0 0 (MQ below (q_Ri D rr A ((fun k : Unit => (wX1_holdsOnly cI cJ cZ cS a_t a_numbers v_bits v_size v_numbers)) kk')) args s 0 0 A) (F0 m 2 ls [])) : ∀ {y1 : Int32} {y2 : Int32} {H : Heap} {locs : List Loc} {ls : Array Slot}, q_H D A s (wX1_holdsOnly cI cJ cZ cS a_t a_numbers v_bits v_size v_numbers) H locs → lv_has ls 3 [(0, .ref a_t), (1, .int y1), (2, .int y2)] → fX1_holdsOnly_2 v_bits v_size v_numbers ag2 y1 y2 = some (rr, kk') → W p l e rX1_holdsOnly s m args below meth c H locs 0 0 (MQ below (q_Ri D rr A ((fun k : Unit => (wX1_holdsOnly cI cJ cZ cS a_t a_numbers v_bits v_size v_numbers)) kk')) args s 0 0 A) (F0 m 2 ls []) := by
  intro y1 y2 H locs ls h hl hf
  have hx := fx.1
  have hb := fx.2.1
  unfold fX1_holdsOnly_2 at hf
  refine lv_iload_n hx hb dX1_holdsOnly_2 rfl (lv_at hl 2 rfl) ?_
  refine lv_aload_n hx hb dX1_holdsOnly_3 rfl (lv_at hl 0 rfl) ?_
  refine q_get (v := .int v_size) fx inX1 h 0 rfl rfl 1 (by decide) k_163 rfl dX1_holdsOnly_4 ?_
  refine lv_icmp_ge (tgt := 35) hx hb dX1_holdsOnly_7 (by decide) (fun c1 => ?_) (fun c1 => ?_)
  · have hf := it_t c1 hf
    refine lv_iconst (v := 1) hx hb dX1_holdsOnly_35 (by decide) ?_
    exact q_retz (fun k : Unit => (wX1_holdsOnly cI cJ cZ cS a_t a_numbers v_bits v_size v_numbers)) fx rfl hf h dX1_holdsOnly_36
  have hf := it_f c1 hf
  refine lv_aload_n hx hb dX1_holdsOnly_10 rfl (lv_at hl 0 rfl) ?_
  refine lv_iload_n hx hb dX1_holdsOnly_11 rfl (lv_at hl 2 rfl) ?_
  obtain ⟨r2, k2, hg, hf⟩ := bR_inv hf
  refine q_cl (rest := []) (ws' := (wX1_holdsOnly cI cJ cZ cS a_t a_numbers v_bits v_size v_numbers)) (w1 := (wX1_bitsAt cI cJ cZ cS a_t a_numbers v_bits v_size v_numbers)) fx h [0, 1] rfl rfl rfl rfl (q_runV fx h hl.1 [0, 1] rfl rfl (tX1_bitsAt l D cI cJ cZ cS tb a_t a_numbers H.size v_bits v_size v_numbers y2 r2 k2 hg) mvX1_bitsAt k_589 ⟨rfl, rfl⟩ ⟨Nat.le_of_ble_eq_true rfl, Nat.le_of_ble_eq_true rfl⟩ rfl rfl rfl rfl (Nat.le_of_ble_eq_true rfl) dX1_holdsOnly_12 ⟨Nat.le_of_ble_eq_true rfl, Nat.le_of_ble_eq_true rfl⟩) (fun H locs h => ?_)
  refine lv_iload_n hx hb dX1_holdsOnly_15 rfl (lv_at hl 1 rfl) ?_
  refine lv_i2l hx hb dX1_holdsOnly_16 rfl ?_
  refine q_ldc2 fx k_595 dX1_holdsOnly_17 ?_
  refine lv_lxor hx hb dX1_holdsOnly_20 ?_
  refine lv_land hx hb dX1_holdsOnly_21 ?_
  refine lv_lconst (v := 0) hx hb dX1_holdsOnly_22 (by decide) ?_
  refine W.lcmp hx hb dX1_holdsOnly_23 ?_
  refine lv_if_eq (tgt := 29) hx hb dX1_holdsOnly_24 (by decide) (fun c3 => ?_) (fun c3 => ?_)
  · have hf := it_t c3 hf
    obtain ⟨u4, eu4, hf⟩ := nm_inv hf
    refine lv_iinc (v := u4) (lv' := [(2, .int u4), (0, .ref a_t), (1, .int y1)]) hx hb dX1_holdsOnly_29 hl (k := 2) rfl (by rw [eu4]; rfl) (by decide) rfl (fun ls hl => ?_)
    refine lv_goto (tgt := 2) hx hb dX1_holdsOnly_32 (by decide) ?_
    exact hag2 h (lv_sub hl [1, 2, 0] rfl) hf
  have hf := it_f c3 hf
  refine lv_iconst (v := 0) hx hb dX1_holdsOnly_27 (by decide) ?_
  exact q_retz (fun k : Unit => (wX1_holdsOnly cI cJ cZ cS a_t a_numbers v_bits v_size v_numbers)) fx rfl hf h dX1_holdsOnly_28
set_option maxRecDepth 100000 in
theorem EX1_holdsOnly_2 {p : Program} {l : Launch} {e : Env} {s : State} {m : MethodId} {args : Array Value} {below : List Frame} {meth : Method} {c : Code} {D : va_G} {cI cJ cZ cS : ClassId} {tb : Nat} {A : Nat → Prop} {a_t a_numbers : Nat} {v_bits : Int32} {v_size : Int32} {v_numbers : Nat → Int64} {rr : Int32} {kk' : Unit} (fx : q_Fx p s m args meth c cX1_holdsOnly 3 RX1 (some .boolean) D cI cJ cZ cS tb A) : ∀ (n : Nat), ∀ {y1 : Int32} {y2 : Int32} {H : Heap} {locs : List Loc} {ls : Array Slot}, q_H D A s (wX1_holdsOnly cI cJ cZ cS a_t a_numbers v_bits v_size v_numbers) H locs → lv_has ls 3 [(0, .ref a_t), (1, .int y1), (2, .int y2)] → ll2 (fX1_holdsOnly_2 v_bits v_size v_numbers) n y1 y2 = some (rr, kk') → W p l e rX1_holdsOnly s m args below meth c H locs 0 0 (MQ below (q_Ri D rr A ((fun k : Unit => (wX1_holdsOnly cI cJ cZ cS a_t a_numbers v_bits v_size v_numbers)) kk')) args s 0 0 A) (F0 m 2 ls []) := by
  intro n
  induction n with
  | zero => intro y1 y2 H locs ls h hl hf; exact (ll2_z hf).elim
  | succ n ih => intro y1 y2 H locs ls h hl hf; exact LX1_holdsOnly_2 fx ih h hl (ll2_s hf)
def fX1_holdsOnly (v_bits : Int32) (v_size : Int32) (v_numbers : Nat → Int64) (x1 : Int32) : Option (Int32 × Unit) :=
  ll2 (fX1_holdsOnly_2 v_bits v_size v_numbers) qF x1 0
set_option maxRecDepth 100000 in
set_option maxHeartbeats 4000000 in
theorem tX1_holdsOnly (l : Launch) (D : va_G) (cI cJ cZ cS : ClassId) (tb : Nat) (a_t a_numbers : Nat) (sz : Nat) (v_bits : Int32) (v_size : Int32) (v_numbers : Nat → Int64) (x1 : Int32) (rr : Int32) (kk' : Unit) (hf : fX1_holdsOnly v_bits v_size v_numbers x1 = some (rr, kk')) : Met l yX1_holdsOnly (Cond.code yX1_holdsOnly cX1_holdsOnly 3 (some .boolean) :: wA) rX1_holdsOnly (q_Pre D cI cJ cZ cS tb [.ref a_t, .int x1] sz (wX1_holdsOnly cI cJ cZ cS a_t a_numbers v_bits v_size v_numbers)) (q_Ri D rr (va_A (wX1_holdsOnly cI cJ cZ cS a_t a_numbers v_bits v_size v_numbers) sz) ((fun k : Unit => (wX1_holdsOnly cI cJ cZ cS a_t a_numbers v_bits v_size v_numbers)) kk')) 0 0 (va_A (wX1_holdsOnly cI cJ cZ cS a_t a_numbers v_bits v_size v_numbers) sz) := by
  refine q_enter (Qf := fun A => (q_Ri D rr A ((fun k : Unit => (wX1_holdsOnly cI cJ cZ cS a_t a_numbers v_bits v_size v_numbers)) kk'))) (by decide) rfl (Nat.le_of_ble_eq_true rfl) ?_
  intro p e s m below meth c A ls fx hname h hl
  have hx := fx.1
  have hb := fx.2.1
  have hl : lv_has ls 3 [(0, .ref a_t), (1, .int x1)] := hl
  generalize h9 : s.heap = H at h ⊢
  clear h9
  generalize h9 : ([] : List Loc) = locs at h ⊢
  clear h9
  unfold fX1_holdsOnly at hf
  refine lv_iconst (v := 0) hx hb dX1_holdsOnly_0 (by decide) ?_
  refine lv_istore_n (lv' := [(2, .int 0), (0, .ref a_t), (1, .int x1)]) hx hb dX1_holdsOnly_1 rfl hl (by decide) rfl (fun ls hl => ?_)
  exact EX1_holdsOnly_2 fx qF h (lv_sub hl [1, 2, 0] rfl) hf
/-! X1_listAt -/
abbrev wX1_listAt (cI cJ cZ cS : ClassId) (a_t a_numbers : Nat) (v_bits : Int32) (v_size : Int32) (v_numbers : Nat → Int64) : va_W := [(a_t, .inr (1, [.int v_bits, .int v_size, .ref a_numbers])), (a_numbers, .inl (cJ, 40, .inr (.inl v_numbers)))]
abbrev rX1_listAt : Room := { frames := 1, cells := 0, slots := 0, locals := 21 }
def fX1_listAt (v_bits : Int32) (v_numbers : Nat → Int64) (x1 : Int32) : Option (Int32 × Unit) :=
  bR (fX1_bitsAt v_bits v_numbers x1) (fun r1 k1 =>
  some ((r1.toInt32) &&& 255, ()))
set_option maxRecDepth 100000 in
set_option maxHeartbeats 4000000 in
theorem tX1_listAt (l : Launch) (D : va_G) (cI cJ cZ cS : ClassId) (tb : Nat) (a_t a_numbers : Nat) (sz : Nat) (v_bits : Int32) (v_size : Int32) (v_numbers : Nat → Int64) (x1 : Int32) (rr : Int32) (kk' : Unit) (hf : fX1_listAt v_bits v_numbers x1 = some (rr, kk')) : Met l yX1_listAt (Cond.code yX1_listAt cX1_listAt 2 (some .int) :: wA) rX1_listAt (q_Pre D cI cJ cZ cS tb [.ref a_t, .int x1] sz (wX1_listAt cI cJ cZ cS a_t a_numbers v_bits v_size v_numbers)) (q_Ri D rr (va_A (wX1_listAt cI cJ cZ cS a_t a_numbers v_bits v_size v_numbers) sz) ((fun k : Unit => (wX1_listAt cI cJ cZ cS a_t a_numbers v_bits v_size v_numbers)) kk')) 0 0 (va_A (wX1_listAt cI cJ cZ cS a_t a_numbers v_bits v_size v_numbers) sz) := by
  refine q_enter (Qf := fun A => (q_Ri D rr A ((fun k : Unit => (wX1_listAt cI cJ cZ cS a_t a_numbers v_bits v_size v_numbers)) kk'))) (by decide) rfl (Nat.le_of_ble_eq_true rfl) ?_
  intro p e s m below meth c A ls fx hname h hl
  have hx := fx.1
  have hb := fx.2.1
  have hl : lv_has ls 2 [(0, .ref a_t), (1, .int x1)] := hl
  generalize h9 : s.heap = H at h ⊢
  clear h9
  generalize h9 : ([] : List Loc) = locs at h ⊢
  clear h9
  unfold fX1_listAt at hf
  refine lv_aload_n hx hb dX1_listAt_0 rfl (lv_at hl 0 rfl) ?_
  refine lv_iload_n hx hb dX1_listAt_1 rfl (lv_at hl 1 rfl) ?_
  obtain ⟨r1, k1, hg, hf⟩ := bR_inv hf
  refine q_cl (rest := []) (ws' := (wX1_listAt cI cJ cZ cS a_t a_numbers v_bits v_size v_numbers)) (w1 := (wX1_bitsAt cI cJ cZ cS a_t a_numbers v_bits v_size v_numbers)) fx h [0, 1] rfl rfl rfl rfl (q_runV fx h hl.1 [0, 1] rfl rfl (tX1_bitsAt l D cI cJ cZ cS tb a_t a_numbers H.size v_bits v_size v_numbers x1 r1 k1 hg) mvX1_bitsAt k_589 ⟨rfl, rfl⟩ ⟨Nat.le_of_ble_eq_true rfl, Nat.le_of_ble_eq_true rfl⟩ rfl rfl rfl rfl (Nat.le_of_ble_eq_true rfl) dX1_listAt_2 ⟨Nat.le_of_ble_eq_true rfl, Nat.le_of_ble_eq_true rfl⟩) (fun H locs h => ?_)
  refine lv_l2i hx hb dX1_listAt_5 rfl ?_
  refine lv_sipush (v := 255) hx hb dX1_listAt_6 (by decide) ?_
  refine lv_iand hx hb dX1_listAt_9 ?_
  exact q_reti (fun k : Unit => (wX1_listAt cI cJ cZ cS a_t a_numbers v_bits v_size v_numbers)) fx hf h dX1_listAt_10
/-! X4_explains -/
abbrev wX4_explains (cI cJ cZ cS : ClassId) (a_t a_party a_party_kinds a_party_costs a_party_terms a_party_known a_kept a_tape a_telephone a_sheets a_findings a_p1 a_p1_numbers : Nat) (v_isKept : Int32) (v_party_size : Int32) (v_party_list : Int32) (v_party_told : Int32) (v_party_kinds : Nat → Int32) (v_party_terms : Nat → Int64) (v_party_known : Nat → Int32) (v_p1_bits : Int32) (v_p1_size : Int32) (v_p1_numbers : Nat → Int64) : va_W := [(a_t, .inr (4, [.ref a_party, .ref a_kept, .int v_isKept, .ref a_tape, .ref a_telephone, .ref a_sheets, .ref a_findings])), (a_party, .inr (0, [.int v_party_size, .int v_party_list, .int v_party_told, .ref a_party_kinds, .ref a_party_costs, .ref a_party_terms, .ref a_party_known])), (a_party_kinds, .inl (cI, 8, .inl v_party_kinds)), (a_party_terms, .inl (cJ, 32, .inr (.inl v_party_terms))), (a_party_known, .inl (cI, 256, .inl v_party_known)), (a_p1, .inr (1, [.int v_p1_bits, .int v_p1_size, .ref a_p1_numbers])), (a_p1_numbers, .inl (cJ, 40, .inr (.inl v_p1_numbers)))]
abbrev rX4_explains : Room := { frames := 5, cells := 0, slots := 0, locals := 114 }
def fX4_explains_3 (v_party_size : Int32) (v_party_kinds : Nat → Int32) (v_party_terms : Nat → Int64) (v_p1_bits : Int32) (v_p1_size : Int32) (v_p1_numbers : Nat → Int64) (ag3 : (Nat → Int32) → Int32 → Int32 → Int32 → Option (Int32 × (Nat → Int32))) (v_party_known : Nat → Int32) (y2 : Int32) (y3 : Int32) (y4 : Int32) : Option (Int32 × (Nat → Int32)) :=
  (if v_p1_size ≤ y4 then (
  some (1, v_party_known))
  else (
  bR (fX1_listAt v_p1_bits v_p1_numbers (y4 - 1)) (fun r2 k2 =>
  bR (fX0_comersAs v_party_size v_party_kinds v_party_terms v_party_known y2 y3 r2) (fun r3 k3 =>
  bR (fX1_listAt v_p1_bits v_p1_numbers y4) (fun r4 k4 =>
  (if r3 = r4 then (
  nm (y4 + 1) (fun u6 =>
  ag3 k3 y2 y3 u6))
  else (
  some (0, k3))))))))
set_option maxRecDepth 100000 in
set_option maxHeartbeats 4000000 in
theorem LX4_explains_3 {p : Program} {l : Launch} {e : Env} {s : State} {m : MethodId} {args : Array Value} {below : List Frame} {meth : Method} {c : Code} {D : va_G} {cI cJ cZ cS : ClassId} {tb : Nat} {A : Nat → Prop} {a_t a_party a_party_kinds a_party_costs a_party_terms a_party_known a_kept a_tape a_telephone a_sheets a_findings a_p1 a_p1_numbers : Nat} {v_isKept : Int32} {v_party_size : Int32} {v_party_list : Int32} {v_party_told : Int32} {v_party_kinds : Nat → Int32} {v_party_terms : Nat → Int64} {v_p1_bits : Int32} {v_p1_size : Int32} {v_p1_numbers : Nat → Int64} {rr : Int32} {kk' : (Nat → Int32)} (fx : q_Fx p s m args meth c cX4_explains 5 RX4 (some .boolean) D cI cJ cZ cS tb A) {ag3 : (Nat → Int32) → Int32 → Int32 → Int32 → Option (Int32 × (Nat → Int32))} (hag3 : ∀ {v_party_known : Nat → Int32} {y2 : Int32} {y3 : Int32} {y4 : Int32} {H : Heap} {locs : List Loc} {ls : Array Slot}, q_H D A s (wX4_explains cI cJ cZ cS a_t a_party a_party_kinds a_party_costs a_party_terms a_party_known a_kept a_tape a_telephone a_sheets a_findings a_p1 a_p1_numbers v_isKept v_party_size v_party_list v_party_told v_party_kinds v_party_terms v_party_known v_p1_bits v_p1_size v_p1_numbers) H locs → lv_has ls 5 [(0, .ref a_t), (1, .ref a_p1), (2, .int y2), (3, .int y3), (4, .int y4)] → ag3 v_party_known y2 y3 y4 = some (rr, kk') → W p l e rX4_explains s m args below meth c H locs 0 0 (MQ below (q_Ri D rr A ((fun k : (Nat → Int32) => (wX4_explains cI cJ cZ cS a_t a_party a_party_kinds a_party_costs a_party_terms a_party_known a_kept a_tape a_telephone a_sheets a_findings a_p1 a_p1_numbers v_isKept v_party_size v_party_list v_party_told v_party_kinds v_party_terms k v_p1_bits v_p1_size v_p1_numbers)) kk')) args s 0 0 A) (F0 m 3 ls [])) : ∀ {v_party_known : Nat → Int32} {y2 : Int32} {y3 : Int32} {y4 : Int32} {H : Heap} {locs : List Loc} {ls : Array Slot}, q_H D A s (wX4_explains cI cJ cZ cS a_t a_party a_party_kinds a_party_costs a_party_terms a_party_known a_kept a_tape a_telephone a_sheets a_findings a_p1 a_p1_numbers v_isKept v_party_size v_party_list v_party_told v_party_kinds v_party_terms v_party_known v_p1_bits v_p1_size v_p1_numbers) H locs → lv_has ls 5 [(0, .ref a_t), (1, .ref a_p1), (2, .int y2), (3, .int y3), (4, .int y4)] → fX4_explains_3 v_party_size v_party_kinds v_party_terms v_p1_bits v_p1_size v_p1_numbers ag3 v_party_known y2 y3 y4 = some (rr, kk') → W p l e rX4_explains s m args below meth c H locs 0 0 (MQ below (q_Ri D rr A ((fun k : (Nat → Int32) => (wX4_explains cI cJ cZ cS a_t a_party a_party_kinds a_party_costs a_party_terms a_party_known a_kept a_tape a_telephone a_sheets a_findings a_p1 a_p1_numbers v_isKept v_party_size v_party_list v_party_told v_party_kinds v_party_terms k v_p1_bits v_p1_size v_p1_numbers)) kk')) args s 0 0 A) (F0 m 3 ls []) := by
  intro v_party_known y2 y3 y4 H locs ls h hl hf
  have hx := fx.1
  have hb := fx.2.1
  unfold fX4_explains_3 at hf
  refine lv_iload hx hb dX4_explains_3 (lv_at hl 4 rfl) ?_
  refine lv_aload_n hx hb dX4_explains_5 rfl (lv_at hl 1 rfl) ?_
  refine q_getN (v := .int v_p1_size) fx inX1 h 5 rfl rfl 1 (by decide) nf_10 rfl dX4_explains_6 ?_
  refine lv_icmp_ge (tgt := 46) hx hb dX4_explains_9 (by decide) (fun c1 => ?_) (fun c1 => ?_)
  · have hf := it_t c1 hf
    refine lv_iconst (v := 1) hx hb dX4_explains_46 (by decide) ?_
    exact q_retz (fun k : (Nat → Int32) => (wX4_explains cI cJ cZ cS a_t a_party a_party_kinds a_party_costs a_party_terms a_party_known a_kept a_tape a_telephone a_sheets a_findings a_p1 a_p1_numbers v_isKept v_party_size v_party_list v_party_told v_party_kinds v_party_terms k v_p1_bits v_p1_size v_p1_numbers)) fx rfl hf h dX4_explains_47
  have hf := it_f c1 hf
  refine lv_aload_n hx hb dX4_explains_12 rfl (lv_at hl 0 rfl) ?_
  refine q_get (v := .ref a_party) fx inX4 h 0 rfl rfl 0 (by decide) k_174 rfl dX4_explains_13 ?_
  refine lv_iload_n hx hb dX4_explains_16 rfl (lv_at hl 2 rfl) ?_
  refine lv_iload_n hx hb dX4_explains_17 rfl (lv_at hl 3 rfl) ?_
  refine lv_aload_n hx hb dX4_explains_18 rfl (lv_at hl 1 rfl) ?_
  refine lv_iload hx hb dX4_explains_19 (lv_at hl 4 rfl) ?_
  refine lv_iconst (v := 1) hx hb dX4_explains_21 (by decide) ?_
  refine lv_isub hx hb dX4_explains_22 ?_
  obtain ⟨r2, k2, hg, hf⟩ := bR_inv hf
  refine q_ci (rest := [.int y3, .int y2, .ref a_party]) (ws' := (wX4_explains cI cJ cZ cS a_t a_party a_party_kinds a_party_costs a_party_terms a_party_known a_kept a_tape a_telephone a_sheets a_findings a_p1 a_p1_numbers v_isKept v_party_size v_party_list v_party_told v_party_kinds v_party_terms v_party_known v_p1_bits v_p1_size v_p1_numbers)) (w1 := (wX1_listAt cI cJ cZ cS a_p1 a_p1_numbers v_p1_bits v_p1_size v_p1_numbers)) fx h [5, 6] rfl rfl rfl rfl (q_runV fx h hl.1 [5, 6] rfl rfl (tX1_listAt l D cI cJ cZ cS tb a_p1 a_p1_numbers H.size v_p1_bits v_p1_size v_p1_numbers (y4 - 1) r2 k2 hg) mvX1_listAt k_600 ⟨rfl, rfl⟩ ⟨Nat.le_of_ble_eq_true rfl, Nat.le_of_ble_eq_true rfl⟩ rfl rfl rfl rfl (Nat.le_of_ble_eq_true rfl) dX4_explains_23 ⟨Nat.le_of_ble_eq_true rfl, Nat.le_of_ble_eq_true rfl⟩) (fun H locs h => ?_)
  obtain ⟨r3, k3, hg, hf⟩ := bR_inv hf
  refine q_ci (rest := []) (ws' := (wX4_explains cI cJ cZ cS a_t a_party a_party_kinds a_party_costs a_party_terms a_party_known a_kept a_tape a_telephone a_sheets a_findings a_p1 a_p1_numbers v_isKept v_party_size v_party_list v_party_told v_party_kinds v_party_terms k3 v_p1_bits v_p1_size v_p1_numbers)) (w1 := (wX0_comersAs cI cJ cZ cS a_party a_party_kinds a_party_costs a_party_terms a_party_known v_party_size v_party_list v_party_told v_party_kinds v_party_terms k3)) fx h [1, 2, 3, 4] rfl rfl rfl rfl (q_runV fx h hl.1 [1, 2, 3, 4] rfl rfl (tX0_comersAs l D cI cJ cZ cS tb a_party a_party_kinds a_party_costs a_party_terms a_party_known H.size v_party_size v_party_list v_party_told v_party_kinds v_party_terms v_party_known y2 y3 r2 r3 k3 hg) mvX0_comersAs k_604 ⟨rfl, rfl⟩ ⟨Nat.le_of_ble_eq_true rfl, Nat.le_of_ble_eq_true rfl⟩ rfl rfl rfl rfl (Nat.le_of_ble_eq_true rfl) dX4_explains_26 ⟨Nat.le_of_ble_eq_true rfl, Nat.le_of_ble_eq_true rfl⟩) (fun H locs h => ?_)
  refine lv_aload_n hx hb dX4_explains_29 rfl (lv_at hl 1 rfl) ?_
  refine lv_iload hx hb dX4_explains_30 (lv_at hl 4 rfl) ?_
  obtain ⟨r4, k4, hg, hf⟩ := bR_inv hf
  refine q_ci (rest := [.int r3]) (ws' := (wX4_explains cI cJ cZ cS a_t a_party a_party_kinds a_party_costs a_party_terms a_party_known a_kept a_tape a_telephone a_sheets a_findings a_p1 a_p1_numbers v_isKept v_party_size v_party_list v_party_told v_party_kinds v_party_terms k3 v_p1_bits v_p1_size v_p1_numbers)) (w1 := (wX1_listAt cI cJ cZ cS a_p1 a_p1_numbers v_p1_bits v_p1_size v_p1_numbers)) fx h [5, 6] rfl rfl rfl rfl (q_runV fx h hl.1 [5, 6] rfl rfl (tX1_listAt l D cI cJ cZ cS tb a_p1 a_p1_numbers H.size v_p1_bits v_p1_size v_p1_numbers y4 r4 k4 hg) mvX1_listAt k_600 ⟨rfl, rfl⟩ ⟨Nat.le_of_ble_eq_true rfl, Nat.le_of_ble_eq_true rfl⟩ rfl rfl rfl rfl (Nat.le_of_ble_eq_true rfl) dX4_explains_32 ⟨Nat.le_of_ble_eq_true rfl, Nat.le_of_ble_eq_true rfl⟩) (fun H locs h => ?_)
  refine lv_icmp_eq (tgt := 40) hx hb dX4_explains_35 (by decide) (fun c5 => ?_) (fun c5 => ?_)
  · have hf := it_t c5 hf
    obtain ⟨u6, eu6, hf⟩ := nm_inv hf
    refine lv_iinc (v := u6) (lv' := [(4, .int u6), (0, .ref a_t), (1, .ref a_p1), (2, .int y2), (3, .int y3)]) hx hb dX4_explains_40 hl (k := 4) rfl (by rw [eu6]; rfl) (by decide) rfl (fun ls hl => ?_)
    refine lv_goto (tgt := 3) hx hb dX4_explains_43 (by decide) ?_
    exact hag3 h (lv_sub hl [1, 2, 3, 4, 0] rfl) hf
  have hf := it_f c5 hf
  refine lv_iconst (v := 0) hx hb dX4_explains_38 (by decide) ?_
  exact q_retz (fun k : (Nat → Int32) => (wX4_explains cI cJ cZ cS a_t a_party a_party_kinds a_party_costs a_party_terms a_party_known a_kept a_tape a_telephone a_sheets a_findings a_p1 a_p1_numbers v_isKept v_party_size v_party_list v_party_told v_party_kinds v_party_terms k v_p1_bits v_p1_size v_p1_numbers)) fx rfl hf h dX4_explains_39
set_option maxRecDepth 100000 in
theorem EX4_explains_3 {p : Program} {l : Launch} {e : Env} {s : State} {m : MethodId} {args : Array Value} {below : List Frame} {meth : Method} {c : Code} {D : va_G} {cI cJ cZ cS : ClassId} {tb : Nat} {A : Nat → Prop} {a_t a_party a_party_kinds a_party_costs a_party_terms a_party_known a_kept a_tape a_telephone a_sheets a_findings a_p1 a_p1_numbers : Nat} {v_isKept : Int32} {v_party_size : Int32} {v_party_list : Int32} {v_party_told : Int32} {v_party_kinds : Nat → Int32} {v_party_terms : Nat → Int64} {v_p1_bits : Int32} {v_p1_size : Int32} {v_p1_numbers : Nat → Int64} {rr : Int32} {kk' : (Nat → Int32)} (fx : q_Fx p s m args meth c cX4_explains 5 RX4 (some .boolean) D cI cJ cZ cS tb A) : ∀ (n : Nat), ∀ {v_party_known : Nat → Int32} {y2 : Int32} {y3 : Int32} {y4 : Int32} {H : Heap} {locs : List Loc} {ls : Array Slot}, q_H D A s (wX4_explains cI cJ cZ cS a_t a_party a_party_kinds a_party_costs a_party_terms a_party_known a_kept a_tape a_telephone a_sheets a_findings a_p1 a_p1_numbers v_isKept v_party_size v_party_list v_party_told v_party_kinds v_party_terms v_party_known v_p1_bits v_p1_size v_p1_numbers) H locs → lv_has ls 5 [(0, .ref a_t), (1, .ref a_p1), (2, .int y2), (3, .int y3), (4, .int y4)] → ll4 (fX4_explains_3 v_party_size v_party_kinds v_party_terms v_p1_bits v_p1_size v_p1_numbers) n v_party_known y2 y3 y4 = some (rr, kk') → W p l e rX4_explains s m args below meth c H locs 0 0 (MQ below (q_Ri D rr A ((fun k : (Nat → Int32) => (wX4_explains cI cJ cZ cS a_t a_party a_party_kinds a_party_costs a_party_terms a_party_known a_kept a_tape a_telephone a_sheets a_findings a_p1 a_p1_numbers v_isKept v_party_size v_party_list v_party_told v_party_kinds v_party_terms k v_p1_bits v_p1_size v_p1_numbers)) kk')) args s 0 0 A) (F0 m 3 ls []) := by
  intro n
  induction n with
  | zero => intro v_party_known y2 y3 y4 H locs ls h hl hf; exact (ll4_z hf).elim
  | succ n ih => intro v_party_known y2 y3 y4 H locs ls h hl hf; exact LX4_explains_3 fx ih h hl (ll4_s hf)
def fX4_explains (v_party_size : Int32) (v_party_kinds : Nat → Int32) (v_party_terms : Nat → Int64) (v_party_known : Nat → Int32) (v_p1_bits : Int32) (v_p1_size : Int32) (v_p1_numbers : Nat → Int64) (x2 : Int32) (x3 : Int32) : Option (Int32 × (Nat → Int32)) :=
  ll4 (fX4_explains_3 v_party_size v_party_kinds v_party_terms v_p1_bits v_p1_size v_p1_numbers) qF v_party_known x2 x3 1
set_option maxRecDepth 100000 in
set_option maxHeartbeats 4000000 in
theorem tX4_explains (l : Launch) (D : va_G) (cI cJ cZ cS : ClassId) (tb : Nat) (a_t a_party a_party_kinds a_party_costs a_party_terms a_party_known a_kept a_tape a_telephone a_sheets a_findings a_p1 a_p1_numbers : Nat) (sz : Nat) (v_isKept : Int32) (v_party_size : Int32) (v_party_list : Int32) (v_party_told : Int32) (v_party_kinds : Nat → Int32) (v_party_terms : Nat → Int64) (v_party_known : Nat → Int32) (v_p1_bits : Int32) (v_p1_size : Int32) (v_p1_numbers : Nat → Int64) (x2 : Int32) (x3 : Int32) (rr : Int32) (kk' : (Nat → Int32)) (hf : fX4_explains v_party_size v_party_kinds v_party_terms v_party_known v_p1_bits v_p1_size v_p1_numbers x2 x3 = some (rr, kk')) : Met l yX4_explains (Cond.code yX4_explains cX4_explains 5 (some .boolean) :: wA) rX4_explains (q_Pre D cI cJ cZ cS tb [.ref a_t, .ref a_p1, .int x2, .int x3] sz (wX4_explains cI cJ cZ cS a_t a_party a_party_kinds a_party_costs a_party_terms a_party_known a_kept a_tape a_telephone a_sheets a_findings a_p1 a_p1_numbers v_isKept v_party_size v_party_list v_party_told v_party_kinds v_party_terms v_party_known v_p1_bits v_p1_size v_p1_numbers)) (q_Ri D rr (va_A (wX4_explains cI cJ cZ cS a_t a_party a_party_kinds a_party_costs a_party_terms a_party_known a_kept a_tape a_telephone a_sheets a_findings a_p1 a_p1_numbers v_isKept v_party_size v_party_list v_party_told v_party_kinds v_party_terms v_party_known v_p1_bits v_p1_size v_p1_numbers) sz) ((fun k : (Nat → Int32) => (wX4_explains cI cJ cZ cS a_t a_party a_party_kinds a_party_costs a_party_terms a_party_known a_kept a_tape a_telephone a_sheets a_findings a_p1 a_p1_numbers v_isKept v_party_size v_party_list v_party_told v_party_kinds v_party_terms k v_p1_bits v_p1_size v_p1_numbers)) kk')) 0 0 (va_A (wX4_explains cI cJ cZ cS a_t a_party a_party_kinds a_party_costs a_party_terms a_party_known a_kept a_tape a_telephone a_sheets a_findings a_p1 a_p1_numbers v_isKept v_party_size v_party_list v_party_told v_party_kinds v_party_terms v_party_known v_p1_bits v_p1_size v_p1_numbers) sz) := by
  refine q_enter (Qf := fun A => (q_Ri D rr A ((fun k : (Nat → Int32) => (wX4_explains cI cJ cZ cS a_t a_party a_party_kinds a_party_costs a_party_terms a_party_known a_kept a_tape a_telephone a_sheets a_findings a_p1 a_p1_numbers v_isKept v_party_size v_party_list v_party_told v_party_kinds v_party_terms k v_p1_bits v_p1_size v_p1_numbers)) kk'))) (by decide) rfl (Nat.le_of_ble_eq_true rfl) ?_
  intro p e s m below meth c A ls fx hname h hl
  have hx := fx.1
  have hb := fx.2.1
  have hl : lv_has ls 5 [(0, .ref a_t), (1, .ref a_p1), (2, .int x2), (3, .int x3)] := hl
  generalize h9 : s.heap = H at h ⊢
  clear h9
  generalize h9 : ([] : List Loc) = locs at h ⊢
  clear h9
  unfold fX4_explains at hf
  refine lv_iconst (v := 1) hx hb dX4_explains_0 (by decide) ?_
  refine lv_istore (lv' := [(4, .int 1), (0, .ref a_t), (1, .ref a_p1), (2, .int x2), (3, .int x3)]) hx hb dX4_explains_1 hl (by decide) rfl (fun ls hl => ?_)
  exact EX4_explains_3 fx qF h (lv_sub hl [1, 2, 3, 4, 0] rfl) hf
end
section
/-! X4_read -/
abbrev wX4_read (cI cJ cZ cS : ClassId) (a_t a_party a_party_kinds a_party_costs a_party_terms a_party_known a_kept a_tape a_telephone a_sheets a_sheets0 a_sheets0_numbers a_sheets1 a_sheets1_numbers a_sheets2 a_sheets2_numbers a_sheets3 a_sheets3_numbers a_findings : Nat) (v_isKept : Int32) (v_party_size : Int32) (v_party_list : Int32) (v_party_told : Int32) (v_party_kinds : Nat → Int32) (v_party_terms : Nat → Int64) (v_party_known : Nat → Int32) (v_sheets0_bits : Int32) (v_sheets0_size : Int32) (v_sheets0_numbers : Nat → Int64) (v_sheets1_bits : Int32) (v_sheets1_size : Int32) (v_sheets1_numbers : Nat → Int64) (v_sheets2_bits : Int32) (v_sheets2_size : Int32) (v_sheets2_numbers : Nat → Int64) (v_sheets3_bits : Int32) (v_sheets3_size : Int32) (v_sheets3_numbers : Nat → Int64) (v_findings : Nat → Int32) : va_W := [(a_t, .inr (4, [.ref a_party, .ref a_kept, .int v_isKept, .ref a_tape, .ref a_telephone, .ref a_sheets, .ref a_findings])), (a_party, .inr (0, [.int v_party_size, .int v_party_list, .int v_party_told, .ref a_party_kinds, .ref a_party_costs, .ref a_party_terms, .ref a_party_known])), (a_party_kinds, .inl (cI, 8, .inl v_party_kinds)), (a_party_terms, .inl (cJ, 32, .inr (.inl v_party_terms))), (a_party_known, .inl (cI, 256, .inl v_party_known)), (a_sheets, .inl (cS, 4, .inr (.inr (.inr (.inr (q_sh a_sheets0 a_sheets1 a_sheets2 a_sheets3)))))), (a_sheets0, .inr (1, [.int v_sheets0_bits, .int v_sheets0_size, .ref a_sheets0_numbers])), (a_sheets0_numbers, .inl (cJ, 40, .inr (.inl v_sheets0_numbers))), (a_sheets1, .inr (1, [.int v_sheets1_bits, .int v_sheets1_size, .ref a_sheets1_numbers])), (a_sheets1_numbers, .inl (cJ, 40, .inr (.inl v_sheets1_numbers))), (a_sheets2, .inr (1, [.int v_sheets2_bits, .int v_sheets2_size, .ref a_sheets2_numbers])), (a_sheets2_numbers, .inl (cJ, 40, .inr (.inl v_sheets2_numbers))), (a_sheets3, .inr (1, [.int v_sheets3_bits, .int v_sheets3_size, .ref a_sheets3_numbers])), (a_sheets3_numbers, .inl (cJ, 40, .inr (.inl v_sheets3_numbers))), (a_findings, .inl (cI, 7, .inl v_findings))]
abbrev rX4_read : Room := { frames := 6, cells := 0, slots := 0, locals := 138 }
def fX4_read_57 (v_party_size : Int32) (v_party_kinds : Nat → Int32) (v_party_terms : Nat → Int64) (v_sheets0_bits : Int32) (v_sheets0_size : Int32) (v_sheets0_numbers : Nat → Int64) (v_sheets1_bits : Int32) (v_sheets1_size : Int32) (v_sheets1_numbers : Nat → Int64) (v_sheets2_bits : Int32) (v_sheets2_size : Int32) (v_sheets2_numbers : Nat → Int64) (v_sheets3_bits : Int32) (v_sheets3_size : Int32) (v_sheets3_numbers : Nat → Int64) (ag42 : (Nat → Int32) → (Nat → Int32) → Int32 → Int32 → Int32 → Option (Int32 × (Nat → Int32) × (Nat → Int32))) (ag57 : (Nat → Int32) → (Nat → Int32) → Int32 → Int32 → Int32 → Int32 → Option (Int32 × (Nat → Int32) × (Nat → Int32))) (v_party_known : Nat → Int32) (v_findings : Nat → Int32) (y1 : Int32) (y3 : Int32) (y4 : Int32) (y5 : Int32) : Option (Int32 × (Nat → Int32) × (Nat → Int32)) :=
  (if (6 : Int32) ≤ y5 then (
  nm (y4 + 1) (fun u2 =>
  ag42 v_party_known v_findings y1 y3 u2))
  else (
  sel4 y1 (
  bR (fX4_explains v_party_size v_party_kinds v_party_terms v_party_known v_sheets0_bits v_sheets0_size v_sheets0_numbers y4 y5) (fun r4 k4 =>
  bR (fX4_oneIf r4) (fun r5 k5 =>
  nm (y3 + r5) (fun u6 =>
  nm (y5 + 1) (fun u7 =>
  ag57 k4 v_findings y1 u6 y4 u7)))))
  (bR (fX4_explains v_party_size v_party_kinds v_party_terms v_party_known v_sheets1_bits v_sheets1_size v_sheets1_numbers y4 y5) (fun r8 k8 =>
  bR (fX4_oneIf r8) (fun r9 k9 =>
  nm (y3 + r9) (fun u10 =>
  nm (y5 + 1) (fun u11 =>
  ag57 k8 v_findings y1 u10 y4 u11)))))
  (bR (fX4_explains v_party_size v_party_kinds v_party_terms v_party_known v_sheets2_bits v_sheets2_size v_sheets2_numbers y4 y5) (fun r12 k12 =>
  bR (fX4_oneIf r12) (fun r13 k13 =>
  nm (y3 + r13) (fun u14 =>
  nm (y5 + 1) (fun u15 =>
  ag57 k12 v_findings y1 u14 y4 u15)))))
  (bR (fX4_explains v_party_size v_party_kinds v_party_terms v_party_known v_sheets3_bits v_sheets3_size v_sheets3_numbers y4 y5) (fun r16 k16 =>
  bR (fX4_oneIf r16) (fun r17 k17 =>
  nm (y3 + r17) (fun u18 =>
  nm (y5 + 1) (fun u19 =>
  ag57 k16 v_findings y1 u18 y4 u19)))))))
set_option maxRecDepth 100000 in
set_option maxHeartbeats 4000000 in
theorem LX4_read_57 {p : Program} {l : Launch} {e : Env} {s : State} {m : MethodId} {args : Array Value} {below : List Frame} {meth : Method} {c : Code} {D : va_G} {cI cJ cZ cS : ClassId} {tb : Nat} {A : Nat → Prop} {a_t a_party a_party_kinds a_party_costs a_party_terms a_party_known a_kept a_tape a_telephone a_sheets a_sheets0 a_sheets0_numbers a_sheets1 a_sheets1_numbers a_sheets2 a_sheets2_numbers a_sheets3 a_sheets3_numbers a_findings : Nat} {v_isKept : Int32} {v_party_size : Int32} {v_party_list : Int32} {v_party_told : Int32} {v_party_kinds : Nat → Int32} {v_party_terms : Nat → Int64} {v_sheets0_bits : Int32} {v_sheets0_size : Int32} {v_sheets0_numbers : Nat → Int64} {v_sheets1_bits : Int32} {v_sheets1_size : Int32} {v_sheets1_numbers : Nat → Int64} {v_sheets2_bits : Int32} {v_sheets2_size : Int32} {v_sheets2_numbers : Nat → Int64} {v_sheets3_bits : Int32} {v_sheets3_size : Int32} {v_sheets3_numbers : Nat → Int64} {rr : Int32} {kk' : (Nat → Int32) × (Nat → Int32)} (fx : q_Fx p s m args meth c cX4_read 6 RX4 (some .int) D cI cJ cZ cS tb A) {ag42 : (Nat → Int32) → (Nat → Int32) → Int32 → Int32 → Int32 → Option (Int32 × (Nat → Int32) × (Nat → Int32))} (hag42 : ∀ {v_party_known : Nat → Int32} {v_findings : Nat → Int32} {y1 : Int32} {y3 : Int32} {y4 : Int32} {H : Heap} {locs : List Loc} {ls : Array Slot}, q_H D A s (wX4_read cI cJ cZ cS a_t a_party a_party_kinds a_party_costs a_party_terms a_party_known a_kept a_tape a_telephone a_sheets a_sheets0 a_sheets0_numbers a_sheets1 a_sheets1_numbers a_sheets2 a_sheets2_numbers a_sheets3 a_sheets3_numbers a_findings v_isKept v_party_size v_party_list v_party_told v_party_kinds v_party_terms v_party_known v_sheets0_bits v_sheets0_size v_sheets0_numbers v_sheets1_bits v_sheets1_size v_sheets1_numbers v_sheets2_bits v_sheets2_size v_sheets2_numbers v_sheets3_bits v_sheets3_size v_sheets3_numbers v_findings) H locs → lv_has ls 6 [(0, .ref a_t), (1, .int y1), (3, .int y3), (4, .int y4)] → ag42 v_party_known v_findings y1 y3 y4 = some (rr, kk') → W p l e rX4_read s m args below meth c H locs 0 0 (MQ below (q_Ri D rr A ((fun k : (Nat → Int32) × (Nat → Int32) => (wX4_read cI cJ cZ cS a_t a_party a_party_kinds a_party_costs a_party_terms a_party_known a_kept a_tape a_telephone a_sheets a_sheets0 a_sheets0_numbers a_sheets1 a_sheets1_numbers a_sheets2 a_sheets2_numbers a_sheets3 a_sheets3_numbers a_findings v_isKept v_party_size v_party_list v_party_told v_party_kinds v_party_terms k.1 v_sheets0_bits v_sheets0_size v_sheets0_numbers v_sheets1_bits v_sheets1_size v_sheets1_numbers v_sheets2_bits v_sheets2_size v_sheets2_numbers v_sheets3_bits v_sheets3_size v_sheets3_numbers k.2)) kk')) args s 0 0 A) (F0 m 42 ls [])) {ag57 : (Nat → Int32) → (Nat → Int32) → Int32 → Int32 → Int32 → Int32 → Option (Int32 × (Nat → Int32) × (Nat → Int32))} (hag57 : ∀ {v_party_known : Nat → Int32} {v_findings : Nat → Int32} {y1 : Int32} {y3 : Int32} {y4 : Int32} {y5 : Int32} {H : Heap} {locs : List Loc} {ls : Array Slot}, q_H D A s (wX4_read cI cJ cZ cS a_t a_party a_party_kinds a_party_costs a_party_terms a_party_known a_kept a_tape a_telephone a_sheets a_sheets0 a_sheets0_numbers a_sheets1 a_sheets1_numbers a_sheets2 a_sheets2_numbers a_sheets3 a_sheets3_numbers a_findings v_isKept v_party_size v_party_list v_party_told v_party_kinds v_party_terms v_party_known v_sheets0_bits v_sheets0_size v_sheets0_numbers v_sheets1_bits v_sheets1_size v_sheets1_numbers v_sheets2_bits v_sheets2_size v_sheets2_numbers v_sheets3_bits v_sheets3_size v_sheets3_numbers v_findings) H locs → lv_has ls 6 [(0, .ref a_t), (1, .int y1), (3, .int y3), (4, .int y4), (5, .int y5)] → ag57 v_party_known v_findings y1 y3 y4 y5 = some (rr, kk') → W p l e rX4_read s m args below meth c H locs 0 0 (MQ below (q_Ri D rr A ((fun k : (Nat → Int32) × (Nat → Int32) => (wX4_read cI cJ cZ cS a_t a_party a_party_kinds a_party_costs a_party_terms a_party_known a_kept a_tape a_telephone a_sheets a_sheets0 a_sheets0_numbers a_sheets1 a_sheets1_numbers a_sheets2 a_sheets2_numbers a_sheets3 a_sheets3_numbers a_findings v_isKept v_party_size v_party_list v_party_told v_party_kinds v_party_terms k.1 v_sheets0_bits v_sheets0_size v_sheets0_numbers v_sheets1_bits v_sheets1_size v_sheets1_numbers v_sheets2_bits v_sheets2_size v_sheets2_numbers v_sheets3_bits v_sheets3_size v_sheets3_numbers k.2)) kk')) args s 0 0 A) (F0 m 57 ls [])) : ∀ {v_party_known : Nat → Int32} {v_findings : Nat → Int32} {y1 : Int32} {y3 : Int32} {y4 : Int32} {y5 : Int32} {H : Heap} {locs : List Loc} {ls : Array Slot}, q_H D A s (wX4_read cI cJ cZ cS a_t a_party a_party_kinds a_party_costs a_party_terms a_party_known a_kept a_tape a_telephone a_sheets a_sheets0 a_sheets0_numbers a_sheets1 a_sheets1_numbers a_sheets2 a_sheets2_numbers a_sheets3 a_sheets3_numbers a_findings v_isKept v_party_size v_party_list v_party_told v_party_kinds v_party_terms v_party_known v_sheets0_bits v_sheets0_size v_sheets0_numbers v_sheets1_bits v_sheets1_size v_sheets1_numbers v_sheets2_bits v_sheets2_size v_sheets2_numbers v_sheets3_bits v_sheets3_size v_sheets3_numbers v_findings) H locs → lv_has ls 6 [(0, .ref a_t), (1, .int y1), (3, .int y3), (4, .int y4), (5, .int y5)] → fX4_read_57 v_party_size v_party_kinds v_party_terms v_sheets0_bits v_sheets0_size v_sheets0_numbers v_sheets1_bits v_sheets1_size v_sheets1_numbers v_sheets2_bits v_sheets2_size v_sheets2_numbers v_sheets3_bits v_sheets3_size v_sheets3_numbers ag42 ag57 v_party_known v_findings y1 y3 y4 y5 = some (rr, kk') → W p l e rX4_read s m args below meth c H locs 0 0 (MQ below (q_Ri D rr A ((fun k : (Nat → Int32) × (Nat → Int32) => (wX4_read cI cJ cZ cS a_t a_party a_party_kinds a_party_costs a_party_terms a_party_known a_kept a_tape a_telephone a_sheets a_sheets0 a_sheets0_numbers a_sheets1 a_sheets1_numbers a_sheets2 a_sheets2_numbers a_sheets3 a_sheets3_numbers a_findings v_isKept v_party_size v_party_list v_party_told v_party_kinds v_party_terms k.1 v_sheets0_bits v_sheets0_size v_sheets0_numbers v_sheets1_bits v_sheets1_size v_sheets1_numbers v_sheets2_bits v_sheets2_size v_sheets2_numbers v_sheets3_bits v_sheets3_size v_sheets3_numbers k.2)) kk')) args s 0 0 A) (F0 m 57 ls []) := by
  intro v_party_known v_findings y1 y3 y4 y5 H locs ls h hl hf
  have hx := fx.1
  have hb := fx.2.1
  unfold fX4_read_57 at hf
  refine lv_iload hx hb dX4_read_57 (lv_at hl 4 rfl) ?_
  refine lv_bipush (v := 6) hx hb dX4_read_59 (by decide) ?_
  refine lv_icmp_ge (tgt := 90) hx hb dX4_read_61 (by decide) (fun c1 => ?_) (fun c1 => ?_)
  · have hf := it_t c1 hf
    obtain ⟨u2, eu2, hf⟩ := nm_inv hf
    refine lv_iinc (v := u2) (lv' := [(4, .int u2), (0, .ref a_t), (1, .int y1), (3, .int y3), (5, .int y5)]) hx hb dX4_read_90 hl (k := 3) rfl (by rw [eu2]; rfl) (by decide) rfl (fun ls hl => ?_)
    refine lv_goto (tgt := 42) hx hb dX4_read_93 (by decide) ?_
    exact hag42 h (lv_sub hl [1, 2, 3, 0] rfl) hf
  have hf := it_f c1 hf
  refine lv_iload_n hx hb dX4_read_64 rfl (lv_at hl 2 rfl) ?_
  refine lv_aload_n hx hb dX4_read_65 rfl (lv_at hl 0 rfl) ?_
  refine lv_aload_n hx hb dX4_read_66 rfl (lv_at hl 0 rfl) ?_
  refine q_get (v := .ref a_sheets) fx inX4 h 0 rfl rfl 5 (by decide) k_179 rfl dX4_read_67 ?_
  refine lv_iload_n hx hb dX4_read_70 rfl (lv_at hl 1 rfl) ?_
  rcases sel4_inv hf with ⟨c3, hf⟩ | ⟨c3, hf⟩ | ⟨c3, hf⟩ | ⟨c3, hf⟩
  · refine q_aald (v := a_sheets0) fx h 5 rfl c3 (vinK (by decide)) rfl dX4_read_71 ?_
    refine lv_iload hx hb dX4_read_72 (lv_at hl 3 rfl) ?_
    refine lv_iload hx hb dX4_read_74 (lv_at hl 4 rfl) ?_
    obtain ⟨r4, k4, hg, hf⟩ := bR_inv hf
    refine q_ci (rest := [.int y3]) (ws' := (wX4_read cI cJ cZ cS a_t a_party a_party_kinds a_party_costs a_party_terms a_party_known a_kept a_tape a_telephone a_sheets a_sheets0 a_sheets0_numbers a_sheets1 a_sheets1_numbers a_sheets2 a_sheets2_numbers a_sheets3 a_sheets3_numbers a_findings v_isKept v_party_size v_party_list v_party_told v_party_kinds v_party_terms k4 v_sheets0_bits v_sheets0_size v_sheets0_numbers v_sheets1_bits v_sheets1_size v_sheets1_numbers v_sheets2_bits v_sheets2_size v_sheets2_numbers v_sheets3_bits v_sheets3_size v_sheets3_numbers v_findings)) (w1 := (wX4_explains cI cJ cZ cS a_t a_party a_party_kinds a_party_costs a_party_terms a_party_known a_kept a_tape a_telephone a_sheets a_findings a_sheets0 a_sheets0_numbers v_isKept v_party_size v_party_list v_party_told v_party_kinds v_party_terms k4 v_sheets0_bits v_sheets0_size v_sheets0_numbers)) fx h [0, 1, 2, 3, 4, 6, 7] rfl rfl rfl rfl (q_runV fx h hl.1 [0, 1, 2, 3, 4, 6, 7] rfl rfl (tX4_explains l D cI cJ cZ cS tb a_t a_party a_party_kinds a_party_costs a_party_terms a_party_known a_kept a_tape a_telephone a_sheets a_findings a_sheets0 a_sheets0_numbers H.size v_isKept v_party_size v_party_list v_party_told v_party_kinds v_party_terms v_party_known v_sheets0_bits v_sheets0_size v_sheets0_numbers y4 y5 r4 k4 hg) mvX4_explains k_596 ⟨rfl, rfl⟩ ⟨Nat.le_of_ble_eq_true rfl, Nat.le_of_ble_eq_true rfl⟩ rfl rfl rfl rfl (Nat.le_of_ble_eq_true rfl) dX4_read_76 ⟨Nat.le_of_ble_eq_true rfl, Nat.le_of_ble_eq_true rfl⟩) (fun H locs h => ?_)
    obtain ⟨r5, k5, hg, hf⟩ := bR_inv hf
    refine q_ci (rest := [.int y3]) (ws' := (wX4_read cI cJ cZ cS a_t a_party a_party_kinds a_party_costs a_party_terms a_party_known a_kept a_tape a_telephone a_sheets a_sheets0 a_sheets0_numbers a_sheets1 a_sheets1_numbers a_sheets2 a_sheets2_numbers a_sheets3 a_sheets3_numbers a_findings v_isKept v_party_size v_party_list v_party_told v_party_kinds v_party_terms k4 v_sheets0_bits v_sheets0_size v_sheets0_numbers v_sheets1_bits v_sheets1_size v_sheets1_numbers v_sheets2_bits v_sheets2_size v_sheets2_numbers v_sheets3_bits v_sheets3_size v_sheets3_numbers v_findings)) (w1 := (wX4_oneIf cI cJ cZ cS)) fx h [] rfl rfl rfl rfl (q_runS fx h hl.1 [] rfl rfl (tX4_oneIf l D cI cJ cZ cS tb H.size r4 r5 k5 hg) msX4_oneIf k_246 ⟨rfl, rfl⟩ ⟨Nat.le_of_ble_eq_true rfl, Nat.le_of_ble_eq_true rfl⟩ rfl rfl (Nat.le_of_ble_eq_true rfl) dX4_read_79 ⟨Nat.le_of_ble_eq_true rfl, Nat.le_of_ble_eq_true rfl⟩) (fun H locs h => ?_)
    refine lv_iadd hx hb dX4_read_82 ?_
    obtain ⟨u6, eu6, hf⟩ := nm_inv hf
    refine lv_eqi eu6 ?_
    refine lv_istore_n (lv' := [(3, .int u6), (0, .ref a_t), (1, .int y1), (4, .int y4), (5, .int y5)]) hx hb dX4_read_83 rfl hl (by decide) rfl (fun ls hl => ?_)
    obtain ⟨u7, eu7, hf⟩ := nm_inv hf
    refine lv_iinc (v := u7) (lv' := [(5, .int u7), (3, .int u6), (0, .ref a_t), (1, .int y1), (4, .int y4)]) hx hb dX4_read_84 hl (k := 4) rfl (by rw [eu7]; rfl) (by decide) rfl (fun ls hl => ?_)
    refine lv_goto (tgt := 57) hx hb dX4_read_87 (by decide) ?_
    exact hag57 h (lv_sub hl [2, 3, 1, 4, 0] rfl) hf
  · refine q_aald (v := a_sheets1) fx h 5 rfl c3 (vinK (by decide)) rfl dX4_read_71 ?_
    refine lv_iload hx hb dX4_read_72 (lv_at hl 3 rfl) ?_
    refine lv_iload hx hb dX4_read_74 (lv_at hl 4 rfl) ?_
    obtain ⟨r8, k8, hg, hf⟩ := bR_inv hf
    refine q_ci (rest := [.int y3]) (ws' := (wX4_read cI cJ cZ cS a_t a_party a_party_kinds a_party_costs a_party_terms a_party_known a_kept a_tape a_telephone a_sheets a_sheets0 a_sheets0_numbers a_sheets1 a_sheets1_numbers a_sheets2 a_sheets2_numbers a_sheets3 a_sheets3_numbers a_findings v_isKept v_party_size v_party_list v_party_told v_party_kinds v_party_terms k8 v_sheets0_bits v_sheets0_size v_sheets0_numbers v_sheets1_bits v_sheets1_size v_sheets1_numbers v_sheets2_bits v_sheets2_size v_sheets2_numbers v_sheets3_bits v_sheets3_size v_sheets3_numbers v_findings)) (w1 := (wX4_explains cI cJ cZ cS a_t a_party a_party_kinds a_party_costs a_party_terms a_party_known a_kept a_tape a_telephone a_sheets a_findings a_sheets1 a_sheets1_numbers v_isKept v_party_size v_party_list v_party_told v_party_kinds v_party_terms k8 v_sheets1_bits v_sheets1_size v_sheets1_numbers)) fx h [0, 1, 2, 3, 4, 8, 9] rfl rfl rfl rfl (q_runV fx h hl.1 [0, 1, 2, 3, 4, 8, 9] rfl rfl (tX4_explains l D cI cJ cZ cS tb a_t a_party a_party_kinds a_party_costs a_party_terms a_party_known a_kept a_tape a_telephone a_sheets a_findings a_sheets1 a_sheets1_numbers H.size v_isKept v_party_size v_party_list v_party_told v_party_kinds v_party_terms v_party_known v_sheets1_bits v_sheets1_size v_sheets1_numbers y4 y5 r8 k8 hg) mvX4_explains k_596 ⟨rfl, rfl⟩ ⟨Nat.le_of_ble_eq_true rfl, Nat.le_of_ble_eq_true rfl⟩ rfl rfl rfl rfl (Nat.le_of_ble_eq_true rfl) dX4_read_76 ⟨Nat.le_of_ble_eq_true rfl, Nat.le_of_ble_eq_true rfl⟩) (fun H locs h => ?_)
    obtain ⟨r9, k9, hg, hf⟩ := bR_inv hf
    refine q_ci (rest := [.int y3]) (ws' := (wX4_read cI cJ cZ cS a_t a_party a_party_kinds a_party_costs a_party_terms a_party_known a_kept a_tape a_telephone a_sheets a_sheets0 a_sheets0_numbers a_sheets1 a_sheets1_numbers a_sheets2 a_sheets2_numbers a_sheets3 a_sheets3_numbers a_findings v_isKept v_party_size v_party_list v_party_told v_party_kinds v_party_terms k8 v_sheets0_bits v_sheets0_size v_sheets0_numbers v_sheets1_bits v_sheets1_size v_sheets1_numbers v_sheets2_bits v_sheets2_size v_sheets2_numbers v_sheets3_bits v_sheets3_size v_sheets3_numbers v_findings)) (w1 := (wX4_oneIf cI cJ cZ cS)) fx h [] rfl rfl rfl rfl (q_runS fx h hl.1 [] rfl rfl (tX4_oneIf l D cI cJ cZ cS tb H.size r8 r9 k9 hg) msX4_oneIf k_246 ⟨rfl, rfl⟩ ⟨Nat.le_of_ble_eq_true rfl, Nat.le_of_ble_eq_true rfl⟩ rfl rfl (Nat.le_of_ble_eq_true rfl) dX4_read_79 ⟨Nat.le_of_ble_eq_true rfl, Nat.le_of_ble_eq_true rfl⟩) (fun H locs h => ?_)
    refine lv_iadd hx hb dX4_read_82 ?_
    obtain ⟨u10, eu10, hf⟩ := nm_inv hf
    refine lv_eqi eu10 ?_
    refine lv_istore_n (lv' := [(3, .int u10), (0, .ref a_t), (1, .int y1), (4, .int y4), (5, .int y5)]) hx hb dX4_read_83 rfl hl (by decide) rfl (fun ls hl => ?_)
    obtain ⟨u11, eu11, hf⟩ := nm_inv hf
    refine lv_iinc (v := u11) (lv' := [(5, .int u11), (3, .int u10), (0, .ref a_t), (1, .int y1), (4, .int y4)]) hx hb dX4_read_84 hl (k := 4) rfl (by rw [eu11]; rfl) (by decide) rfl (fun ls hl => ?_)
    refine lv_goto (tgt := 57) hx hb dX4_read_87 (by decide) ?_
    exact hag57 h (lv_sub hl [2, 3, 1, 4, 0] rfl) hf
  · refine q_aald (v := a_sheets2) fx h 5 rfl c3 (vinK (by decide)) rfl dX4_read_71 ?_
    refine lv_iload hx hb dX4_read_72 (lv_at hl 3 rfl) ?_
    refine lv_iload hx hb dX4_read_74 (lv_at hl 4 rfl) ?_
    obtain ⟨r12, k12, hg, hf⟩ := bR_inv hf
    refine q_ci (rest := [.int y3]) (ws' := (wX4_read cI cJ cZ cS a_t a_party a_party_kinds a_party_costs a_party_terms a_party_known a_kept a_tape a_telephone a_sheets a_sheets0 a_sheets0_numbers a_sheets1 a_sheets1_numbers a_sheets2 a_sheets2_numbers a_sheets3 a_sheets3_numbers a_findings v_isKept v_party_size v_party_list v_party_told v_party_kinds v_party_terms k12 v_sheets0_bits v_sheets0_size v_sheets0_numbers v_sheets1_bits v_sheets1_size v_sheets1_numbers v_sheets2_bits v_sheets2_size v_sheets2_numbers v_sheets3_bits v_sheets3_size v_sheets3_numbers v_findings)) (w1 := (wX4_explains cI cJ cZ cS a_t a_party a_party_kinds a_party_costs a_party_terms a_party_known a_kept a_tape a_telephone a_sheets a_findings a_sheets2 a_sheets2_numbers v_isKept v_party_size v_party_list v_party_told v_party_kinds v_party_terms k12 v_sheets2_bits v_sheets2_size v_sheets2_numbers)) fx h [0, 1, 2, 3, 4, 10, 11] rfl rfl rfl rfl (q_runV fx h hl.1 [0, 1, 2, 3, 4, 10, 11] rfl rfl (tX4_explains l D cI cJ cZ cS tb a_t a_party a_party_kinds a_party_costs a_party_terms a_party_known a_kept a_tape a_telephone a_sheets a_findings a_sheets2 a_sheets2_numbers H.size v_isKept v_party_size v_party_list v_party_told v_party_kinds v_party_terms v_party_known v_sheets2_bits v_sheets2_size v_sheets2_numbers y4 y5 r12 k12 hg) mvX4_explains k_596 ⟨rfl, rfl⟩ ⟨Nat.le_of_ble_eq_true rfl, Nat.le_of_ble_eq_true rfl⟩ rfl rfl rfl rfl (Nat.le_of_ble_eq_true rfl) dX4_read_76 ⟨Nat.le_of_ble_eq_true rfl, Nat.le_of_ble_eq_true rfl⟩) (fun H locs h => ?_)
    obtain ⟨r13, k13, hg, hf⟩ := bR_inv hf
    refine q_ci (rest := [.int y3]) (ws' := (wX4_read cI cJ cZ cS a_t a_party a_party_kinds a_party_costs a_party_terms a_party_known a_kept a_tape a_telephone a_sheets a_sheets0 a_sheets0_numbers a_sheets1 a_sheets1_numbers a_sheets2 a_sheets2_numbers a_sheets3 a_sheets3_numbers a_findings v_isKept v_party_size v_party_list v_party_told v_party_kinds v_party_terms k12 v_sheets0_bits v_sheets0_size v_sheets0_numbers v_sheets1_bits v_sheets1_size v_sheets1_numbers v_sheets2_bits v_sheets2_size v_sheets2_numbers v_sheets3_bits v_sheets3_size v_sheets3_numbers v_findings)) (w1 := (wX4_oneIf cI cJ cZ cS)) fx h [] rfl rfl rfl rfl (q_runS fx h hl.1 [] rfl rfl (tX4_oneIf l D cI cJ cZ cS tb H.size r12 r13 k13 hg) msX4_oneIf k_246 ⟨rfl, rfl⟩ ⟨Nat.le_of_ble_eq_true rfl, Nat.le_of_ble_eq_true rfl⟩ rfl rfl (Nat.le_of_ble_eq_true rfl) dX4_read_79 ⟨Nat.le_of_ble_eq_true rfl, Nat.le_of_ble_eq_true rfl⟩) (fun H locs h => ?_)
    refine lv_iadd hx hb dX4_read_82 ?_
    obtain ⟨u14, eu14, hf⟩ := nm_inv hf
    refine lv_eqi eu14 ?_
    refine lv_istore_n (lv' := [(3, .int u14), (0, .ref a_t), (1, .int y1), (4, .int y4), (5, .int y5)]) hx hb dX4_read_83 rfl hl (by decide) rfl (fun ls hl => ?_)
    obtain ⟨u15, eu15, hf⟩ := nm_inv hf
    refine lv_iinc (v := u15) (lv' := [(5, .int u15), (3, .int u14), (0, .ref a_t), (1, .int y1), (4, .int y4)]) hx hb dX4_read_84 hl (k := 4) rfl (by rw [eu15]; rfl) (by decide) rfl (fun ls hl => ?_)
    refine lv_goto (tgt := 57) hx hb dX4_read_87 (by decide) ?_
    exact hag57 h (lv_sub hl [2, 3, 1, 4, 0] rfl) hf
  · refine q_aald (v := a_sheets3) fx h 5 rfl c3 (vinK (by decide)) rfl dX4_read_71 ?_
    refine lv_iload hx hb dX4_read_72 (lv_at hl 3 rfl) ?_
    refine lv_iload hx hb dX4_read_74 (lv_at hl 4 rfl) ?_
    obtain ⟨r16, k16, hg, hf⟩ := bR_inv hf
    refine q_ci (rest := [.int y3]) (ws' := (wX4_read cI cJ cZ cS a_t a_party a_party_kinds a_party_costs a_party_terms a_party_known a_kept a_tape a_telephone a_sheets a_sheets0 a_sheets0_numbers a_sheets1 a_sheets1_numbers a_sheets2 a_sheets2_numbers a_sheets3 a_sheets3_numbers a_findings v_isKept v_party_size v_party_list v_party_told v_party_kinds v_party_terms k16 v_sheets0_bits v_sheets0_size v_sheets0_numbers v_sheets1_bits v_sheets1_size v_sheets1_numbers v_sheets2_bits v_sheets2_size v_sheets2_numbers v_sheets3_bits v_sheets3_size v_sheets3_numbers v_findings)) (w1 := (wX4_explains cI cJ cZ cS a_t a_party a_party_kinds a_party_costs a_party_terms a_party_known a_kept a_tape a_telephone a_sheets a_findings a_sheets3 a_sheets3_numbers v_isKept v_party_size v_party_list v_party_told v_party_kinds v_party_terms k16 v_sheets3_bits v_sheets3_size v_sheets3_numbers)) fx h [0, 1, 2, 3, 4, 12, 13] rfl rfl rfl rfl (q_runV fx h hl.1 [0, 1, 2, 3, 4, 12, 13] rfl rfl (tX4_explains l D cI cJ cZ cS tb a_t a_party a_party_kinds a_party_costs a_party_terms a_party_known a_kept a_tape a_telephone a_sheets a_findings a_sheets3 a_sheets3_numbers H.size v_isKept v_party_size v_party_list v_party_told v_party_kinds v_party_terms v_party_known v_sheets3_bits v_sheets3_size v_sheets3_numbers y4 y5 r16 k16 hg) mvX4_explains k_596 ⟨rfl, rfl⟩ ⟨Nat.le_of_ble_eq_true rfl, Nat.le_of_ble_eq_true rfl⟩ rfl rfl rfl rfl (Nat.le_of_ble_eq_true rfl) dX4_read_76 ⟨Nat.le_of_ble_eq_true rfl, Nat.le_of_ble_eq_true rfl⟩) (fun H locs h => ?_)
    obtain ⟨r17, k17, hg, hf⟩ := bR_inv hf
    refine q_ci (rest := [.int y3]) (ws' := (wX4_read cI cJ cZ cS a_t a_party a_party_kinds a_party_costs a_party_terms a_party_known a_kept a_tape a_telephone a_sheets a_sheets0 a_sheets0_numbers a_sheets1 a_sheets1_numbers a_sheets2 a_sheets2_numbers a_sheets3 a_sheets3_numbers a_findings v_isKept v_party_size v_party_list v_party_told v_party_kinds v_party_terms k16 v_sheets0_bits v_sheets0_size v_sheets0_numbers v_sheets1_bits v_sheets1_size v_sheets1_numbers v_sheets2_bits v_sheets2_size v_sheets2_numbers v_sheets3_bits v_sheets3_size v_sheets3_numbers v_findings)) (w1 := (wX4_oneIf cI cJ cZ cS)) fx h [] rfl rfl rfl rfl (q_runS fx h hl.1 [] rfl rfl (tX4_oneIf l D cI cJ cZ cS tb H.size r16 r17 k17 hg) msX4_oneIf k_246 ⟨rfl, rfl⟩ ⟨Nat.le_of_ble_eq_true rfl, Nat.le_of_ble_eq_true rfl⟩ rfl rfl (Nat.le_of_ble_eq_true rfl) dX4_read_79 ⟨Nat.le_of_ble_eq_true rfl, Nat.le_of_ble_eq_true rfl⟩) (fun H locs h => ?_)
    refine lv_iadd hx hb dX4_read_82 ?_
    obtain ⟨u18, eu18, hf⟩ := nm_inv hf
    refine lv_eqi eu18 ?_
    refine lv_istore_n (lv' := [(3, .int u18), (0, .ref a_t), (1, .int y1), (4, .int y4), (5, .int y5)]) hx hb dX4_read_83 rfl hl (by decide) rfl (fun ls hl => ?_)
    obtain ⟨u19, eu19, hf⟩ := nm_inv hf
    refine lv_iinc (v := u19) (lv' := [(5, .int u19), (3, .int u18), (0, .ref a_t), (1, .int y1), (4, .int y4)]) hx hb dX4_read_84 hl (k := 4) rfl (by rw [eu19]; rfl) (by decide) rfl (fun ls hl => ?_)
    refine lv_goto (tgt := 57) hx hb dX4_read_87 (by decide) ?_
    exact hag57 h (lv_sub hl [2, 3, 1, 4, 0] rfl) hf
set_option maxRecDepth 100000 in
theorem EX4_read_57 {p : Program} {l : Launch} {e : Env} {s : State} {m : MethodId} {args : Array Value} {below : List Frame} {meth : Method} {c : Code} {D : va_G} {cI cJ cZ cS : ClassId} {tb : Nat} {A : Nat → Prop} {a_t a_party a_party_kinds a_party_costs a_party_terms a_party_known a_kept a_tape a_telephone a_sheets a_sheets0 a_sheets0_numbers a_sheets1 a_sheets1_numbers a_sheets2 a_sheets2_numbers a_sheets3 a_sheets3_numbers a_findings : Nat} {v_isKept : Int32} {v_party_size : Int32} {v_party_list : Int32} {v_party_told : Int32} {v_party_kinds : Nat → Int32} {v_party_terms : Nat → Int64} {v_sheets0_bits : Int32} {v_sheets0_size : Int32} {v_sheets0_numbers : Nat → Int64} {v_sheets1_bits : Int32} {v_sheets1_size : Int32} {v_sheets1_numbers : Nat → Int64} {v_sheets2_bits : Int32} {v_sheets2_size : Int32} {v_sheets2_numbers : Nat → Int64} {v_sheets3_bits : Int32} {v_sheets3_size : Int32} {v_sheets3_numbers : Nat → Int64} {rr : Int32} {kk' : (Nat → Int32) × (Nat → Int32)} (fx : q_Fx p s m args meth c cX4_read 6 RX4 (some .int) D cI cJ cZ cS tb A) {ag42 : (Nat → Int32) → (Nat → Int32) → Int32 → Int32 → Int32 → Option (Int32 × (Nat → Int32) × (Nat → Int32))} (hag42 : ∀ {v_party_known : Nat → Int32} {v_findings : Nat → Int32} {y1 : Int32} {y3 : Int32} {y4 : Int32} {H : Heap} {locs : List Loc} {ls : Array Slot}, q_H D A s (wX4_read cI cJ cZ cS a_t a_party a_party_kinds a_party_costs a_party_terms a_party_known a_kept a_tape a_telephone a_sheets a_sheets0 a_sheets0_numbers a_sheets1 a_sheets1_numbers a_sheets2 a_sheets2_numbers a_sheets3 a_sheets3_numbers a_findings v_isKept v_party_size v_party_list v_party_told v_party_kinds v_party_terms v_party_known v_sheets0_bits v_sheets0_size v_sheets0_numbers v_sheets1_bits v_sheets1_size v_sheets1_numbers v_sheets2_bits v_sheets2_size v_sheets2_numbers v_sheets3_bits v_sheets3_size v_sheets3_numbers v_findings) H locs → lv_has ls 6 [(0, .ref a_t), (1, .int y1), (3, .int y3), (4, .int y4)] → ag42 v_party_known v_findings y1 y3 y4 = some (rr, kk') → W p l e rX4_read s m args below meth c H locs 0 0 (MQ below (q_Ri D rr A ((fun k : (Nat → Int32) × (Nat → Int32) => (wX4_read cI cJ cZ cS a_t a_party a_party_kinds a_party_costs a_party_terms a_party_known a_kept a_tape a_telephone a_sheets a_sheets0 a_sheets0_numbers a_sheets1 a_sheets1_numbers a_sheets2 a_sheets2_numbers a_sheets3 a_sheets3_numbers a_findings v_isKept v_party_size v_party_list v_party_told v_party_kinds v_party_terms k.1 v_sheets0_bits v_sheets0_size v_sheets0_numbers v_sheets1_bits v_sheets1_size v_sheets1_numbers v_sheets2_bits v_sheets2_size v_sheets2_numbers v_sheets3_bits v_sheets3_size v_sheets3_numbers k.2)) kk')) args s 0 0 A) (F0 m 42 ls [])) : ∀ (n : Nat), ∀ {v_party_known : Nat → Int32} {v_findings : Nat → Int32} {y1 : Int32} {y3 : Int32} {y4 : Int32} {y5 : Int32} {H : Heap} {locs : List Loc} {ls : Array Slot}, q_H D A s (wX4_read cI cJ cZ cS a_t a_party a_party_kinds a_party_costs a_party_terms a_party_known a_kept a_tape a_telephone a_sheets a_sheets0 a_sheets0_numbers a_sheets1 a_sheets1_numbers a_sheets2 a_sheets2_numbers a_sheets3 a_sheets3_numbers a_findings v_isKept v_party_size v_party_list v_party_told v_party_kinds v_party_terms v_party_known v_sheets0_bits v_sheets0_size v_sheets0_numbers v_sheets1_bits v_sheets1_size v_sheets1_numbers v_sheets2_bits v_sheets2_size v_sheets2_numbers v_sheets3_bits v_sheets3_size v_sheets3_numbers v_findings) H locs → lv_has ls 6 [(0, .ref a_t), (1, .int y1), (3, .int y3), (4, .int y4), (5, .int y5)] → ll6 (fX4_read_57 v_party_size v_party_kinds v_party_terms v_sheets0_bits v_sheets0_size v_sheets0_numbers v_sheets1_bits v_sheets1_size v_sheets1_numbers v_sheets2_bits v_sheets2_size v_sheets2_numbers v_sheets3_bits v_sheets3_size v_sheets3_numbers ag42) n v_party_known v_findings y1 y3 y4 y5 = some (rr, kk') → W p l e rX4_read s m args below meth c H locs 0 0 (MQ below (q_Ri D rr A ((fun k : (Nat → Int32) × (Nat → Int32) => (wX4_read cI cJ cZ cS a_t a_party a_party_kinds a_party_costs a_party_terms a_party_known a_kept a_tape a_telephone a_sheets a_sheets0 a_sheets0_numbers a_sheets1 a_sheets1_numbers a_sheets2 a_sheets2_numbers a_sheets3 a_sheets3_numbers a_findings v_isKept v_party_size v_party_list v_party_told v_party_kinds v_party_terms k.1 v_sheets0_bits v_sheets0_size v_sheets0_numbers v_sheets1_bits v_sheets1_size v_sheets1_numbers v_sheets2_bits v_sheets2_size v_sheets2_numbers v_sheets3_bits v_sheets3_size v_sheets3_numbers k.2)) kk')) args s 0 0 A) (F0 m 57 ls []) := by
  intro n
  induction n with
  | zero => intro v_party_known v_findings y1 y3 y4 y5 H locs ls h hl hf; exact (ll6_z hf).elim
  | succ n ih => intro v_party_known v_findings y1 y3 y4 y5 H locs ls h hl hf; exact LX4_read_57 fx hag42 ih h hl (ll6_s hf)
def fX4_read_42 (v_party_size : Int32) (v_party_kinds : Nat → Int32) (v_party_terms : Nat → Int64) (v_sheets0_bits : Int32) (v_sheets0_size : Int32) (v_sheets0_numbers : Nat → Int64) (v_sheets1_bits : Int32) (v_sheets1_size : Int32) (v_sheets1_numbers : Nat → Int64) (v_sheets2_bits : Int32) (v_sheets2_size : Int32) (v_sheets2_numbers : Nat → Int64) (v_sheets3_bits : Int32) (v_sheets3_size : Int32) (v_sheets3_numbers : Nat → Int64) (ag42 : (Nat → Int32) → (Nat → Int32) → Int32 → Int32 → Int32 → Option (Int32 × (Nat → Int32) × (Nat → Int32))) (v_party_known : Nat → Int32) (v_findings : Nat → Int32) (y1 : Int32) (y3 : Int32) (y4 : Int32) : Option (Int32 × (Nat → Int32) × (Nat → Int32)) :=
  (if v_party_size ≤ y4 then (
  some (y3, (v_party_known, v_findings)))
  else (
  ll6 (fX4_read_57 v_party_size v_party_kinds v_party_terms v_sheets0_bits v_sheets0_size v_sheets0_numbers v_sheets1_bits v_sheets1_size v_sheets1_numbers v_sheets2_bits v_sheets2_size v_sheets2_numbers v_sheets3_bits v_sheets3_size v_sheets3_numbers ag42) qF v_party_known v_findings y1 y3 y4 0))
set_option maxRecDepth 100000 in
set_option maxHeartbeats 4000000 in
theorem LX4_read_42 {p : Program} {l : Launch} {e : Env} {s : State} {m : MethodId} {args : Array Value} {below : List Frame} {meth : Method} {c : Code} {D : va_G} {cI cJ cZ cS : ClassId} {tb : Nat} {A : Nat → Prop} {a_t a_party a_party_kinds a_party_costs a_party_terms a_party_known a_kept a_tape a_telephone a_sheets a_sheets0 a_sheets0_numbers a_sheets1 a_sheets1_numbers a_sheets2 a_sheets2_numbers a_sheets3 a_sheets3_numbers a_findings : Nat} {v_isKept : Int32} {v_party_size : Int32} {v_party_list : Int32} {v_party_told : Int32} {v_party_kinds : Nat → Int32} {v_party_terms : Nat → Int64} {v_sheets0_bits : Int32} {v_sheets0_size : Int32} {v_sheets0_numbers : Nat → Int64} {v_sheets1_bits : Int32} {v_sheets1_size : Int32} {v_sheets1_numbers : Nat → Int64} {v_sheets2_bits : Int32} {v_sheets2_size : Int32} {v_sheets2_numbers : Nat → Int64} {v_sheets3_bits : Int32} {v_sheets3_size : Int32} {v_sheets3_numbers : Nat → Int64} {rr : Int32} {kk' : (Nat → Int32) × (Nat → Int32)} (fx : q_Fx p s m args meth c cX4_read 6 RX4 (some .int) D cI cJ cZ cS tb A) {ag42 : (Nat → Int32) → (Nat → Int32) → Int32 → Int32 → Int32 → Option (Int32 × (Nat → Int32) × (Nat → Int32))} (hag42 : ∀ {v_party_known : Nat → Int32} {v_findings : Nat → Int32} {y1 : Int32} {y3 : Int32} {y4 : Int32} {H : Heap} {locs : List Loc} {ls : Array Slot}, q_H D A s (wX4_read cI cJ cZ cS a_t a_party a_party_kinds a_party_costs a_party_terms a_party_known a_kept a_tape a_telephone a_sheets a_sheets0 a_sheets0_numbers a_sheets1 a_sheets1_numbers a_sheets2 a_sheets2_numbers a_sheets3 a_sheets3_numbers a_findings v_isKept v_party_size v_party_list v_party_told v_party_kinds v_party_terms v_party_known v_sheets0_bits v_sheets0_size v_sheets0_numbers v_sheets1_bits v_sheets1_size v_sheets1_numbers v_sheets2_bits v_sheets2_size v_sheets2_numbers v_sheets3_bits v_sheets3_size v_sheets3_numbers v_findings) H locs → lv_has ls 6 [(0, .ref a_t), (1, .int y1), (3, .int y3), (4, .int y4)] → ag42 v_party_known v_findings y1 y3 y4 = some (rr, kk') → W p l e rX4_read s m args below meth c H locs 0 0 (MQ below (q_Ri D rr A ((fun k : (Nat → Int32) × (Nat → Int32) => (wX4_read cI cJ cZ cS a_t a_party a_party_kinds a_party_costs a_party_terms a_party_known a_kept a_tape a_telephone a_sheets a_sheets0 a_sheets0_numbers a_sheets1 a_sheets1_numbers a_sheets2 a_sheets2_numbers a_sheets3 a_sheets3_numbers a_findings v_isKept v_party_size v_party_list v_party_told v_party_kinds v_party_terms k.1 v_sheets0_bits v_sheets0_size v_sheets0_numbers v_sheets1_bits v_sheets1_size v_sheets1_numbers v_sheets2_bits v_sheets2_size v_sheets2_numbers v_sheets3_bits v_sheets3_size v_sheets3_numbers k.2)) kk')) args s 0 0 A) (F0 m 42 ls [])) : ∀ {v_party_known : Nat → Int32} {v_findings : Nat → Int32} {y1 : Int32} {y3 : Int32} {y4 : Int32} {H : Heap} {locs : List Loc} {ls : Array Slot}, q_H D A s (wX4_read cI cJ cZ cS a_t a_party a_party_kinds a_party_costs a_party_terms a_party_known a_kept a_tape a_telephone a_sheets a_sheets0 a_sheets0_numbers a_sheets1 a_sheets1_numbers a_sheets2 a_sheets2_numbers a_sheets3 a_sheets3_numbers a_findings v_isKept v_party_size v_party_list v_party_told v_party_kinds v_party_terms v_party_known v_sheets0_bits v_sheets0_size v_sheets0_numbers v_sheets1_bits v_sheets1_size v_sheets1_numbers v_sheets2_bits v_sheets2_size v_sheets2_numbers v_sheets3_bits v_sheets3_size v_sheets3_numbers v_findings) H locs → lv_has ls 6 [(0, .ref a_t), (1, .int y1), (3, .int y3), (4, .int y4)] → fX4_read_42 v_party_size v_party_kinds v_party_terms v_sheets0_bits v_sheets0_size v_sheets0_numbers v_sheets1_bits v_sheets1_size v_sheets1_numbers v_sheets2_bits v_sheets2_size v_sheets2_numbers v_sheets3_bits v_sheets3_size v_sheets3_numbers ag42 v_party_known v_findings y1 y3 y4 = some (rr, kk') → W p l e rX4_read s m args below meth c H locs 0 0 (MQ below (q_Ri D rr A ((fun k : (Nat → Int32) × (Nat → Int32) => (wX4_read cI cJ cZ cS a_t a_party a_party_kinds a_party_costs a_party_terms a_party_known a_kept a_tape a_telephone a_sheets a_sheets0 a_sheets0_numbers a_sheets1 a_sheets1_numbers a_sheets2 a_sheets2_numbers a_sheets3 a_sheets3_numbers a_findings v_isKept v_party_size v_party_list v_party_told v_party_kinds v_party_terms k.1 v_sheets0_bits v_sheets0_size v_sheets0_numbers v_sheets1_bits v_sheets1_size v_sheets1_numbers v_sheets2_bits v_sheets2_size v_sheets2_numbers v_sheets3_bits v_sheets3_size v_sheets3_numbers k.2)) kk')) args s 0 0 A) (F0 m 42 ls []) := by
  intro v_party_known v_findings y1 y3 y4 H locs ls h hl hf
  have hx := fx.1
  have hb := fx.2.1
  unfold fX4_read_42 at hf
  refine lv_iload hx hb dX4_read_42 (lv_at hl 3 rfl) ?_
  refine lv_aload_n hx hb dX4_read_44 rfl (lv_at hl 0 rfl) ?_
  refine q_get (v := .ref a_party) fx inX4 h 0 rfl rfl 0 (by decide) k_174 rfl dX4_read_45 ?_
  refine q_getN (v := .int v_party_size) fx inX0 h 1 rfl rfl 0 (by decide) nf_0 rfl dX4_read_48 ?_
  refine lv_icmp_ge (tgt := 96) hx hb dX4_read_51 (by decide) (fun c20 => ?_) (fun c20 => ?_)
  · have hf := it_t c20 hf
    refine lv_iload_n hx hb dX4_read_96 rfl (lv_at hl 2 rfl) ?_
    exact q_reti (fun k : (Nat → Int32) × (Nat → Int32) => (wX4_read cI cJ cZ cS a_t a_party a_party_kinds a_party_costs a_party_terms a_party_known a_kept a_tape a_telephone a_sheets a_sheets0 a_sheets0_numbers a_sheets1 a_sheets1_numbers a_sheets2 a_sheets2_numbers a_sheets3 a_sheets3_numbers a_findings v_isKept v_party_size v_party_list v_party_told v_party_kinds v_party_terms k.1 v_sheets0_bits v_sheets0_size v_sheets0_numbers v_sheets1_bits v_sheets1_size v_sheets1_numbers v_sheets2_bits v_sheets2_size v_sheets2_numbers v_sheets3_bits v_sheets3_size v_sheets3_numbers k.2)) fx hf h dX4_read_97
  have hf := it_f c20 hf
  refine lv_iconst (v := 0) hx hb dX4_read_54 (by decide) ?_
  refine lv_istore (lv' := [(5, .int 0), (0, .ref a_t), (1, .int y1), (3, .int y3), (4, .int y4)]) hx hb dX4_read_55 hl (by decide) rfl (fun ls hl => ?_)
  exact EX4_read_57 fx hag42 qF h (lv_sub hl [1, 2, 3, 4, 0] rfl) hf
set_option maxRecDepth 100000 in
theorem EX4_read_42 {p : Program} {l : Launch} {e : Env} {s : State} {m : MethodId} {args : Array Value} {below : List Frame} {meth : Method} {c : Code} {D : va_G} {cI cJ cZ cS : ClassId} {tb : Nat} {A : Nat → Prop} {a_t a_party a_party_kinds a_party_costs a_party_terms a_party_known a_kept a_tape a_telephone a_sheets a_sheets0 a_sheets0_numbers a_sheets1 a_sheets1_numbers a_sheets2 a_sheets2_numbers a_sheets3 a_sheets3_numbers a_findings : Nat} {v_isKept : Int32} {v_party_size : Int32} {v_party_list : Int32} {v_party_told : Int32} {v_party_kinds : Nat → Int32} {v_party_terms : Nat → Int64} {v_sheets0_bits : Int32} {v_sheets0_size : Int32} {v_sheets0_numbers : Nat → Int64} {v_sheets1_bits : Int32} {v_sheets1_size : Int32} {v_sheets1_numbers : Nat → Int64} {v_sheets2_bits : Int32} {v_sheets2_size : Int32} {v_sheets2_numbers : Nat → Int64} {v_sheets3_bits : Int32} {v_sheets3_size : Int32} {v_sheets3_numbers : Nat → Int64} {rr : Int32} {kk' : (Nat → Int32) × (Nat → Int32)} (fx : q_Fx p s m args meth c cX4_read 6 RX4 (some .int) D cI cJ cZ cS tb A) : ∀ (n : Nat), ∀ {v_party_known : Nat → Int32} {v_findings : Nat → Int32} {y1 : Int32} {y3 : Int32} {y4 : Int32} {H : Heap} {locs : List Loc} {ls : Array Slot}, q_H D A s (wX4_read cI cJ cZ cS a_t a_party a_party_kinds a_party_costs a_party_terms a_party_known a_kept a_tape a_telephone a_sheets a_sheets0 a_sheets0_numbers a_sheets1 a_sheets1_numbers a_sheets2 a_sheets2_numbers a_sheets3 a_sheets3_numbers a_findings v_isKept v_party_size v_party_list v_party_told v_party_kinds v_party_terms v_party_known v_sheets0_bits v_sheets0_size v_sheets0_numbers v_sheets1_bits v_sheets1_size v_sheets1_numbers v_sheets2_bits v_sheets2_size v_sheets2_numbers v_sheets3_bits v_sheets3_size v_sheets3_numbers v_findings) H locs → lv_has ls 6 [(0, .ref a_t), (1, .int y1), (3, .int y3), (4, .int y4)] → ll5 (fX4_read_42 v_party_size v_party_kinds v_party_terms v_sheets0_bits v_sheets0_size v_sheets0_numbers v_sheets1_bits v_sheets1_size v_sheets1_numbers v_sheets2_bits v_sheets2_size v_sheets2_numbers v_sheets3_bits v_sheets3_size v_sheets3_numbers) n v_party_known v_findings y1 y3 y4 = some (rr, kk') → W p l e rX4_read s m args below meth c H locs 0 0 (MQ below (q_Ri D rr A ((fun k : (Nat → Int32) × (Nat → Int32) => (wX4_read cI cJ cZ cS a_t a_party a_party_kinds a_party_costs a_party_terms a_party_known a_kept a_tape a_telephone a_sheets a_sheets0 a_sheets0_numbers a_sheets1 a_sheets1_numbers a_sheets2 a_sheets2_numbers a_sheets3 a_sheets3_numbers a_findings v_isKept v_party_size v_party_list v_party_told v_party_kinds v_party_terms k.1 v_sheets0_bits v_sheets0_size v_sheets0_numbers v_sheets1_bits v_sheets1_size v_sheets1_numbers v_sheets2_bits v_sheets2_size v_sheets2_numbers v_sheets3_bits v_sheets3_size v_sheets3_numbers k.2)) kk')) args s 0 0 A) (F0 m 42 ls []) := by
  intro n
  induction n with
  | zero => intro v_party_known v_findings y1 y3 y4 H locs ls h hl hf; exact (ll5_z hf).elim
  | succ n ih => intro v_party_known v_findings y1 y3 y4 H locs ls h hl hf; exact LX4_read_42 fx ih h hl (ll5_s hf)
def fX4_read (v_party_size : Int32) (v_party_kinds : Nat → Int32) (v_party_terms : Nat → Int64) (v_party_known : Nat → Int32) (v_sheets0_bits : Int32) (v_sheets0_size : Int32) (v_sheets0_numbers : Nat → Int64) (v_sheets1_bits : Int32) (v_sheets1_size : Int32) (v_sheets1_numbers : Nat → Int64) (v_sheets2_bits : Int32) (v_sheets2_size : Int32) (v_sheets2_numbers : Nat → Int64) (v_sheets3_bits : Int32) (v_sheets3_size : Int32) (v_sheets3_numbers : Nat → Int64) (v_findings : Nat → Int32) (x1 : Int32) : Option (Int32 × (Nat → Int32) × (Nat → Int32)) :=
  bR (fX4_sheetLack v_sheets0_bits v_sheets1_bits v_sheets2_bits v_sheets3_bits x1) (fun r21 k21 =>
  (if r21 = 0 then (
  sel4 x1 (
  bR (fX0_everyone v_party_size) (fun r24 k24 =>
  bR (fX1_holdsOnly v_sheets0_bits v_sheets0_size v_sheets0_numbers r24) (fun r25 k25 =>
  (if r25 = 0 then (
  some (0, (v_party_known, v_findings)))
  else (
  ll5 (fX4_read_42 v_party_size v_party_kinds v_party_terms v_sheets0_bits v_sheets0_size v_sheets0_numbers v_sheets1_bits v_sheets1_size v_sheets1_numbers v_sheets2_bits v_sheets2_size v_sheets2_numbers v_sheets3_bits v_sheets3_size v_sheets3_numbers) qF v_party_known v_findings x1 0 0)))))
  (bR (fX0_everyone v_party_size) (fun r27 k27 =>
  bR (fX1_holdsOnly v_sheets1_bits v_sheets1_size v_sheets1_numbers r27) (fun r28 k28 =>
  (if r28 = 0 then (
  some (0, (v_party_known, v_findings)))
  else (
  ll5 (fX4_read_42 v_party_size v_party_kinds v_party_terms v_sheets0_bits v_sheets0_size v_sheets0_numbers v_sheets1_bits v_sheets1_size v_sheets1_numbers v_sheets2_bits v_sheets2_size v_sheets2_numbers v_sheets3_bits v_sheets3_size v_sheets3_numbers) qF v_party_known v_findings x1 0 0)))))
  (bR (fX0_everyone v_party_size) (fun r30 k30 =>
  bR (fX1_holdsOnly v_sheets2_bits v_sheets2_size v_sheets2_numbers r30) (fun r31 k31 =>
  (if r31 = 0 then (
  some (0, (v_party_known, v_findings)))
  else (
  ll5 (fX4_read_42 v_party_size v_party_kinds v_party_terms v_sheets0_bits v_sheets0_size v_sheets0_numbers v_sheets1_bits v_sheets1_size v_sheets1_numbers v_sheets2_bits v_sheets2_size v_sheets2_numbers v_sheets3_bits v_sheets3_size v_sheets3_numbers) qF v_party_known v_findings x1 0 0)))))
  (bR (fX0_everyone v_party_size) (fun r33 k33 =>
  bR (fX1_holdsOnly v_sheets3_bits v_sheets3_size v_sheets3_numbers r33) (fun r34 k34 =>
  (if r34 = 0 then (
  some (0, (v_party_known, v_findings)))
  else (
  ll5 (fX4_read_42 v_party_size v_party_kinds v_party_terms v_sheets0_bits v_sheets0_size v_sheets0_numbers v_sheets1_bits v_sheets1_size v_sheets1_numbers v_sheets2_bits v_sheets2_size v_sheets2_numbers v_sheets3_bits v_sheets3_size v_sheets3_numbers) qF v_party_known v_findings x1 0 0))))))
  else (
  bR (fX4_found v_findings r21) (fun r36 k36 =>
  some (r36, (v_party_known, k36))))))
set_option maxRecDepth 100000 in
set_option maxHeartbeats 4000000 in
theorem tX4_read (l : Launch) (D : va_G) (cI cJ cZ cS : ClassId) (tb : Nat) (a_t a_party a_party_kinds a_party_costs a_party_terms a_party_known a_kept a_tape a_telephone a_sheets a_sheets0 a_sheets0_numbers a_sheets1 a_sheets1_numbers a_sheets2 a_sheets2_numbers a_sheets3 a_sheets3_numbers a_findings : Nat) (sz : Nat) (v_isKept : Int32) (v_party_size : Int32) (v_party_list : Int32) (v_party_told : Int32) (v_party_kinds : Nat → Int32) (v_party_terms : Nat → Int64) (v_party_known : Nat → Int32) (v_sheets0_bits : Int32) (v_sheets0_size : Int32) (v_sheets0_numbers : Nat → Int64) (v_sheets1_bits : Int32) (v_sheets1_size : Int32) (v_sheets1_numbers : Nat → Int64) (v_sheets2_bits : Int32) (v_sheets2_size : Int32) (v_sheets2_numbers : Nat → Int64) (v_sheets3_bits : Int32) (v_sheets3_size : Int32) (v_sheets3_numbers : Nat → Int64) (v_findings : Nat → Int32) (x1 : Int32) (rr : Int32) (kk' : (Nat → Int32) × (Nat → Int32)) (hf : fX4_read v_party_size v_party_kinds v_party_terms v_party_known v_sheets0_bits v_sheets0_size v_sheets0_numbers v_sheets1_bits v_sheets1_size v_sheets1_numbers v_sheets2_bits v_sheets2_size v_sheets2_numbers v_sheets3_bits v_sheets3_size v_sheets3_numbers v_findings x1 = some (rr, kk')) : Met l yX4_read (Cond.code yX4_read cX4_read 6 (some .int) :: wA) rX4_read (q_Pre D cI cJ cZ cS tb [.ref a_t, .int x1] sz (wX4_read cI cJ cZ cS a_t a_party a_party_kinds a_party_costs a_party_terms a_party_known a_kept a_tape a_telephone a_sheets a_sheets0 a_sheets0_numbers a_sheets1 a_sheets1_numbers a_sheets2 a_sheets2_numbers a_sheets3 a_sheets3_numbers a_findings v_isKept v_party_size v_party_list v_party_told v_party_kinds v_party_terms v_party_known v_sheets0_bits v_sheets0_size v_sheets0_numbers v_sheets1_bits v_sheets1_size v_sheets1_numbers v_sheets2_bits v_sheets2_size v_sheets2_numbers v_sheets3_bits v_sheets3_size v_sheets3_numbers v_findings)) (q_Ri D rr (va_A (wX4_read cI cJ cZ cS a_t a_party a_party_kinds a_party_costs a_party_terms a_party_known a_kept a_tape a_telephone a_sheets a_sheets0 a_sheets0_numbers a_sheets1 a_sheets1_numbers a_sheets2 a_sheets2_numbers a_sheets3 a_sheets3_numbers a_findings v_isKept v_party_size v_party_list v_party_told v_party_kinds v_party_terms v_party_known v_sheets0_bits v_sheets0_size v_sheets0_numbers v_sheets1_bits v_sheets1_size v_sheets1_numbers v_sheets2_bits v_sheets2_size v_sheets2_numbers v_sheets3_bits v_sheets3_size v_sheets3_numbers v_findings) sz) ((fun k : (Nat → Int32) × (Nat → Int32) => (wX4_read cI cJ cZ cS a_t a_party a_party_kinds a_party_costs a_party_terms a_party_known a_kept a_tape a_telephone a_sheets a_sheets0 a_sheets0_numbers a_sheets1 a_sheets1_numbers a_sheets2 a_sheets2_numbers a_sheets3 a_sheets3_numbers a_findings v_isKept v_party_size v_party_list v_party_told v_party_kinds v_party_terms k.1 v_sheets0_bits v_sheets0_size v_sheets0_numbers v_sheets1_bits v_sheets1_size v_sheets1_numbers v_sheets2_bits v_sheets2_size v_sheets2_numbers v_sheets3_bits v_sheets3_size v_sheets3_numbers k.2)) kk')) 0 0 (va_A (wX4_read cI cJ cZ cS a_t a_party a_party_kinds a_party_costs a_party_terms a_party_known a_kept a_tape a_telephone a_sheets a_sheets0 a_sheets0_numbers a_sheets1 a_sheets1_numbers a_sheets2 a_sheets2_numbers a_sheets3 a_sheets3_numbers a_findings v_isKept v_party_size v_party_list v_party_told v_party_kinds v_party_terms v_party_known v_sheets0_bits v_sheets0_size v_sheets0_numbers v_sheets1_bits v_sheets1_size v_sheets1_numbers v_sheets2_bits v_sheets2_size v_sheets2_numbers v_sheets3_bits v_sheets3_size v_sheets3_numbers v_findings) sz) := by
  refine q_enter (Qf := fun A => (q_Ri D rr A ((fun k : (Nat → Int32) × (Nat → Int32) => (wX4_read cI cJ cZ cS a_t a_party a_party_kinds a_party_costs a_party_terms a_party_known a_kept a_tape a_telephone a_sheets a_sheets0 a_sheets0_numbers a_sheets1 a_sheets1_numbers a_sheets2 a_sheets2_numbers a_sheets3 a_sheets3_numbers a_findings v_isKept v_party_size v_party_list v_party_told v_party_kinds v_party_terms k.1 v_sheets0_bits v_sheets0_size v_sheets0_numbers v_sheets1_bits v_sheets1_size v_sheets1_numbers v_sheets2_bits v_sheets2_size v_sheets2_numbers v_sheets3_bits v_sheets3_size v_sheets3_numbers k.2)) kk'))) (by decide) rfl (Nat.le_of_ble_eq_true rfl) ?_
  intro p e s m below meth c A ls fx hname h hl
  have hx := fx.1
  have hb := fx.2.1
  have hl : lv_has ls 6 [(0, .ref a_t), (1, .int x1)] := hl
  generalize h9 : s.heap = H at h ⊢
  clear h9
  generalize h9 : ([] : List Loc) = locs at h ⊢
  clear h9
  unfold fX4_read at hf
  refine lv_aload_n hx hb dX4_read_0 rfl (lv_at hl 0 rfl) ?_
  refine lv_iload_n hx hb dX4_read_1 rfl (lv_at hl 1 rfl) ?_
  obtain ⟨r21, k21, hg, hf⟩ := bR_inv hf
  refine q_ci (rest := []) (ws' := (wX4_read cI cJ cZ cS a_t a_party a_party_kinds a_party_costs a_party_terms a_party_known a_kept a_tape a_telephone a_sheets a_sheets0 a_sheets0_numbers a_sheets1 a_sheets1_numbers a_sheets2 a_sheets2_numbers a_sheets3 a_sheets3_numbers a_findings v_isKept v_party_size v_party_list v_party_told v_party_kinds v_party_terms v_party_known v_sheets0_bits v_sheets0_size v_sheets0_numbers v_sheets1_bits v_sheets1_size v_sheets1_numbers v_sheets2_bits v_sheets2_size v_sheets2_numbers v_sheets3_bits v_sheets3_size v_sheets3_numbers v_findings)) (w1 := (wX4_sheetLack cI cJ cZ cS a_t a_party a_kept a_tape a_telephone a_sheets a_sheets0 a_sheets0_numbers a_sheets1 a_sheets1_numbers a_sheets2 a_sheets2_numbers a_sheets3 a_sheets3_numbers a_findings v_isKept v_sheets0_bits v_sheets0_size v_sheets1_bits v_sheets1_size v_sheets2_bits v_sheets2_size v_sheets3_bits v_sheets3_size)) fx h [0, 5, 6, 8, 10, 12] rfl rfl rfl rfl (q_runV fx h hl.1 [0, 5, 6, 8, 10, 12] rfl rfl (tX4_sheetLack l D cI cJ cZ cS tb a_t a_party a_kept a_tape a_telephone a_sheets a_sheets0 a_sheets0_numbers a_sheets1 a_sheets1_numbers a_sheets2 a_sheets2_numbers a_sheets3 a_sheets3_numbers a_findings H.size v_isKept v_sheets0_bits v_sheets0_size v_sheets1_bits v_sheets1_size v_sheets2_bits v_sheets2_size v_sheets3_bits v_sheets3_size x1 r21 k21 hg) mvX4_sheetLack k_549 ⟨rfl, rfl⟩ ⟨Nat.le_of_ble_eq_true rfl, Nat.le_of_ble_eq_true rfl⟩ rfl rfl rfl rfl (Nat.le_of_ble_eq_true rfl) dX4_read_2 ⟨Nat.le_of_ble_eq_true rfl, Nat.le_of_ble_eq_true rfl⟩) (fun H locs h => ?_)
  refine lv_istore_n (lv' := [(2, .int r21), (0, .ref a_t), (1, .int x1)]) hx hb dX4_read_5 rfl hl (by decide) rfl (fun ls hl => ?_)
  refine lv_iload_n hx hb dX4_read_6 rfl (lv_at hl 0 rfl) ?_
  refine lv_if_eq (tgt := 16) hx hb dX4_read_7 (by decide) (fun c22 => ?_) (fun c22 => ?_)
  · have hf := it_t c22 hf
    refine lv_aload_n hx hb dX4_read_16 rfl (lv_at hl 1 rfl) ?_
    refine q_get (v := .ref a_sheets) fx inX4 h 0 rfl rfl 5 (by decide) k_179 rfl dX4_read_17 ?_
    refine lv_iload_n hx hb dX4_read_20 rfl (lv_at hl 2 rfl) ?_
    rcases sel4_inv hf with ⟨c23, hf⟩ | ⟨c23, hf⟩ | ⟨c23, hf⟩ | ⟨c23, hf⟩
    · refine q_aald (v := a_sheets0) fx h 5 rfl c23 (vinK (by decide)) rfl dX4_read_21 ?_
      refine lv_aload_n hx hb dX4_read_22 rfl (lv_at hl 1 rfl) ?_
      refine q_get (v := .ref a_party) fx inX4 h 0 rfl rfl 0 (by decide) k_174 rfl dX4_read_23 ?_
      obtain ⟨r24, k24, hg, hf⟩ := bR_inv hf
      refine q_ci (rest := [.ref a_sheets0]) (ws' := (wX4_read cI cJ cZ cS a_t a_party a_party_kinds a_party_costs a_party_terms a_party_known a_kept a_tape a_telephone a_sheets a_sheets0 a_sheets0_numbers a_sheets1 a_sheets1_numbers a_sheets2 a_sheets2_numbers a_sheets3 a_sheets3_numbers a_findings v_isKept v_party_size v_party_list v_party_told v_party_kinds v_party_terms v_party_known v_sheets0_bits v_sheets0_size v_sheets0_numbers v_sheets1_bits v_sheets1_size v_sheets1_numbers v_sheets2_bits v_sheets2_size v_sheets2_numbers v_sheets3_bits v_sheets3_size v_sheets3_numbers v_findings)) (w1 := (wX0_everyone cI cJ cZ cS a_party a_party_kinds a_party_costs a_party_terms a_party_known v_party_size v_party_list v_party_told)) fx h [1] rfl rfl rfl rfl (q_runV fx h hl.1 [1] rfl rfl (tX0_everyone l D cI cJ cZ cS tb a_party a_party_kinds a_party_costs a_party_terms a_party_known H.size v_party_size v_party_list v_party_told r24 k24 hg) mvX0_everyone k_456 ⟨rfl, rfl⟩ ⟨Nat.le_of_ble_eq_true rfl, Nat.le_of_ble_eq_true rfl⟩ rfl rfl rfl rfl (Nat.le_of_ble_eq_true rfl) dX4_read_26 ⟨Nat.le_of_ble_eq_true rfl, Nat.le_of_ble_eq_true rfl⟩) (fun H locs h => ?_)
      obtain ⟨r25, k25, hg, hf⟩ := bR_inv hf
      refine q_ci (rest := []) (ws' := (wX4_read cI cJ cZ cS a_t a_party a_party_kinds a_party_costs a_party_terms a_party_known a_kept a_tape a_telephone a_sheets a_sheets0 a_sheets0_numbers a_sheets1 a_sheets1_numbers a_sheets2 a_sheets2_numbers a_sheets3 a_sheets3_numbers a_findings v_isKept v_party_size v_party_list v_party_told v_party_kinds v_party_terms v_party_known v_sheets0_bits v_sheets0_size v_sheets0_numbers v_sheets1_bits v_sheets1_size v_sheets1_numbers v_sheets2_bits v_sheets2_size v_sheets2_numbers v_sheets3_bits v_sheets3_size v_sheets3_numbers v_findings)) (w1 := (wX1_holdsOnly cI cJ cZ cS a_sheets0 a_sheets0_numbers v_sheets0_bits v_sheets0_size v_sheets0_numbers)) fx h [6, 7] rfl rfl rfl rfl (q_runV fx h hl.1 [6, 7] rfl rfl (tX1_holdsOnly l D cI cJ cZ cS tb a_sheets0 a_sheets0_numbers H.size v_sheets0_bits v_sheets0_size v_sheets0_numbers r24 r25 k25 hg) mvX1_holdsOnly k_585 ⟨rfl, rfl⟩ ⟨Nat.le_of_ble_eq_true rfl, Nat.le_of_ble_eq_true rfl⟩ rfl rfl rfl rfl (Nat.le_of_ble_eq_true rfl) dX4_read_29 ⟨Nat.le_of_ble_eq_true rfl, Nat.le_of_ble_eq_true rfl⟩) (fun H locs h => ?_)
      refine lv_if_ne (tgt := 37) hx hb dX4_read_32 (by decide) (fun c26 => ?_) (fun c26 => ?_)
      · have hf := it_f c26 hf
        refine lv_iconst (v := 0) hx hb dX4_read_37 (by decide) ?_
        refine lv_istore_n (lv' := [(3, .int 0), (2, .int r21), (0, .ref a_t), (1, .int x1)]) hx hb dX4_read_38 rfl hl (by decide) rfl (fun ls hl => ?_)
        refine lv_iconst (v := 0) hx hb dX4_read_39 (by decide) ?_
        refine lv_istore (lv' := [(4, .int 0), (3, .int 0), (2, .int r21), (0, .ref a_t), (1, .int x1)]) hx hb dX4_read_40 hl (by decide) rfl (fun ls hl => ?_)
        exact EX4_read_42 fx qF h (lv_sub hl [3, 4, 1, 0] rfl) hf
      have hf := it_t c26 hf
      refine lv_iconst (v := 0) hx hb dX4_read_35 (by decide) ?_
      exact q_reti (fun k : (Nat → Int32) × (Nat → Int32) => (wX4_read cI cJ cZ cS a_t a_party a_party_kinds a_party_costs a_party_terms a_party_known a_kept a_tape a_telephone a_sheets a_sheets0 a_sheets0_numbers a_sheets1 a_sheets1_numbers a_sheets2 a_sheets2_numbers a_sheets3 a_sheets3_numbers a_findings v_isKept v_party_size v_party_list v_party_told v_party_kinds v_party_terms k.1 v_sheets0_bits v_sheets0_size v_sheets0_numbers v_sheets1_bits v_sheets1_size v_sheets1_numbers v_sheets2_bits v_sheets2_size v_sheets2_numbers v_sheets3_bits v_sheets3_size v_sheets3_numbers k.2)) fx hf h dX4_read_36
    · refine q_aald (v := a_sheets1) fx h 5 rfl c23 (vinK (by decide)) rfl dX4_read_21 ?_
      refine lv_aload_n hx hb dX4_read_22 rfl (lv_at hl 1 rfl) ?_
      refine q_get (v := .ref a_party) fx inX4 h 0 rfl rfl 0 (by decide) k_174 rfl dX4_read_23 ?_
      obtain ⟨r27, k27, hg, hf⟩ := bR_inv hf
      refine q_ci (rest := [.ref a_sheets1]) (ws' := (wX4_read cI cJ cZ cS a_t a_party a_party_kinds a_party_costs a_party_terms a_party_known a_kept a_tape a_telephone a_sheets a_sheets0 a_sheets0_numbers a_sheets1 a_sheets1_numbers a_sheets2 a_sheets2_numbers a_sheets3 a_sheets3_numbers a_findings v_isKept v_party_size v_party_list v_party_told v_party_kinds v_party_terms v_party_known v_sheets0_bits v_sheets0_size v_sheets0_numbers v_sheets1_bits v_sheets1_size v_sheets1_numbers v_sheets2_bits v_sheets2_size v_sheets2_numbers v_sheets3_bits v_sheets3_size v_sheets3_numbers v_findings)) (w1 := (wX0_everyone cI cJ cZ cS a_party a_party_kinds a_party_costs a_party_terms a_party_known v_party_size v_party_list v_party_told)) fx h [1] rfl rfl rfl rfl (q_runV fx h hl.1 [1] rfl rfl (tX0_everyone l D cI cJ cZ cS tb a_party a_party_kinds a_party_costs a_party_terms a_party_known H.size v_party_size v_party_list v_party_told r27 k27 hg) mvX0_everyone k_456 ⟨rfl, rfl⟩ ⟨Nat.le_of_ble_eq_true rfl, Nat.le_of_ble_eq_true rfl⟩ rfl rfl rfl rfl (Nat.le_of_ble_eq_true rfl) dX4_read_26 ⟨Nat.le_of_ble_eq_true rfl, Nat.le_of_ble_eq_true rfl⟩) (fun H locs h => ?_)
      obtain ⟨r28, k28, hg, hf⟩ := bR_inv hf
      refine q_ci (rest := []) (ws' := (wX4_read cI cJ cZ cS a_t a_party a_party_kinds a_party_costs a_party_terms a_party_known a_kept a_tape a_telephone a_sheets a_sheets0 a_sheets0_numbers a_sheets1 a_sheets1_numbers a_sheets2 a_sheets2_numbers a_sheets3 a_sheets3_numbers a_findings v_isKept v_party_size v_party_list v_party_told v_party_kinds v_party_terms v_party_known v_sheets0_bits v_sheets0_size v_sheets0_numbers v_sheets1_bits v_sheets1_size v_sheets1_numbers v_sheets2_bits v_sheets2_size v_sheets2_numbers v_sheets3_bits v_sheets3_size v_sheets3_numbers v_findings)) (w1 := (wX1_holdsOnly cI cJ cZ cS a_sheets1 a_sheets1_numbers v_sheets1_bits v_sheets1_size v_sheets1_numbers)) fx h [8, 9] rfl rfl rfl rfl (q_runV fx h hl.1 [8, 9] rfl rfl (tX1_holdsOnly l D cI cJ cZ cS tb a_sheets1 a_sheets1_numbers H.size v_sheets1_bits v_sheets1_size v_sheets1_numbers r27 r28 k28 hg) mvX1_holdsOnly k_585 ⟨rfl, rfl⟩ ⟨Nat.le_of_ble_eq_true rfl, Nat.le_of_ble_eq_true rfl⟩ rfl rfl rfl rfl (Nat.le_of_ble_eq_true rfl) dX4_read_29 ⟨Nat.le_of_ble_eq_true rfl, Nat.le_of_ble_eq_true rfl⟩) (fun H locs h => ?_)
      refine lv_if_ne (tgt := 37) hx hb dX4_read_32 (by decide) (fun c29 => ?_) (fun c29 => ?_)
      · have hf := it_f c29 hf
        refine lv_iconst (v := 0) hx hb dX4_read_37 (by decide) ?_
        refine lv_istore_n (lv' := [(3, .int 0), (2, .int r21), (0, .ref a_t), (1, .int x1)]) hx hb dX4_read_38 rfl hl (by decide) rfl (fun ls hl => ?_)
        refine lv_iconst (v := 0) hx hb dX4_read_39 (by decide) ?_
        refine lv_istore (lv' := [(4, .int 0), (3, .int 0), (2, .int r21), (0, .ref a_t), (1, .int x1)]) hx hb dX4_read_40 hl (by decide) rfl (fun ls hl => ?_)
        exact EX4_read_42 fx qF h (lv_sub hl [3, 4, 1, 0] rfl) hf
      have hf := it_t c29 hf
      refine lv_iconst (v := 0) hx hb dX4_read_35 (by decide) ?_
      exact q_reti (fun k : (Nat → Int32) × (Nat → Int32) => (wX4_read cI cJ cZ cS a_t a_party a_party_kinds a_party_costs a_party_terms a_party_known a_kept a_tape a_telephone a_sheets a_sheets0 a_sheets0_numbers a_sheets1 a_sheets1_numbers a_sheets2 a_sheets2_numbers a_sheets3 a_sheets3_numbers a_findings v_isKept v_party_size v_party_list v_party_told v_party_kinds v_party_terms k.1 v_sheets0_bits v_sheets0_size v_sheets0_numbers v_sheets1_bits v_sheets1_size v_sheets1_numbers v_sheets2_bits v_sheets2_size v_sheets2_numbers v_sheets3_bits v_sheets3_size v_sheets3_numbers k.2)) fx hf h dX4_read_36
    · refine q_aald (v := a_sheets2) fx h 5 rfl c23 (vinK (by decide)) rfl dX4_read_21 ?_
      refine lv_aload_n hx hb dX4_read_22 rfl (lv_at hl 1 rfl) ?_
      refine q_get (v := .ref a_party) fx inX4 h 0 rfl rfl 0 (by decide) k_174 rfl dX4_read_23 ?_
      obtain ⟨r30, k30, hg, hf⟩ := bR_inv hf
      refine q_ci (rest := [.ref a_sheets2]) (ws' := (wX4_read cI cJ cZ cS a_t a_party a_party_kinds a_party_costs a_party_terms a_party_known a_kept a_tape a_telephone a_sheets a_sheets0 a_sheets0_numbers a_sheets1 a_sheets1_numbers a_sheets2 a_sheets2_numbers a_sheets3 a_sheets3_numbers a_findings v_isKept v_party_size v_party_list v_party_told v_party_kinds v_party_terms v_party_known v_sheets0_bits v_sheets0_size v_sheets0_numbers v_sheets1_bits v_sheets1_size v_sheets1_numbers v_sheets2_bits v_sheets2_size v_sheets2_numbers v_sheets3_bits v_sheets3_size v_sheets3_numbers v_findings)) (w1 := (wX0_everyone cI cJ cZ cS a_party a_party_kinds a_party_costs a_party_terms a_party_known v_party_size v_party_list v_party_told)) fx h [1] rfl rfl rfl rfl (q_runV fx h hl.1 [1] rfl rfl (tX0_everyone l D cI cJ cZ cS tb a_party a_party_kinds a_party_costs a_party_terms a_party_known H.size v_party_size v_party_list v_party_told r30 k30 hg) mvX0_everyone k_456 ⟨rfl, rfl⟩ ⟨Nat.le_of_ble_eq_true rfl, Nat.le_of_ble_eq_true rfl⟩ rfl rfl rfl rfl (Nat.le_of_ble_eq_true rfl) dX4_read_26 ⟨Nat.le_of_ble_eq_true rfl, Nat.le_of_ble_eq_true rfl⟩) (fun H locs h => ?_)
      obtain ⟨r31, k31, hg, hf⟩ := bR_inv hf
      refine q_ci (rest := []) (ws' := (wX4_read cI cJ cZ cS a_t a_party a_party_kinds a_party_costs a_party_terms a_party_known a_kept a_tape a_telephone a_sheets a_sheets0 a_sheets0_numbers a_sheets1 a_sheets1_numbers a_sheets2 a_sheets2_numbers a_sheets3 a_sheets3_numbers a_findings v_isKept v_party_size v_party_list v_party_told v_party_kinds v_party_terms v_party_known v_sheets0_bits v_sheets0_size v_sheets0_numbers v_sheets1_bits v_sheets1_size v_sheets1_numbers v_sheets2_bits v_sheets2_size v_sheets2_numbers v_sheets3_bits v_sheets3_size v_sheets3_numbers v_findings)) (w1 := (wX1_holdsOnly cI cJ cZ cS a_sheets2 a_sheets2_numbers v_sheets2_bits v_sheets2_size v_sheets2_numbers)) fx h [10, 11] rfl rfl rfl rfl (q_runV fx h hl.1 [10, 11] rfl rfl (tX1_holdsOnly l D cI cJ cZ cS tb a_sheets2 a_sheets2_numbers H.size v_sheets2_bits v_sheets2_size v_sheets2_numbers r30 r31 k31 hg) mvX1_holdsOnly k_585 ⟨rfl, rfl⟩ ⟨Nat.le_of_ble_eq_true rfl, Nat.le_of_ble_eq_true rfl⟩ rfl rfl rfl rfl (Nat.le_of_ble_eq_true rfl) dX4_read_29 ⟨Nat.le_of_ble_eq_true rfl, Nat.le_of_ble_eq_true rfl⟩) (fun H locs h => ?_)
      refine lv_if_ne (tgt := 37) hx hb dX4_read_32 (by decide) (fun c32 => ?_) (fun c32 => ?_)
      · have hf := it_f c32 hf
        refine lv_iconst (v := 0) hx hb dX4_read_37 (by decide) ?_
        refine lv_istore_n (lv' := [(3, .int 0), (2, .int r21), (0, .ref a_t), (1, .int x1)]) hx hb dX4_read_38 rfl hl (by decide) rfl (fun ls hl => ?_)
        refine lv_iconst (v := 0) hx hb dX4_read_39 (by decide) ?_
        refine lv_istore (lv' := [(4, .int 0), (3, .int 0), (2, .int r21), (0, .ref a_t), (1, .int x1)]) hx hb dX4_read_40 hl (by decide) rfl (fun ls hl => ?_)
        exact EX4_read_42 fx qF h (lv_sub hl [3, 4, 1, 0] rfl) hf
      have hf := it_t c32 hf
      refine lv_iconst (v := 0) hx hb dX4_read_35 (by decide) ?_
      exact q_reti (fun k : (Nat → Int32) × (Nat → Int32) => (wX4_read cI cJ cZ cS a_t a_party a_party_kinds a_party_costs a_party_terms a_party_known a_kept a_tape a_telephone a_sheets a_sheets0 a_sheets0_numbers a_sheets1 a_sheets1_numbers a_sheets2 a_sheets2_numbers a_sheets3 a_sheets3_numbers a_findings v_isKept v_party_size v_party_list v_party_told v_party_kinds v_party_terms k.1 v_sheets0_bits v_sheets0_size v_sheets0_numbers v_sheets1_bits v_sheets1_size v_sheets1_numbers v_sheets2_bits v_sheets2_size v_sheets2_numbers v_sheets3_bits v_sheets3_size v_sheets3_numbers k.2)) fx hf h dX4_read_36
    · refine q_aald (v := a_sheets3) fx h 5 rfl c23 (vinK (by decide)) rfl dX4_read_21 ?_
      refine lv_aload_n hx hb dX4_read_22 rfl (lv_at hl 1 rfl) ?_
      refine q_get (v := .ref a_party) fx inX4 h 0 rfl rfl 0 (by decide) k_174 rfl dX4_read_23 ?_
      obtain ⟨r33, k33, hg, hf⟩ := bR_inv hf
      refine q_ci (rest := [.ref a_sheets3]) (ws' := (wX4_read cI cJ cZ cS a_t a_party a_party_kinds a_party_costs a_party_terms a_party_known a_kept a_tape a_telephone a_sheets a_sheets0 a_sheets0_numbers a_sheets1 a_sheets1_numbers a_sheets2 a_sheets2_numbers a_sheets3 a_sheets3_numbers a_findings v_isKept v_party_size v_party_list v_party_told v_party_kinds v_party_terms v_party_known v_sheets0_bits v_sheets0_size v_sheets0_numbers v_sheets1_bits v_sheets1_size v_sheets1_numbers v_sheets2_bits v_sheets2_size v_sheets2_numbers v_sheets3_bits v_sheets3_size v_sheets3_numbers v_findings)) (w1 := (wX0_everyone cI cJ cZ cS a_party a_party_kinds a_party_costs a_party_terms a_party_known v_party_size v_party_list v_party_told)) fx h [1] rfl rfl rfl rfl (q_runV fx h hl.1 [1] rfl rfl (tX0_everyone l D cI cJ cZ cS tb a_party a_party_kinds a_party_costs a_party_terms a_party_known H.size v_party_size v_party_list v_party_told r33 k33 hg) mvX0_everyone k_456 ⟨rfl, rfl⟩ ⟨Nat.le_of_ble_eq_true rfl, Nat.le_of_ble_eq_true rfl⟩ rfl rfl rfl rfl (Nat.le_of_ble_eq_true rfl) dX4_read_26 ⟨Nat.le_of_ble_eq_true rfl, Nat.le_of_ble_eq_true rfl⟩) (fun H locs h => ?_)
      obtain ⟨r34, k34, hg, hf⟩ := bR_inv hf
      refine q_ci (rest := []) (ws' := (wX4_read cI cJ cZ cS a_t a_party a_party_kinds a_party_costs a_party_terms a_party_known a_kept a_tape a_telephone a_sheets a_sheets0 a_sheets0_numbers a_sheets1 a_sheets1_numbers a_sheets2 a_sheets2_numbers a_sheets3 a_sheets3_numbers a_findings v_isKept v_party_size v_party_list v_party_told v_party_kinds v_party_terms v_party_known v_sheets0_bits v_sheets0_size v_sheets0_numbers v_sheets1_bits v_sheets1_size v_sheets1_numbers v_sheets2_bits v_sheets2_size v_sheets2_numbers v_sheets3_bits v_sheets3_size v_sheets3_numbers v_findings)) (w1 := (wX1_holdsOnly cI cJ cZ cS a_sheets3 a_sheets3_numbers v_sheets3_bits v_sheets3_size v_sheets3_numbers)) fx h [12, 13] rfl rfl rfl rfl (q_runV fx h hl.1 [12, 13] rfl rfl (tX1_holdsOnly l D cI cJ cZ cS tb a_sheets3 a_sheets3_numbers H.size v_sheets3_bits v_sheets3_size v_sheets3_numbers r33 r34 k34 hg) mvX1_holdsOnly k_585 ⟨rfl, rfl⟩ ⟨Nat.le_of_ble_eq_true rfl, Nat.le_of_ble_eq_true rfl⟩ rfl rfl rfl rfl (Nat.le_of_ble_eq_true rfl) dX4_read_29 ⟨Nat.le_of_ble_eq_true rfl, Nat.le_of_ble_eq_true rfl⟩) (fun H locs h => ?_)
      refine lv_if_ne (tgt := 37) hx hb dX4_read_32 (by decide) (fun c35 => ?_) (fun c35 => ?_)
      · have hf := it_f c35 hf
        refine lv_iconst (v := 0) hx hb dX4_read_37 (by decide) ?_
        refine lv_istore_n (lv' := [(3, .int 0), (2, .int r21), (0, .ref a_t), (1, .int x1)]) hx hb dX4_read_38 rfl hl (by decide) rfl (fun ls hl => ?_)
        refine lv_iconst (v := 0) hx hb dX4_read_39 (by decide) ?_
        refine lv_istore (lv' := [(4, .int 0), (3, .int 0), (2, .int r21), (0, .ref a_t), (1, .int x1)]) hx hb dX4_read_40 hl (by decide) rfl (fun ls hl => ?_)
        exact EX4_read_42 fx qF h (lv_sub hl [3, 4, 1, 0] rfl) hf
      have hf := it_t c35 hf
      refine lv_iconst (v := 0) hx hb dX4_read_35 (by decide) ?_
      exact q_reti (fun k : (Nat → Int32) × (Nat → Int32) => (wX4_read cI cJ cZ cS a_t a_party a_party_kinds a_party_costs a_party_terms a_party_known a_kept a_tape a_telephone a_sheets a_sheets0 a_sheets0_numbers a_sheets1 a_sheets1_numbers a_sheets2 a_sheets2_numbers a_sheets3 a_sheets3_numbers a_findings v_isKept v_party_size v_party_list v_party_told v_party_kinds v_party_terms k.1 v_sheets0_bits v_sheets0_size v_sheets0_numbers v_sheets1_bits v_sheets1_size v_sheets1_numbers v_sheets2_bits v_sheets2_size v_sheets2_numbers v_sheets3_bits v_sheets3_size v_sheets3_numbers k.2)) fx hf h dX4_read_36
  have hf := it_f c22 hf
  refine lv_aload_n hx hb dX4_read_10 rfl (lv_at hl 1 rfl) ?_
  refine lv_iload_n hx hb dX4_read_11 rfl (lv_at hl 0 rfl) ?_
  obtain ⟨r36, k36, hg, hf⟩ := bR_inv hf
  refine q_ci (rest := []) (ws' := (wX4_read cI cJ cZ cS a_t a_party a_party_kinds a_party_costs a_party_terms a_party_known a_kept a_tape a_telephone a_sheets a_sheets0 a_sheets0_numbers a_sheets1 a_sheets1_numbers a_sheets2 a_sheets2_numbers a_sheets3 a_sheets3_numbers a_findings v_isKept v_party_size v_party_list v_party_told v_party_kinds v_party_terms v_party_known v_sheets0_bits v_sheets0_size v_sheets0_numbers v_sheets1_bits v_sheets1_size v_sheets1_numbers v_sheets2_bits v_sheets2_size v_sheets2_numbers v_sheets3_bits v_sheets3_size v_sheets3_numbers k36)) (w1 := (wX4_found cI cJ cZ cS a_t a_party a_kept a_tape a_telephone a_sheets a_findings v_isKept k36)) fx h [0, 14] rfl rfl rfl rfl (q_runV fx h hl.1 [0, 14] rfl rfl (tX4_found l D cI cJ cZ cS tb a_t a_party a_kept a_tape a_telephone a_sheets a_findings H.size v_isKept v_findings r21 r36 k36 hg) mvX4_found k_207 ⟨rfl, rfl⟩ ⟨Nat.le_of_ble_eq_true rfl, Nat.le_of_ble_eq_true rfl⟩ rfl rfl rfl rfl (Nat.le_of_ble_eq_true rfl) dX4_read_12 ⟨Nat.le_of_ble_eq_true rfl, Nat.le_of_ble_eq_true rfl⟩) (fun H locs h => ?_)
  exact q_reti (fun k : (Nat → Int32) × (Nat → Int32) => (wX4_read cI cJ cZ cS a_t a_party a_party_kinds a_party_costs a_party_terms a_party_known a_kept a_tape a_telephone a_sheets a_sheets0 a_sheets0_numbers a_sheets1 a_sheets1_numbers a_sheets2 a_sheets2_numbers a_sheets3 a_sheets3_numbers a_findings v_isKept v_party_size v_party_list v_party_told v_party_kinds v_party_terms k.1 v_sheets0_bits v_sheets0_size v_sheets0_numbers v_sheets1_bits v_sheets1_size v_sheets1_numbers v_sheets2_bits v_sheets2_size v_sheets2_numbers v_sheets3_bits v_sheets3_size v_sheets3_numbers k.2)) fx hf h dX4_read_15
/-! X0_take -/
abbrev wX0_take (cI cJ cZ cS : ClassId) (a_t a_kinds a_costs a_terms a_known a_p1 a_p1_kinds a_p1_costs a_p1_terms a_p1_known : Nat) (v_size : Int32) (v_list : Int32) (v_told : Int32) (v_kinds : Nat → Int32) (v_costs : Nat → Int32) (v_terms : Nat → Int64) (v_known : Nat → Int32) (v_p1_size : Int32) (v_p1_list : Int32) (v_p1_told : Int32) (v_p1_kinds : Nat → Int32) (v_p1_costs : Nat → Int32) (v_p1_terms : Nat → Int64) : va_W := [(a_t, .inr (0, [.int v_size, .int v_list, .int v_told, .ref a_kinds, .ref a_costs, .ref a_terms, .ref a_known])), (a_kinds, .inl (cI, 8, .inl v_kinds)), (a_costs, .inl (cI, 8, .inl v_costs)), (a_terms, .inl (cJ, 32, .inr (.inl v_terms))), (a_known, .inl (cI, 256, .inl v_known)), (a_p1, .inr (0, [.int v_p1_size, .int v_p1_list, .int v_p1_told, .ref a_p1_kinds, .ref a_p1_costs, .ref a_p1_terms, .ref a_p1_known])), (a_p1_kinds, .inl (cI, 8, .inl v_p1_kinds)), (a_p1_costs, .inl (cI, 8, .inl v_p1_costs)), (a_p1_terms, .inl (cJ, 32, .inr (.inl v_p1_terms)))]
abbrev rX0_take : Room := { frames := 1, cells := 0, slots := 0, locals := 30 }
def fX0_take (v_size : Int32) (v_list : Int32) (v_told : Int32) (v_kinds : Nat → Int32) (v_costs : Nat → Int32) (v_terms : Nat → Int64) (v_known : Nat → Int32) (v_p1_size : Int32) (v_p1_list : Int32) (v_p1_told : Int32) (v_p1_kinds : Nat → Int32) (v_p1_costs : Nat → Int32) (v_p1_terms : Nat → Int64) : Option (Int32 × Int32 × Int32 × (Nat → Int32) × (Nat → Int32) × (Nat → Int64) × (Nat → Int32)) :=
  gCp 0 0 8 8 8 (
  gCp 0 0 8 8 8 (
  gCp 0 0 32 32 32 (
  bV (fJ7_fill_53178 256 v_known (-1)) (fun k4 =>
  some (v_p1_size, v_p1_list, v_p1_told, (va_cpy v_p1_kinds v_kinds (0 : Int32).toNatClampNeg (0 : Int32).toNatClampNeg (8 : Int32).toNatClampNeg), (va_cpy v_p1_costs v_costs (0 : Int32).toNatClampNeg (0 : Int32).toNatClampNeg (8 : Int32).toNatClampNeg), (va_cpy v_p1_terms v_terms (0 : Int32).toNatClampNeg (0 : Int32).toNatClampNeg (32 : Int32).toNatClampNeg), k4)))))
set_option maxRecDepth 100000 in
set_option maxHeartbeats 4000000 in
theorem tX0_take (l : Launch) (D : va_G) (cI cJ cZ cS : ClassId) (tb : Nat) (a_t a_kinds a_costs a_terms a_known a_p1 a_p1_kinds a_p1_costs a_p1_terms a_p1_known : Nat) (sz : Nat) (v_size : Int32) (v_list : Int32) (v_told : Int32) (v_kinds : Nat → Int32) (v_costs : Nat → Int32) (v_terms : Nat → Int64) (v_known : Nat → Int32) (v_p1_size : Int32) (v_p1_list : Int32) (v_p1_told : Int32) (v_p1_kinds : Nat → Int32) (v_p1_costs : Nat → Int32) (v_p1_terms : Nat → Int64) (kk' : Int32 × Int32 × Int32 × (Nat → Int32) × (Nat → Int32) × (Nat → Int64) × (Nat → Int32)) (hf : fX0_take v_size v_list v_told v_kinds v_costs v_terms v_known v_p1_size v_p1_list v_p1_told v_p1_kinds v_p1_costs v_p1_terms = some kk') : Met l yX0_take (Cond.code yX0_take cX0_take 2 none :: wA) rX0_take (q_Pre D cI cJ cZ cS tb [.ref a_t, .ref a_p1] sz (wX0_take cI cJ cZ cS a_t a_kinds a_costs a_terms a_known a_p1 a_p1_kinds a_p1_costs a_p1_terms a_p1_known v_size v_list v_told v_kinds v_costs v_terms v_known v_p1_size v_p1_list v_p1_told v_p1_kinds v_p1_costs v_p1_terms)) (q_Rv D (va_A (wX0_take cI cJ cZ cS a_t a_kinds a_costs a_terms a_known a_p1 a_p1_kinds a_p1_costs a_p1_terms a_p1_known v_size v_list v_told v_kinds v_costs v_terms v_known v_p1_size v_p1_list v_p1_told v_p1_kinds v_p1_costs v_p1_terms) sz) ((fun k : Int32 × Int32 × Int32 × (Nat → Int32) × (Nat → Int32) × (Nat → Int64) × (Nat → Int32) => (wX0_take cI cJ cZ cS a_t a_kinds a_costs a_terms a_known a_p1 a_p1_kinds a_p1_costs a_p1_terms a_p1_known k.1 k.2.1 k.2.2.1 k.2.2.2.1 k.2.2.2.2.1 k.2.2.2.2.2.1 k.2.2.2.2.2.2 v_p1_size v_p1_list v_p1_told v_p1_kinds v_p1_costs v_p1_terms)) kk')) 0 0 (va_A (wX0_take cI cJ cZ cS a_t a_kinds a_costs a_terms a_known a_p1 a_p1_kinds a_p1_costs a_p1_terms a_p1_known v_size v_list v_told v_kinds v_costs v_terms v_known v_p1_size v_p1_list v_p1_told v_p1_kinds v_p1_costs v_p1_terms) sz) := by
  refine q_enter (Qf := fun A => (q_Rv D A ((fun k : Int32 × Int32 × Int32 × (Nat → Int32) × (Nat → Int32) × (Nat → Int64) × (Nat → Int32) => (wX0_take cI cJ cZ cS a_t a_kinds a_costs a_terms a_known a_p1 a_p1_kinds a_p1_costs a_p1_terms a_p1_known k.1 k.2.1 k.2.2.1 k.2.2.2.1 k.2.2.2.2.1 k.2.2.2.2.2.1 k.2.2.2.2.2.2 v_p1_size v_p1_list v_p1_told v_p1_kinds v_p1_costs v_p1_terms)) kk'))) (by decide) rfl (Nat.le_of_ble_eq_true rfl) ?_
  intro p e s m below meth c A ls fx hname h hl
  have hx := fx.1
  have hb := fx.2.1
  have hl : lv_has ls 2 [(0, .ref a_t), (1, .ref a_p1)] := hl
  generalize h9 : s.heap = H at h ⊢
  clear h9
  generalize h9 : ([] : List Loc) = locs at h ⊢
  clear h9
  unfold fX0_take at hf
  refine lv_aload_n hx hb dX0_take_0 rfl (lv_at hl 0 rfl) ?_
  refine lv_aload_n hx hb dX0_take_1 rfl (lv_at hl 1 rfl) ?_
  refine q_get (v := .int v_p1_size) fx inX0 h 5 rfl rfl 0 (by decide) k_80 rfl dX0_take_2 ?_
  refine q_put (v := .int v_p1_size) (ws' := (wX0_take cI cJ cZ cS a_t a_kinds a_costs a_terms a_known a_p1 a_p1_kinds a_p1_costs a_p1_terms a_p1_known v_p1_size v_list v_told v_kinds v_costs v_terms v_known v_p1_size v_p1_list v_p1_told v_p1_kinds v_p1_costs v_p1_terms)) fx inX0 tyX0 tyX0_ok nmX0 h 0 rfl rfl 0 (by decide) k_80 rfl rfl rfl (Nat.le_of_ble_eq_true rfl) rfl dX0_take_5 (fun H locs h => ?_)
  refine lv_aload_n hx hb dX0_take_8 rfl (lv_at hl 0 rfl) ?_
  refine lv_aload_n hx hb dX0_take_9 rfl (lv_at hl 1 rfl) ?_
  refine q_get (v := .int v_p1_list) fx inX0 h 5 rfl rfl 1 (by decide) k_85 rfl dX0_take_10 ?_
  refine q_put (v := .int v_p1_list) (ws' := (wX0_take cI cJ cZ cS a_t a_kinds a_costs a_terms a_known a_p1 a_p1_kinds a_p1_costs a_p1_terms a_p1_known v_p1_size v_p1_list v_told v_kinds v_costs v_terms v_known v_p1_size v_p1_list v_p1_told v_p1_kinds v_p1_costs v_p1_terms)) fx inX0 tyX0 tyX0_ok nmX0 h 0 rfl rfl 1 (by decide) k_85 rfl rfl rfl (Nat.le_of_ble_eq_true rfl) rfl dX0_take_13 (fun H locs h => ?_)
  refine lv_aload_n hx hb dX0_take_16 rfl (lv_at hl 0 rfl) ?_
  refine lv_aload_n hx hb dX0_take_17 rfl (lv_at hl 1 rfl) ?_
  refine q_get (v := .int v_p1_told) fx inX0 h 5 rfl rfl 2 (by decide) k_86 rfl dX0_take_18 ?_
  refine q_put (v := .int v_p1_told) (ws' := (wX0_take cI cJ cZ cS a_t a_kinds a_costs a_terms a_known a_p1 a_p1_kinds a_p1_costs a_p1_terms a_p1_known v_p1_size v_p1_list v_p1_told v_kinds v_costs v_terms v_known v_p1_size v_p1_list v_p1_told v_p1_kinds v_p1_costs v_p1_terms)) fx inX0 tyX0 tyX0_ok nmX0 h 0 rfl rfl 2 (by decide) k_86 rfl rfl rfl (Nat.le_of_ble_eq_true rfl) rfl dX0_take_21 (fun H locs h => ?_)
  refine lv_aload_n hx hb dX0_take_24 rfl (lv_at hl 1 rfl) ?_
  refine q_get (v := .ref a_p1_kinds) fx inX0 h 5 rfl rfl 3 (by decide) k_88 rfl dX0_take_25 ?_
  refine lv_iconst (v := 0) hx hb dX0_take_28 (by decide) ?_
  refine lv_aload_n hx hb dX0_take_29 rfl (lv_at hl 0 rfl) ?_
  refine q_get (v := .ref a_kinds) fx inX0 h 0 rfl rfl 3 (by decide) k_88 rfl dX0_take_30 ?_
  refine lv_iconst (v := 0) hx hb dX0_take_33 (by decide) ?_
  refine lv_bipush (v := 8) hx hb dX0_take_34 (by decide) ?_
  obtain ⟨i1, hf⟩ := gCp_inv hf
  refine q_copyi (ws' := (wX0_take cI cJ cZ cS a_t a_kinds a_costs a_terms a_known a_p1 a_p1_kinds a_p1_costs a_p1_terms a_p1_known v_p1_size v_p1_list v_p1_told (va_cpy v_p1_kinds v_kinds (0 : Int32).toNatClampNeg (0 : Int32).toNatClampNeg (8 : Int32).toNatClampNeg) v_costs v_terms v_known v_p1_size v_p1_list v_p1_told v_p1_kinds v_p1_costs v_p1_terms)) fx h hl.1 6 1 rfl rfl k_613 k_572 k_571 k_58 i1 (Nat.le_of_ble_eq_true rfl) (Nat.le_of_ble_eq_true rfl) rfl dX0_take_36 (fun H locs h => ?_)
  refine lv_aload_n hx hb dX0_take_39 rfl (lv_at hl 1 rfl) ?_
  refine q_get (v := .ref a_p1_costs) fx inX0 h 5 rfl rfl 4 (by decide) k_90 rfl dX0_take_40 ?_
  refine lv_iconst (v := 0) hx hb dX0_take_43 (by decide) ?_
  refine lv_aload_n hx hb dX0_take_44 rfl (lv_at hl 0 rfl) ?_
  refine q_get (v := .ref a_costs) fx inX0 h 0 rfl rfl 4 (by decide) k_90 rfl dX0_take_45 ?_
  refine lv_iconst (v := 0) hx hb dX0_take_48 (by decide) ?_
  refine lv_bipush (v := 8) hx hb dX0_take_49 (by decide) ?_
  obtain ⟨i2, hf⟩ := gCp_inv hf
  refine q_copyi (ws' := (wX0_take cI cJ cZ cS a_t a_kinds a_costs a_terms a_known a_p1 a_p1_kinds a_p1_costs a_p1_terms a_p1_known v_p1_size v_p1_list v_p1_told (va_cpy v_p1_kinds v_kinds (0 : Int32).toNatClampNeg (0 : Int32).toNatClampNeg (8 : Int32).toNatClampNeg) (va_cpy v_p1_costs v_costs (0 : Int32).toNatClampNeg (0 : Int32).toNatClampNeg (8 : Int32).toNatClampNeg) v_terms v_known v_p1_size v_p1_list v_p1_told v_p1_kinds v_p1_costs v_p1_terms)) fx h hl.1 7 2 rfl rfl k_613 k_572 k_571 k_58 i2 (Nat.le_of_ble_eq_true rfl) (Nat.le_of_ble_eq_true rfl) rfl dX0_take_51 (fun H locs h => ?_)
  refine lv_aload_n hx hb dX0_take_54 rfl (lv_at hl 1 rfl) ?_
  refine q_get (v := .ref a_p1_terms) fx inX0 h 5 rfl rfl 5 (by decide) k_92 rfl dX0_take_55 ?_
  refine lv_iconst (v := 0) hx hb dX0_take_58 (by decide) ?_
  refine lv_aload_n hx hb dX0_take_59 rfl (lv_at hl 0 rfl) ?_
  refine q_get (v := .ref a_terms) fx inX0 h 0 rfl rfl 5 (by decide) k_92 rfl dX0_take_60 ?_
  refine lv_iconst (v := 0) hx hb dX0_take_63 (by decide) ?_
  refine lv_bipush (v := 32) hx hb dX0_take_64 (by decide) ?_
  obtain ⟨i3, hf⟩ := gCp_inv hf
  refine q_copyl (ws' := (wX0_take cI cJ cZ cS a_t a_kinds a_costs a_terms a_known a_p1 a_p1_kinds a_p1_costs a_p1_terms a_p1_known v_p1_size v_p1_list v_p1_told (va_cpy v_p1_kinds v_kinds (0 : Int32).toNatClampNeg (0 : Int32).toNatClampNeg (8 : Int32).toNatClampNeg) (va_cpy v_p1_costs v_costs (0 : Int32).toNatClampNeg (0 : Int32).toNatClampNeg (8 : Int32).toNatClampNeg) (va_cpy v_p1_terms v_terms (0 : Int32).toNatClampNeg (0 : Int32).toNatClampNeg (32 : Int32).toNatClampNeg) v_known v_p1_size v_p1_list v_p1_told v_p1_kinds v_p1_costs v_p1_terms)) fx h hl.1 8 3 rfl rfl k_613 k_572 k_571 k_58 i3 (Nat.le_of_ble_eq_true rfl) (Nat.le_of_ble_eq_true rfl) rfl dX0_take_66 (fun H locs h => ?_)
  refine lv_aload_n hx hb dX0_take_69 rfl (lv_at hl 0 rfl) ?_
  refine q_get (v := .ref a_known) fx inX0 h 0 rfl rfl 6 (by decide) k_93 rfl dX0_take_70 ?_
  refine lv_iconst (v := -1) hx hb dX0_take_73 (by decide) ?_
  obtain ⟨k4, hg, hf⟩ := bV_inv hf
  refine q_cv (rest := []) (ws' := (wX0_take cI cJ cZ cS a_t a_kinds a_costs a_terms a_known a_p1 a_p1_kinds a_p1_costs a_p1_terms a_p1_known v_p1_size v_p1_list v_p1_told (va_cpy v_p1_kinds v_kinds (0 : Int32).toNatClampNeg (0 : Int32).toNatClampNeg (8 : Int32).toNatClampNeg) (va_cpy v_p1_costs v_costs (0 : Int32).toNatClampNeg (0 : Int32).toNatClampNeg (8 : Int32).toNatClampNeg) (va_cpy v_p1_terms v_terms (0 : Int32).toNatClampNeg (0 : Int32).toNatClampNeg (32 : Int32).toNatClampNeg) k4 v_p1_size v_p1_list v_p1_told v_p1_kinds v_p1_costs v_p1_terms)) (w1 := (wJ7_fill_53178 cI cJ cZ cS 256 a_known k4)) fx h [4] rfl rfl rfl rfl (q_runS fx h hl.1 [4] rfl rfl (tJ7_fill_53178 l D cI cJ cZ cS tb 256 a_known H.size v_known (-1) k4 hg) msJ7_fill_53178 k_77 ⟨rfl, rfl⟩ ⟨Nat.le_of_ble_eq_true rfl, Nat.le_of_ble_eq_true rfl⟩ rfl rfl (Nat.le_of_ble_eq_true rfl) dX0_take_74 ⟨Nat.le_of_ble_eq_true rfl, Nat.le_of_ble_eq_true rfl⟩) (fun H locs h => ?_)
  exact q_retv (fun k : Int32 × Int32 × Int32 × (Nat → Int32) × (Nat → Int32) × (Nat → Int64) × (Nat → Int32) => (wX0_take cI cJ cZ cS a_t a_kinds a_costs a_terms a_known a_p1 a_p1_kinds a_p1_costs a_p1_terms a_p1_known k.1 k.2.1 k.2.2.1 k.2.2.2.1 k.2.2.2.2.1 k.2.2.2.2.2.1 k.2.2.2.2.2.2 v_p1_size v_p1_list v_p1_told v_p1_kinds v_p1_costs v_p1_terms)) fx hf h dX0_take_77
/-! X4_image -/
abbrev wX4_image (cI cJ cZ cS : ClassId) (a_t a_party a_party_kinds a_party_costs a_party_terms a_party_known a_kept a_kept_kinds a_kept_costs a_kept_terms a_kept_known a_tape a_telephone a_sheets a_findings : Nat) (v_isKept : Int32) (v_party_size : Int32) (v_party_list : Int32) (v_party_told : Int32) (v_party_kinds : Nat → Int32) (v_party_costs : Nat → Int32) (v_party_terms : Nat → Int64) (v_kept_size : Int32) (v_kept_list : Int32) (v_kept_told : Int32) (v_kept_kinds : Nat → Int32) (v_kept_costs : Nat → Int32) (v_kept_terms : Nat → Int64) (v_kept_known : Nat → Int32) : va_W := [(a_t, .inr (4, [.ref a_party, .ref a_kept, .int v_isKept, .ref a_tape, .ref a_telephone, .ref a_sheets, .ref a_findings])), (a_party, .inr (0, [.int v_party_size, .int v_party_list, .int v_party_told, .ref a_party_kinds, .ref a_party_costs, .ref a_party_terms, .ref a_party_known])), (a_party_kinds, .inl (cI, 8, .inl v_party_kinds)), (a_party_costs, .inl (cI, 8, .inl v_party_costs)), (a_party_terms, .inl (cJ, 32, .inr (.inl v_party_terms))), (a_kept, .inr (0, [.int v_kept_size, .int v_kept_list, .int v_kept_told, .ref a_kept_kinds, .ref a_kept_costs, .ref a_kept_terms, .ref a_kept_known])), (a_kept_kinds, .inl (cI, 8, .inl v_kept_kinds)), (a_kept_costs, .inl (cI, 8, .inl v_kept_costs)), (a_kept_terms, .inl (cJ, 32, .inr (.inl v_kept_terms))), (a_kept_known, .inl (cI, 256, .inl v_kept_known))]
abbrev rX4_image : Room := { frames := 2, cells := 0, slots := 0, locals := 51 }
def fX4_image (v_isKept : Int32) (v_party_size : Int32) (v_party_list : Int32) (v_party_told : Int32) (v_party_kinds : Nat → Int32) (v_party_costs : Nat → Int32) (v_party_terms : Nat → Int64) (v_kept_size : Int32) (v_kept_list : Int32) (v_kept_told : Int32) (v_kept_kinds : Nat → Int32) (v_kept_costs : Nat → Int32) (v_kept_terms : Nat → Int64) (v_kept_known : Nat → Int32) : Option (Int32 × Int32 × Int32 × Int32 × Int32 × (Nat → Int32) × (Nat → Int32) × (Nat → Int64) × (Nat → Int32)) :=
  bV (fX0_take v_kept_size v_kept_list v_kept_told v_kept_kinds v_kept_costs v_kept_terms v_kept_known v_party_size v_party_list v_party_told v_party_kinds v_party_costs v_party_terms) (fun k1 =>
  some (1, (1, k1.1, k1.2.1, k1.2.2.1, k1.2.2.2.1, k1.2.2.2.2.1, k1.2.2.2.2.2.1, k1.2.2.2.2.2.2)))
set_option maxRecDepth 100000 in
set_option maxHeartbeats 4000000 in
theorem tX4_image (l : Launch) (D : va_G) (cI cJ cZ cS : ClassId) (tb : Nat) (a_t a_party a_party_kinds a_party_costs a_party_terms a_party_known a_kept a_kept_kinds a_kept_costs a_kept_terms a_kept_known a_tape a_telephone a_sheets a_findings : Nat) (sz : Nat) (v_isKept : Int32) (v_party_size : Int32) (v_party_list : Int32) (v_party_told : Int32) (v_party_kinds : Nat → Int32) (v_party_costs : Nat → Int32) (v_party_terms : Nat → Int64) (v_kept_size : Int32) (v_kept_list : Int32) (v_kept_told : Int32) (v_kept_kinds : Nat → Int32) (v_kept_costs : Nat → Int32) (v_kept_terms : Nat → Int64) (v_kept_known : Nat → Int32) (rr : Int32) (kk' : Int32 × Int32 × Int32 × Int32 × (Nat → Int32) × (Nat → Int32) × (Nat → Int64) × (Nat → Int32)) (hf : fX4_image v_isKept v_party_size v_party_list v_party_told v_party_kinds v_party_costs v_party_terms v_kept_size v_kept_list v_kept_told v_kept_kinds v_kept_costs v_kept_terms v_kept_known = some (rr, kk')) : Met l yX4_image (Cond.code yX4_image cX4_image 1 (some .int) :: wA) rX4_image (q_Pre D cI cJ cZ cS tb [.ref a_t] sz (wX4_image cI cJ cZ cS a_t a_party a_party_kinds a_party_costs a_party_terms a_party_known a_kept a_kept_kinds a_kept_costs a_kept_terms a_kept_known a_tape a_telephone a_sheets a_findings v_isKept v_party_size v_party_list v_party_told v_party_kinds v_party_costs v_party_terms v_kept_size v_kept_list v_kept_told v_kept_kinds v_kept_costs v_kept_terms v_kept_known)) (q_Ri D rr (va_A (wX4_image cI cJ cZ cS a_t a_party a_party_kinds a_party_costs a_party_terms a_party_known a_kept a_kept_kinds a_kept_costs a_kept_terms a_kept_known a_tape a_telephone a_sheets a_findings v_isKept v_party_size v_party_list v_party_told v_party_kinds v_party_costs v_party_terms v_kept_size v_kept_list v_kept_told v_kept_kinds v_kept_costs v_kept_terms v_kept_known) sz) ((fun k : Int32 × Int32 × Int32 × Int32 × (Nat → Int32) × (Nat → Int32) × (Nat → Int64) × (Nat → Int32) => (wX4_image cI cJ cZ cS a_t a_party a_party_kinds a_party_costs a_party_terms a_party_known a_kept a_kept_kinds a_kept_costs a_kept_terms a_kept_known a_tape a_telephone a_sheets a_findings k.1 v_party_size v_party_list v_party_told v_party_kinds v_party_costs v_party_terms k.2.1 k.2.2.1 k.2.2.2.1 k.2.2.2.2.1 k.2.2.2.2.2.1 k.2.2.2.2.2.2.1 k.2.2.2.2.2.2.2)) kk')) 0 0 (va_A (wX4_image cI cJ cZ cS a_t a_party a_party_kinds a_party_costs a_party_terms a_party_known a_kept a_kept_kinds a_kept_costs a_kept_terms a_kept_known a_tape a_telephone a_sheets a_findings v_isKept v_party_size v_party_list v_party_told v_party_kinds v_party_costs v_party_terms v_kept_size v_kept_list v_kept_told v_kept_kinds v_kept_costs v_kept_terms v_kept_known) sz) := by
  refine q_enter (Qf := fun A => (q_Ri D rr A ((fun k : Int32 × Int32 × Int32 × Int32 × (Nat → Int32) × (Nat → Int32) × (Nat → Int64) × (Nat → Int32) => (wX4_image cI cJ cZ cS a_t a_party a_party_kinds a_party_costs a_party_terms a_party_known a_kept a_kept_kinds a_kept_costs a_kept_terms a_kept_known a_tape a_telephone a_sheets a_findings k.1 v_party_size v_party_list v_party_told v_party_kinds v_party_costs v_party_terms k.2.1 k.2.2.1 k.2.2.2.1 k.2.2.2.2.1 k.2.2.2.2.2.1 k.2.2.2.2.2.2.1 k.2.2.2.2.2.2.2)) kk'))) (by decide) rfl (Nat.le_of_ble_eq_true rfl) ?_
  intro p e s m below meth c A ls fx hname h hl
  have hx := fx.1
  have hb := fx.2.1
  have hl : lv_has ls 1 [(0, .ref a_t)] := hl
  generalize h9 : s.heap = H at h ⊢
  clear h9
  generalize h9 : ([] : List Loc) = locs at h ⊢
  clear h9
  unfold fX4_image at hf
  refine lv_aload_n hx hb dX4_image_0 rfl (lv_at hl 0 rfl) ?_
  refine q_get (v := .ref a_kept) fx inX4 h 0 rfl rfl 1 (by decide) k_175 rfl dX4_image_1 ?_
  refine lv_aload_n hx hb dX4_image_4 rfl (lv_at hl 0 rfl) ?_
  refine q_get (v := .ref a_party) fx inX4 h 0 rfl rfl 0 (by decide) k_174 rfl dX4_image_5 ?_
  obtain ⟨k1, hg, hf⟩ := bV_inv hf
  refine q_cv (rest := []) (ws' := (wX4_image cI cJ cZ cS a_t a_party a_party_kinds a_party_costs a_party_terms a_party_known a_kept a_kept_kinds a_kept_costs a_kept_terms a_kept_known a_tape a_telephone a_sheets a_findings v_isKept v_party_size v_party_list v_party_told v_party_kinds v_party_costs v_party_terms k1.1 k1.2.1 k1.2.2.1 k1.2.2.2.1 k1.2.2.2.2.1 k1.2.2.2.2.2.1 k1.2.2.2.2.2.2)) (w1 := (wX0_take cI cJ cZ cS a_kept a_kept_kinds a_kept_costs a_kept_terms a_kept_known a_party a_party_kinds a_party_costs a_party_terms a_party_known k1.1 k1.2.1 k1.2.2.1 k1.2.2.2.1 k1.2.2.2.2.1 k1.2.2.2.2.2.1 k1.2.2.2.2.2.2 v_party_size v_party_list v_party_told v_party_kinds v_party_costs v_party_terms)) fx h [5, 6, 7, 8, 9, 1, 2, 3, 4] rfl rfl rfl rfl (q_runV fx h hl.1 [5, 6, 7, 8, 9, 1, 2, 3, 4] rfl rfl (tX0_take l D cI cJ cZ cS tb a_kept a_kept_kinds a_kept_costs a_kept_terms a_kept_known a_party a_party_kinds a_party_costs a_party_terms a_party_known H.size v_kept_size v_kept_list v_kept_told v_kept_kinds v_kept_costs v_kept_terms v_kept_known v_party_size v_party_list v_party_told v_party_kinds v_party_costs v_party_terms k1 hg) mvX0_take k_609 ⟨rfl, rfl⟩ ⟨Nat.le_of_ble_eq_true rfl, Nat.le_of_ble_eq_true rfl⟩ rfl rfl rfl rfl (Nat.le_of_ble_eq_true rfl) dX4_image_8 ⟨Nat.le_of_ble_eq_true rfl, Nat.le_of_ble_eq_true rfl⟩) (fun H locs h => ?_)
  refine lv_aload_n hx hb dX4_image_11 rfl (lv_at hl 0 rfl) ?_
  refine lv_iconst (v := 1) hx hb dX4_image_12 (by decide) ?_
  refine q_put (v := .int 1) (ws' := (wX4_image cI cJ cZ cS a_t a_party a_party_kinds a_party_costs a_party_terms a_party_known a_kept a_kept_kinds a_kept_costs a_kept_terms a_kept_known a_tape a_telephone a_sheets a_findings 1 v_party_size v_party_list v_party_told v_party_kinds v_party_costs v_party_terms k1.1 k1.2.1 k1.2.2.1 k1.2.2.2.1 k1.2.2.2.2.1 k1.2.2.2.2.2.1 k1.2.2.2.2.2.2)) fx inX4 tyX4 tyX4_ok nmX4 h 0 rfl rfl 2 (by decide) k_176 rfl rfl rfl (Nat.le_of_ble_eq_true rfl) rfl dX4_image_13 (fun H locs h => ?_)
  refine lv_iconst (v := 1) hx hb dX4_image_16 (by decide) ?_
  exact q_reti (fun k : Int32 × Int32 × Int32 × Int32 × (Nat → Int32) × (Nat → Int32) × (Nat → Int64) × (Nat → Int32) => (wX4_image cI cJ cZ cS a_t a_party a_party_kinds a_party_costs a_party_terms a_party_known a_kept a_kept_kinds a_kept_costs a_kept_terms a_kept_known a_tape a_telephone a_sheets a_findings k.1 v_party_size v_party_list v_party_told v_party_kinds v_party_costs v_party_terms k.2.1 k.2.2.1 k.2.2.2.1 k.2.2.2.2.1 k.2.2.2.2.2.1 k.2.2.2.2.2.2.1 k.2.2.2.2.2.2.2)) fx hf h dX4_image_17
/-! X4_undo -/
abbrev wX4_undo (cI cJ cZ cS : ClassId) (a_t a_party a_party_kinds a_party_costs a_party_terms a_party_known a_kept a_kept_kinds a_kept_costs a_kept_terms a_kept_known a_tape a_telephone a_sheets a_findings : Nat) (v_isKept : Int32) (v_party_size : Int32) (v_party_list : Int32) (v_party_told : Int32) (v_party_kinds : Nat → Int32) (v_party_costs : Nat → Int32) (v_party_terms : Nat → Int64) (v_party_known : Nat → Int32) (v_kept_size : Int32) (v_kept_list : Int32) (v_kept_told : Int32) (v_kept_kinds : Nat → Int32) (v_kept_costs : Nat → Int32) (v_kept_terms : Nat → Int64) (v_findings : Nat → Int32) : va_W := [(a_t, .inr (4, [.ref a_party, .ref a_kept, .int v_isKept, .ref a_tape, .ref a_telephone, .ref a_sheets, .ref a_findings])), (a_party, .inr (0, [.int v_party_size, .int v_party_list, .int v_party_told, .ref a_party_kinds, .ref a_party_costs, .ref a_party_terms, .ref a_party_known])), (a_party_kinds, .inl (cI, 8, .inl v_party_kinds)), (a_party_costs, .inl (cI, 8, .inl v_party_costs)), (a_party_terms, .inl (cJ, 32, .inr (.inl v_party_terms))), (a_party_known, .inl (cI, 256, .inl v_party_known)), (a_kept, .inr (0, [.int v_kept_size, .int v_kept_list, .int v_kept_told, .ref a_kept_kinds, .ref a_kept_costs, .ref a_kept_terms, .ref a_kept_known])), (a_kept_kinds, .inl (cI, 8, .inl v_kept_kinds)), (a_kept_costs, .inl (cI, 8, .inl v_kept_costs)), (a_kept_terms, .inl (cJ, 32, .inr (.inl v_kept_terms))), (a_findings, .inl (cI, 7, .inl v_findings))]
abbrev rX4_undo : Room := { frames := 2, cells := 0, slots := 0, locals := 51 }
def fX4_undo (v_isKept : Int32) (v_party_size : Int32) (v_party_list : Int32) (v_party_told : Int32) (v_party_kinds : Nat → Int32) (v_party_costs : Nat → Int32) (v_party_terms : Nat → Int64) (v_party_known : Nat → Int32) (v_kept_size : Int32) (v_kept_list : Int32) (v_kept_told : Int32) (v_kept_kinds : Nat → Int32) (v_kept_costs : Nat → Int32) (v_kept_terms : Nat → Int64) (v_findings : Nat → Int32) : Option (Int32 × Int32 × Int32 × Int32 × (Nat → Int32) × (Nat → Int32) × (Nat → Int64) × (Nat → Int32) × (Nat → Int32)) :=
  (if v_isKept = 0 then (
  bR (fX4_found v_findings (-1000000004)) (fun r3 k3 =>
  some (r3, (v_party_size, v_party_list, v_party_told, v_party_kinds, v_party_costs, v_party_terms, v_party_known, k3))))
  else (
  bV (fX0_take v_party_size v_party_list v_party_told v_party_kinds v_party_costs v_party_terms v_party_known v_kept_size v_kept_list v_kept_told v_kept_kinds v_kept_costs v_kept_terms) (fun k2 =>
  some (k2.1, (k2.1, k2.2.1, k2.2.2.1, k2.2.2.2.1, k2.2.2.2.2.1, k2.2.2.2.2.2.1, k2.2.2.2.2.2.2, v_findings)))))
set_option maxRecDepth 100000 in
set_option maxHeartbeats 4000000 in
theorem tX4_undo (l : Launch) (D : va_G) (cI cJ cZ cS : ClassId) (tb : Nat) (a_t a_party a_party_kinds a_party_costs a_party_terms a_party_known a_kept a_kept_kinds a_kept_costs a_kept_terms a_kept_known a_tape a_telephone a_sheets a_findings : Nat) (sz : Nat) (v_isKept : Int32) (v_party_size : Int32) (v_party_list : Int32) (v_party_told : Int32) (v_party_kinds : Nat → Int32) (v_party_costs : Nat → Int32) (v_party_terms : Nat → Int64) (v_party_known : Nat → Int32) (v_kept_size : Int32) (v_kept_list : Int32) (v_kept_told : Int32) (v_kept_kinds : Nat → Int32) (v_kept_costs : Nat → Int32) (v_kept_terms : Nat → Int64) (v_findings : Nat → Int32) (rr : Int32) (kk' : Int32 × Int32 × Int32 × (Nat → Int32) × (Nat → Int32) × (Nat → Int64) × (Nat → Int32) × (Nat → Int32)) (hf : fX4_undo v_isKept v_party_size v_party_list v_party_told v_party_kinds v_party_costs v_party_terms v_party_known v_kept_size v_kept_list v_kept_told v_kept_kinds v_kept_costs v_kept_terms v_findings = some (rr, kk')) : Met l yX4_undo (Cond.code yX4_undo cX4_undo 1 (some .int) :: wA) rX4_undo (q_Pre D cI cJ cZ cS tb [.ref a_t] sz (wX4_undo cI cJ cZ cS a_t a_party a_party_kinds a_party_costs a_party_terms a_party_known a_kept a_kept_kinds a_kept_costs a_kept_terms a_kept_known a_tape a_telephone a_sheets a_findings v_isKept v_party_size v_party_list v_party_told v_party_kinds v_party_costs v_party_terms v_party_known v_kept_size v_kept_list v_kept_told v_kept_kinds v_kept_costs v_kept_terms v_findings)) (q_Ri D rr (va_A (wX4_undo cI cJ cZ cS a_t a_party a_party_kinds a_party_costs a_party_terms a_party_known a_kept a_kept_kinds a_kept_costs a_kept_terms a_kept_known a_tape a_telephone a_sheets a_findings v_isKept v_party_size v_party_list v_party_told v_party_kinds v_party_costs v_party_terms v_party_known v_kept_size v_kept_list v_kept_told v_kept_kinds v_kept_costs v_kept_terms v_findings) sz) ((fun k : Int32 × Int32 × Int32 × (Nat → Int32) × (Nat → Int32) × (Nat → Int64) × (Nat → Int32) × (Nat → Int32) => (wX4_undo cI cJ cZ cS a_t a_party a_party_kinds a_party_costs a_party_terms a_party_known a_kept a_kept_kinds a_kept_costs a_kept_terms a_kept_known a_tape a_telephone a_sheets a_findings v_isKept k.1 k.2.1 k.2.2.1 k.2.2.2.1 k.2.2.2.2.1 k.2.2.2.2.2.1 k.2.2.2.2.2.2.1 v_kept_size v_kept_list v_kept_told v_kept_kinds v_kept_costs v_kept_terms k.2.2.2.2.2.2.2)) kk')) 0 0 (va_A (wX4_undo cI cJ cZ cS a_t a_party a_party_kinds a_party_costs a_party_terms a_party_known a_kept a_kept_kinds a_kept_costs a_kept_terms a_kept_known a_tape a_telephone a_sheets a_findings v_isKept v_party_size v_party_list v_party_told v_party_kinds v_party_costs v_party_terms v_party_known v_kept_size v_kept_list v_kept_told v_kept_kinds v_kept_costs v_kept_terms v_findings) sz) := by
  refine q_enter (Qf := fun A => (q_Ri D rr A ((fun k : Int32 × Int32 × Int32 × (Nat → Int32) × (Nat → Int32) × (Nat → Int64) × (Nat → Int32) × (Nat → Int32) => (wX4_undo cI cJ cZ cS a_t a_party a_party_kinds a_party_costs a_party_terms a_party_known a_kept a_kept_kinds a_kept_costs a_kept_terms a_kept_known a_tape a_telephone a_sheets a_findings v_isKept k.1 k.2.1 k.2.2.1 k.2.2.2.1 k.2.2.2.2.1 k.2.2.2.2.2.1 k.2.2.2.2.2.2.1 v_kept_size v_kept_list v_kept_told v_kept_kinds v_kept_costs v_kept_terms k.2.2.2.2.2.2.2)) kk'))) (by decide) rfl (Nat.le_of_ble_eq_true rfl) ?_
  intro p e s m below meth c A ls fx hname h hl
  have hx := fx.1
  have hb := fx.2.1
  have hl : lv_has ls 1 [(0, .ref a_t)] := hl
  generalize h9 : s.heap = H at h ⊢
  clear h9
  generalize h9 : ([] : List Loc) = locs at h ⊢
  clear h9
  unfold fX4_undo at hf
  refine lv_aload_n hx hb dX4_undo_0 rfl (lv_at hl 0 rfl) ?_
  refine q_get (v := .int v_isKept) fx inX4 h 0 rfl rfl 2 (by decide) k_176 rfl dX4_undo_1 ?_
  refine lv_if_ne (tgt := 14) hx hb dX4_undo_4 (by decide) (fun c1 => ?_) (fun c1 => ?_)
  · have hf := it_f c1 hf
    refine lv_aload_n hx hb dX4_undo_14 rfl (lv_at hl 0 rfl) ?_
    refine q_get (v := .ref a_party) fx inX4 h 0 rfl rfl 0 (by decide) k_174 rfl dX4_undo_15 ?_
    refine lv_aload_n hx hb dX4_undo_18 rfl (lv_at hl 0 rfl) ?_
    refine q_get (v := .ref a_kept) fx inX4 h 0 rfl rfl 1 (by decide) k_175 rfl dX4_undo_19 ?_
    obtain ⟨k2, hg, hf⟩ := bV_inv hf
    refine q_cv (rest := []) (ws' := (wX4_undo cI cJ cZ cS a_t a_party a_party_kinds a_party_costs a_party_terms a_party_known a_kept a_kept_kinds a_kept_costs a_kept_terms a_kept_known a_tape a_telephone a_sheets a_findings v_isKept k2.1 k2.2.1 k2.2.2.1 k2.2.2.2.1 k2.2.2.2.2.1 k2.2.2.2.2.2.1 k2.2.2.2.2.2.2 v_kept_size v_kept_list v_kept_told v_kept_kinds v_kept_costs v_kept_terms v_findings)) (w1 := (wX0_take cI cJ cZ cS a_party a_party_kinds a_party_costs a_party_terms a_party_known a_kept a_kept_kinds a_kept_costs a_kept_terms a_kept_known k2.1 k2.2.1 k2.2.2.1 k2.2.2.2.1 k2.2.2.2.2.1 k2.2.2.2.2.2.1 k2.2.2.2.2.2.2 v_kept_size v_kept_list v_kept_told v_kept_kinds v_kept_costs v_kept_terms)) fx h [1, 2, 3, 4, 5, 6, 7, 8, 9] rfl rfl rfl rfl (q_runV fx h hl.1 [1, 2, 3, 4, 5, 6, 7, 8, 9] rfl rfl (tX0_take l D cI cJ cZ cS tb a_party a_party_kinds a_party_costs a_party_terms a_party_known a_kept a_kept_kinds a_kept_costs a_kept_terms a_kept_known H.size v_party_size v_party_list v_party_told v_party_kinds v_party_costs v_party_terms v_party_known v_kept_size v_kept_list v_kept_told v_kept_kinds v_kept_costs v_kept_terms k2 hg) mvX0_take k_609 ⟨rfl, rfl⟩ ⟨Nat.le_of_ble_eq_true rfl, Nat.le_of_ble_eq_true rfl⟩ rfl rfl rfl rfl (Nat.le_of_ble_eq_true rfl) dX4_undo_22 ⟨Nat.le_of_ble_eq_true rfl, Nat.le_of_ble_eq_true rfl⟩) (fun H locs h => ?_)
    refine lv_aload_n hx hb dX4_undo_25 rfl (lv_at hl 0 rfl) ?_
    refine q_get (v := .ref a_party) fx inX4 h 0 rfl rfl 0 (by decide) k_174 rfl dX4_undo_26 ?_
    refine q_getN (v := .int k2.1) fx inX0 h 1 rfl rfl 0 (by decide) nf_0 rfl dX4_undo_29 ?_
    exact q_reti (fun k : Int32 × Int32 × Int32 × (Nat → Int32) × (Nat → Int32) × (Nat → Int64) × (Nat → Int32) × (Nat → Int32) => (wX4_undo cI cJ cZ cS a_t a_party a_party_kinds a_party_costs a_party_terms a_party_known a_kept a_kept_kinds a_kept_costs a_kept_terms a_kept_known a_tape a_telephone a_sheets a_findings v_isKept k.1 k.2.1 k.2.2.1 k.2.2.2.1 k.2.2.2.2.1 k.2.2.2.2.2.1 k.2.2.2.2.2.2.1 v_kept_size v_kept_list v_kept_told v_kept_kinds v_kept_costs v_kept_terms k.2.2.2.2.2.2.2)) fx hf h dX4_undo_32
  have hf := it_t c1 hf
  refine lv_aload_n hx hb dX4_undo_7 rfl (lv_at hl 0 rfl) ?_
  refine q_ldc fx k_402 dX4_undo_8 ?_
  obtain ⟨r3, k3, hg, hf⟩ := bR_inv hf
  refine q_ci (rest := []) (ws' := (wX4_undo cI cJ cZ cS a_t a_party a_party_kinds a_party_costs a_party_terms a_party_known a_kept a_kept_kinds a_kept_costs a_kept_terms a_kept_known a_tape a_telephone a_sheets a_findings v_isKept v_party_size v_party_list v_party_told v_party_kinds v_party_costs v_party_terms v_party_known v_kept_size v_kept_list v_kept_told v_kept_kinds v_kept_costs v_kept_terms k3)) (w1 := (wX4_found cI cJ cZ cS a_t a_party a_kept a_tape a_telephone a_sheets a_findings v_isKept k3)) fx h [0, 10] rfl rfl rfl rfl (q_runV fx h hl.1 [0, 10] rfl rfl (tX4_found l D cI cJ cZ cS tb a_t a_party a_kept a_tape a_telephone a_sheets a_findings H.size v_isKept v_findings (-1000000004) r3 k3 hg) mvX4_found k_207 ⟨rfl, rfl⟩ ⟨Nat.le_of_ble_eq_true rfl, Nat.le_of_ble_eq_true rfl⟩ rfl rfl rfl rfl (Nat.le_of_ble_eq_true rfl) dX4_undo_10 ⟨Nat.le_of_ble_eq_true rfl, Nat.le_of_ble_eq_true rfl⟩) (fun H locs h => ?_)
  exact q_reti (fun k : Int32 × Int32 × Int32 × (Nat → Int32) × (Nat → Int32) × (Nat → Int64) × (Nat → Int32) × (Nat → Int32) => (wX4_undo cI cJ cZ cS a_t a_party a_party_kinds a_party_costs a_party_terms a_party_known a_kept a_kept_kinds a_kept_costs a_kept_terms a_kept_known a_tape a_telephone a_sheets a_findings v_isKept k.1 k.2.1 k.2.2.1 k.2.2.2.1 k.2.2.2.2.1 k.2.2.2.2.2.1 k.2.2.2.2.2.2.1 v_kept_size v_kept_list v_kept_told v_kept_kinds v_kept_costs v_kept_terms k.2.2.2.2.2.2.2)) fx hf h dX4_undo_13
/-! X4_tear -/
abbrev wX4_tear (cI cJ cZ cS : ClassId) (a_t a_party a_kept a_tape a_telephone a_sheets a_findings : Nat) (v_isKept : Int32) : va_W := [(a_t, .inr (4, [.ref a_party, .ref a_kept, .int v_isKept, .ref a_tape, .ref a_telephone, .ref a_sheets, .ref a_findings]))]
abbrev rX4_tear : Room := { frames := 1, cells := 0, slots := 0, locals := 20 }
def fX4_tear (v_isKept : Int32) : Option (Int32 × Int32) :=
  bR (fX4_oneIf v_isKept) (fun r1 k1 =>
  some (r1, 0))
set_option maxRecDepth 100000 in
set_option maxHeartbeats 4000000 in
theorem tX4_tear (l : Launch) (D : va_G) (cI cJ cZ cS : ClassId) (tb : Nat) (a_t a_party a_kept a_tape a_telephone a_sheets a_findings : Nat) (sz : Nat) (v_isKept : Int32) (rr : Int32) (kk' : Int32) (hf : fX4_tear v_isKept = some (rr, kk')) : Met l yX4_tear (Cond.code yX4_tear cX4_tear 2 (some .int) :: wA) rX4_tear (q_Pre D cI cJ cZ cS tb [.ref a_t] sz (wX4_tear cI cJ cZ cS a_t a_party a_kept a_tape a_telephone a_sheets a_findings v_isKept)) (q_Ri D rr (va_A (wX4_tear cI cJ cZ cS a_t a_party a_kept a_tape a_telephone a_sheets a_findings v_isKept) sz) ((fun k : Int32 => (wX4_tear cI cJ cZ cS a_t a_party a_kept a_tape a_telephone a_sheets a_findings k)) kk')) 0 0 (va_A (wX4_tear cI cJ cZ cS a_t a_party a_kept a_tape a_telephone a_sheets a_findings v_isKept) sz) := by
  refine q_enter (Qf := fun A => (q_Ri D rr A ((fun k : Int32 => (wX4_tear cI cJ cZ cS a_t a_party a_kept a_tape a_telephone a_sheets a_findings k)) kk'))) (by decide) rfl (Nat.le_of_ble_eq_true rfl) ?_
  intro p e s m below meth c A ls fx hname h hl
  have hx := fx.1
  have hb := fx.2.1
  have hl : lv_has ls 2 [(0, .ref a_t)] := hl
  generalize h9 : s.heap = H at h ⊢
  clear h9
  generalize h9 : ([] : List Loc) = locs at h ⊢
  clear h9
  unfold fX4_tear at hf
  refine lv_aload_n hx hb dX4_tear_0 rfl (lv_at hl 0 rfl) ?_
  refine q_get (v := .int v_isKept) fx inX4 h 0 rfl rfl 2 (by decide) k_176 rfl dX4_tear_1 ?_
  obtain ⟨r1, k1, hg, hf⟩ := bR_inv hf
  refine q_ci (rest := []) (ws' := (wX4_tear cI cJ cZ cS a_t a_party a_kept a_tape a_telephone a_sheets a_findings v_isKept)) (w1 := (wX4_oneIf cI cJ cZ cS)) fx h [] rfl rfl rfl rfl (q_runS fx h hl.1 [] rfl rfl (tX4_oneIf l D cI cJ cZ cS tb H.size v_isKept r1 k1 hg) msX4_oneIf k_246 ⟨rfl, rfl⟩ ⟨Nat.le_of_ble_eq_true rfl, Nat.le_of_ble_eq_true rfl⟩ rfl rfl (Nat.le_of_ble_eq_true rfl) dX4_tear_4 ⟨Nat.le_of_ble_eq_true rfl, Nat.le_of_ble_eq_true rfl⟩) (fun H locs h => ?_)
  refine lv_istore_n (lv' := [(1, .int r1), (0, .ref a_t)]) hx hb dX4_tear_7 rfl hl (by decide) rfl (fun ls hl => ?_)
  refine lv_aload_n hx hb dX4_tear_8 rfl (lv_at hl 1 rfl) ?_
  refine lv_iconst (v := 0) hx hb dX4_tear_9 (by decide) ?_
  refine q_put (v := .int 0) (ws' := (wX4_tear cI cJ cZ cS a_t a_party a_kept a_tape a_telephone a_sheets a_findings 0)) fx inX4 tyX4 tyX4_ok nmX4 h 0 rfl rfl 2 (by decide) k_176 rfl rfl rfl (Nat.le_of_ble_eq_true rfl) rfl dX4_tear_10 (fun H locs h => ?_)
  refine lv_iload_n hx hb dX4_tear_13 rfl (lv_at hl 0 rfl) ?_
  exact q_reti (fun k : Int32 => (wX4_tear cI cJ cZ cS a_t a_party a_kept a_tape a_telephone a_sheets a_findings k)) fx hf h dX4_tear_14
/-! X4_count -/
abbrev wX4_count (cI cJ cZ cS : ClassId) (a_t a_party a_party_kinds a_party_costs a_party_terms a_party_known a_kept a_tape a_tape_bytes a_telephone a_sheets a_findings : Nat) (v_isKept : Int32) (v_party_size : Int32) (v_party_list : Int32) (v_party_told : Int32) (v_party_costs : Nat → Int32) (v_tape_length : Int32) (v_tape_place : Int32) (v_tape_fault : Int32) (v_tape_teller : Int32) (v_tape_word : Int32) (v_findings : Nat → Int32) : va_W := [(a_t, .inr (4, [.ref a_party, .ref a_kept, .int v_isKept, .ref a_tape, .ref a_telephone, .ref a_sheets, .ref a_findings])), (a_party, .inr (0, [.int v_party_size, .int v_party_list, .int v_party_told, .ref a_party_kinds, .ref a_party_costs, .ref a_party_terms, .ref a_party_known])), (a_party_costs, .inl (cI, 8, .inl v_party_costs)), (a_tape, .inr (2, [.ref a_tape_bytes, .int v_tape_length, .int v_tape_place, .int v_tape_fault, .int v_tape_teller, .int v_tape_word])), (a_findings, .inl (cI, 7, .inl v_findings))]
abbrev rX4_count : Room := { frames := 2, cells := 0, slots := 0, locals := 44 }
def fX4_count (v_party_size : Int32) (v_party_told : Int32) (v_party_costs : Nat → Int32) (v_tape_length : Int32) (v_findings : Nat → Int32) (x1 : Int32) : Option (Int32 × (Nat → Int32)) :=
  (if (x1).toInt < 0 ∨ 3 < (x1).toInt then (
  bR (fX4_found v_findings (-1000000001)) (fun r2 k2 =>
  some (r2, k2)))
  else (if x1 = 0 then (
  some (v_party_size, v_findings))
  else (if x1 = 1 then (
  some (v_tape_length, v_findings))
  else (if x1 = 2 then (
  bR (fX0_everyone v_party_size) (fun r6 k6 =>
  bR (fX0_costsOf v_party_size v_party_costs r6) (fun r7 k7 =>
  some (r7, v_findings))))
  else (if x1 = 3 then (
  some (v_party_told, v_findings))
  else none)))))
set_option maxRecDepth 100000 in
set_option maxHeartbeats 4000000 in
theorem tX4_count (l : Launch) (D : va_G) (cI cJ cZ cS : ClassId) (tb : Nat) (a_t a_party a_party_kinds a_party_costs a_party_terms a_party_known a_kept a_tape a_tape_bytes a_telephone a_sheets a_findings : Nat) (sz : Nat) (v_isKept : Int32) (v_party_size : Int32) (v_party_list : Int32) (v_party_told : Int32) (v_party_costs : Nat → Int32) (v_tape_length : Int32) (v_tape_place : Int32) (v_tape_fault : Int32) (v_tape_teller : Int32) (v_tape_word : Int32) (v_findings : Nat → Int32) (x1 : Int32) (rr : Int32) (kk' : (Nat → Int32)) (hf : fX4_count v_party_size v_party_told v_party_costs v_tape_length v_findings x1 = some (rr, kk')) : Met l yX4_count (Cond.code yX4_count cX4_count 2 (some .int) :: wA) rX4_count (q_Pre D cI cJ cZ cS tb [.ref a_t, .int x1] sz (wX4_count cI cJ cZ cS a_t a_party a_party_kinds a_party_costs a_party_terms a_party_known a_kept a_tape a_tape_bytes a_telephone a_sheets a_findings v_isKept v_party_size v_party_list v_party_told v_party_costs v_tape_length v_tape_place v_tape_fault v_tape_teller v_tape_word v_findings)) (q_Ri D rr (va_A (wX4_count cI cJ cZ cS a_t a_party a_party_kinds a_party_costs a_party_terms a_party_known a_kept a_tape a_tape_bytes a_telephone a_sheets a_findings v_isKept v_party_size v_party_list v_party_told v_party_costs v_tape_length v_tape_place v_tape_fault v_tape_teller v_tape_word v_findings) sz) ((fun k : (Nat → Int32) => (wX4_count cI cJ cZ cS a_t a_party a_party_kinds a_party_costs a_party_terms a_party_known a_kept a_tape a_tape_bytes a_telephone a_sheets a_findings v_isKept v_party_size v_party_list v_party_told v_party_costs v_tape_length v_tape_place v_tape_fault v_tape_teller v_tape_word k)) kk')) 0 0 (va_A (wX4_count cI cJ cZ cS a_t a_party a_party_kinds a_party_costs a_party_terms a_party_known a_kept a_tape a_tape_bytes a_telephone a_sheets a_findings v_isKept v_party_size v_party_list v_party_told v_party_costs v_tape_length v_tape_place v_tape_fault v_tape_teller v_tape_word v_findings) sz) := by
  refine q_enter (Qf := fun A => (q_Ri D rr A ((fun k : (Nat → Int32) => (wX4_count cI cJ cZ cS a_t a_party a_party_kinds a_party_costs a_party_terms a_party_known a_kept a_tape a_tape_bytes a_telephone a_sheets a_findings v_isKept v_party_size v_party_list v_party_told v_party_costs v_tape_length v_tape_place v_tape_fault v_tape_teller v_tape_word k)) kk'))) (by decide) rfl (Nat.le_of_ble_eq_true rfl) ?_
  intro p e s m below meth c A ls fx hname h hl
  have hx := fx.1
  have hb := fx.2.1
  have hl : lv_has ls 2 [(0, .ref a_t), (1, .int x1)] := hl
  generalize h9 : s.heap = H at h ⊢
  clear h9
  generalize h9 : ([] : List Loc) = locs at h ⊢
  clear h9
  unfold fX4_count at hf
  refine lv_iload_n hx hb dX4_count_0 rfl (lv_at hl 1 rfl) ?_
  rcases it_or hf with ⟨c1, hf⟩ | ⟨c1, hf⟩
  · refine lv_tableOut (tgt := 71) hx hb dX4_count_1 c1 (by decide) ?_
    refine lv_aload_n hx hb dX4_count_71 rfl (lv_at hl 0 rfl) ?_
    refine q_ldc fx k_206 dX4_count_72 ?_
    obtain ⟨r2, k2, hg, hf⟩ := bR_inv hf
    refine q_ci (rest := []) (ws' := (wX4_count cI cJ cZ cS a_t a_party a_party_kinds a_party_costs a_party_terms a_party_known a_kept a_tape a_tape_bytes a_telephone a_sheets a_findings v_isKept v_party_size v_party_list v_party_told v_party_costs v_tape_length v_tape_place v_tape_fault v_tape_teller v_tape_word k2)) (w1 := (wX4_found cI cJ cZ cS a_t a_party a_kept a_tape a_telephone a_sheets a_findings v_isKept k2)) fx h [0, 4] rfl rfl rfl rfl (q_runV fx h hl.1 [0, 4] rfl rfl (tX4_found l D cI cJ cZ cS tb a_t a_party a_kept a_tape a_telephone a_sheets a_findings H.size v_isKept v_findings (-1000000001) r2 k2 hg) mvX4_found k_207 ⟨rfl, rfl⟩ ⟨Nat.le_of_ble_eq_true rfl, Nat.le_of_ble_eq_true rfl⟩ rfl rfl rfl rfl (Nat.le_of_ble_eq_true rfl) dX4_count_74 ⟨Nat.le_of_ble_eq_true rfl, Nat.le_of_ble_eq_true rfl⟩) (fun H locs h => ?_)
    exact q_reti (fun k : (Nat → Int32) => (wX4_count cI cJ cZ cS a_t a_party a_party_kinds a_party_costs a_party_terms a_party_known a_kept a_tape a_tape_bytes a_telephone a_sheets a_findings v_isKept v_party_size v_party_list v_party_told v_party_costs v_tape_length v_tape_place v_tape_fault v_tape_teller v_tape_word k)) fx hf h dX4_count_77
  have c1 := not_or.mp c1
  rcases it_or hf with ⟨c3, hf⟩ | ⟨c3, hf⟩
  · refine lv_tableIn (off := 31) (tgt := 32) hx hb dX4_count_1 c1.1 c1.2 (by rw [c3]; rfl) (by decide) ?_
    refine lv_aload_n hx hb dX4_count_32 rfl (lv_at hl 0 rfl) ?_
    refine q_get (v := .ref a_party) fx inX4 h 0 rfl rfl 0 (by decide) k_174 rfl dX4_count_33 ?_
    refine q_getN (v := .int v_party_size) fx inX0 h 1 rfl rfl 0 (by decide) nf_0 rfl dX4_count_36 ?_
    exact q_reti (fun k : (Nat → Int32) => (wX4_count cI cJ cZ cS a_t a_party a_party_kinds a_party_costs a_party_terms a_party_known a_kept a_tape a_tape_bytes a_telephone a_sheets a_findings v_isKept v_party_size v_party_list v_party_told v_party_costs v_tape_length v_tape_place v_tape_fault v_tape_teller v_tape_word k)) fx hf h dX4_count_39
  rcases it_or hf with ⟨c4, hf⟩ | ⟨c4, hf⟩
  · refine lv_tableIn (off := 39) (tgt := 40) hx hb dX4_count_1 c1.1 c1.2 (by rw [c4]; rfl) (by decide) ?_
    refine lv_aload_n hx hb dX4_count_40 rfl (lv_at hl 0 rfl) ?_
    refine q_get (v := .ref a_tape) fx inX4 h 0 rfl rfl 3 (by decide) k_177 rfl dX4_count_41 ?_
    refine q_getN (v := .int v_tape_length) fx inX2 h 3 rfl rfl 1 (by decide) nf_7 rfl dX4_count_44 ?_
    exact q_reti (fun k : (Nat → Int32) => (wX4_count cI cJ cZ cS a_t a_party a_party_kinds a_party_costs a_party_terms a_party_known a_kept a_tape a_tape_bytes a_telephone a_sheets a_findings v_isKept v_party_size v_party_list v_party_told v_party_costs v_tape_length v_tape_place v_tape_fault v_tape_teller v_tape_word k)) fx hf h dX4_count_47
  rcases it_or hf with ⟨c5, hf⟩ | ⟨c5, hf⟩
  · refine lv_tableIn (off := 47) (tgt := 48) hx hb dX4_count_1 c1.1 c1.2 (by rw [c5]; rfl) (by decide) ?_
    refine lv_aload_n hx hb dX4_count_48 rfl (lv_at hl 0 rfl) ?_
    refine q_get (v := .ref a_party) fx inX4 h 0 rfl rfl 0 (by decide) k_174 rfl dX4_count_49 ?_
    refine lv_aload_n hx hb dX4_count_52 rfl (lv_at hl 0 rfl) ?_
    refine q_get (v := .ref a_party) fx inX4 h 0 rfl rfl 0 (by decide) k_174 rfl dX4_count_53 ?_
    obtain ⟨r6, k6, hg, hf⟩ := bR_inv hf
    refine q_ci (rest := [.ref a_party]) (ws' := (wX4_count cI cJ cZ cS a_t a_party a_party_kinds a_party_costs a_party_terms a_party_known a_kept a_tape a_tape_bytes a_telephone a_sheets a_findings v_isKept v_party_size v_party_list v_party_told v_party_costs v_tape_length v_tape_place v_tape_fault v_tape_teller v_tape_word v_findings)) (w1 := (wX0_everyone cI cJ cZ cS a_party a_party_kinds a_party_costs a_party_terms a_party_known v_party_size v_party_list v_party_told)) fx h [1] rfl rfl rfl rfl (q_runV fx h hl.1 [1] rfl rfl (tX0_everyone l D cI cJ cZ cS tb a_party a_party_kinds a_party_costs a_party_terms a_party_known H.size v_party_size v_party_list v_party_told r6 k6 hg) mvX0_everyone k_456 ⟨rfl, rfl⟩ ⟨Nat.le_of_ble_eq_true rfl, Nat.le_of_ble_eq_true rfl⟩ rfl rfl rfl rfl (Nat.le_of_ble_eq_true rfl) dX4_count_56 ⟨Nat.le_of_ble_eq_true rfl, Nat.le_of_ble_eq_true rfl⟩) (fun H locs h => ?_)
    obtain ⟨r7, k7, hg, hf⟩ := bR_inv hf
    refine q_ci (rest := []) (ws' := (wX4_count cI cJ cZ cS a_t a_party a_party_kinds a_party_costs a_party_terms a_party_known a_kept a_tape a_tape_bytes a_telephone a_sheets a_findings v_isKept v_party_size v_party_list v_party_told v_party_costs v_tape_length v_tape_place v_tape_fault v_tape_teller v_tape_word v_findings)) (w1 := (wX0_costsOf cI cJ cZ cS a_party a_party_kinds a_party_costs a_party_terms a_party_known v_party_size v_party_list v_party_told v_party_costs)) fx h [1, 2] rfl rfl rfl rfl (q_runV fx h hl.1 [1, 2] rfl rfl (tX0_costsOf l D cI cJ cZ cS tb a_party a_party_kinds a_party_costs a_party_terms a_party_known H.size v_party_size v_party_list v_party_told v_party_costs r6 r7 k7 hg) mvX0_costsOf k_363 ⟨rfl, rfl⟩ ⟨Nat.le_of_ble_eq_true rfl, Nat.le_of_ble_eq_true rfl⟩ rfl rfl rfl rfl (Nat.le_of_ble_eq_true rfl) dX4_count_59 ⟨Nat.le_of_ble_eq_true rfl, Nat.le_of_ble_eq_true rfl⟩) (fun H locs h => ?_)
    exact q_reti (fun k : (Nat → Int32) => (wX4_count cI cJ cZ cS a_t a_party a_party_kinds a_party_costs a_party_terms a_party_known a_kept a_tape a_tape_bytes a_telephone a_sheets a_findings v_isKept v_party_size v_party_list v_party_told v_party_costs v_tape_length v_tape_place v_tape_fault v_tape_teller v_tape_word k)) fx hf h dX4_count_62
  rcases it_or hf with ⟨c8, hf⟩ | ⟨c8, hf⟩
  · refine lv_tableIn (off := 62) (tgt := 63) hx hb dX4_count_1 c1.1 c1.2 (by rw [c8]; rfl) (by decide) ?_
    refine lv_aload_n hx hb dX4_count_63 rfl (lv_at hl 0 rfl) ?_
    refine q_get (v := .ref a_party) fx inX4 h 0 rfl rfl 0 (by decide) k_174 rfl dX4_count_64 ?_
    refine q_getN (v := .int v_party_told) fx inX0 h 1 rfl rfl 2 (by decide) nf_4 rfl dX4_count_67 ?_
    exact q_reti (fun k : (Nat → Int32) => (wX4_count cI cJ cZ cS a_t a_party a_party_kinds a_party_costs a_party_terms a_party_known a_kept a_tape a_tape_bytes a_telephone a_sheets a_findings v_isKept v_party_size v_party_list v_party_told v_party_costs v_tape_length v_tape_place v_tape_fault v_tape_teller v_tape_word k)) fx hf h dX4_count_70
  cases hf
/-! X4_status -/
abbrev wX4_status (cI cJ cZ cS : ClassId) (a_t a_party a_kept a_tape a_telephone a_sheets a_findings : Nat) (v_isKept : Int32) (v_findings : Nat → Int32) : va_W := [(a_t, .inr (4, [.ref a_party, .ref a_kept, .int v_isKept, .ref a_tape, .ref a_telephone, .ref a_sheets, .ref a_findings])), (a_findings, .inl (cI, 7, .inl v_findings))]
abbrev rX4_status : Room := { frames := 1, cells := 0, slots := 0, locals := 22 }
def fX4_status_33 (ag33 : (Nat → Int32) → Int32 → Int32 → Option (Int32 × (Nat → Int32))) (v_findings : Nat → Int32) (y2 : Int32) (y3 : Int32) : Option (Int32 × (Nat → Int32)) :=
  (if (7 : Int32) ≤ y3 then (
  some (y2, v_findings))
  else (
  gIn y3 7 (
  nm (y2 + (v_findings y3.toNatClampNeg)) (fun u3 =>
  nm (y3 + 1) (fun u4 =>
  ag33 v_findings u3 u4)))))
set_option maxRecDepth 100000 in
set_option maxHeartbeats 4000000 in
theorem LX4_status_33 {p : Program} {l : Launch} {e : Env} {s : State} {m : MethodId} {args : Array Value} {below : List Frame} {meth : Method} {c : Code} {D : va_G} {cI cJ cZ cS : ClassId} {tb : Nat} {A : Nat → Prop} {a_t a_party a_kept a_tape a_telephone a_sheets a_findings : Nat} {v_isKept : Int32} {rr : Int32} {kk' : (Nat → Int32)} (fx : q_Fx p s m args meth c cX4_status 4 RX4 (some .int) D cI cJ cZ cS tb A) {ag33 : (Nat → Int32) → Int32 → Int32 → Option (Int32 × (Nat → Int32))} (hag33 : ∀ {v_findings : Nat → Int32} {y2 : Int32} {y3 : Int32} {H : Heap} {locs : List Loc} {ls : Array Slot}, q_H D A s (wX4_status cI cJ cZ cS a_t a_party a_kept a_tape a_telephone a_sheets a_findings v_isKept v_findings) H locs → lv_has ls 4 [(0, .ref a_t), (2, .int y2), (3, .int y3)] → ag33 v_findings y2 y3 = some (rr, kk') → W p l e rX4_status s m args below meth c H locs 0 0 (MQ below (q_Ri D rr A ((fun k : (Nat → Int32) => (wX4_status cI cJ cZ cS a_t a_party a_kept a_tape a_telephone a_sheets a_findings v_isKept k)) kk')) args s 0 0 A) (F0 m 33 ls [])) : ∀ {v_findings : Nat → Int32} {y2 : Int32} {y3 : Int32} {H : Heap} {locs : List Loc} {ls : Array Slot}, q_H D A s (wX4_status cI cJ cZ cS a_t a_party a_kept a_tape a_telephone a_sheets a_findings v_isKept v_findings) H locs → lv_has ls 4 [(0, .ref a_t), (2, .int y2), (3, .int y3)] → fX4_status_33 ag33 v_findings y2 y3 = some (rr, kk') → W p l e rX4_status s m args below meth c H locs 0 0 (MQ below (q_Ri D rr A ((fun k : (Nat → Int32) => (wX4_status cI cJ cZ cS a_t a_party a_kept a_tape a_telephone a_sheets a_findings v_isKept k)) kk')) args s 0 0 A) (F0 m 33 ls []) := by
  intro v_findings y2 y3 H locs ls h hl hf
  have hx := fx.1
  have hb := fx.2.1
  unfold fX4_status_33 at hf
  refine lv_iload_n hx hb dX4_status_33 rfl (lv_at hl 2 rfl) ?_
  refine lv_bipush (v := 7) hx hb dX4_status_34 (by decide) ?_
  refine lv_icmp_ge (tgt := 54) hx hb dX4_status_36 (by decide) (fun c1 => ?_) (fun c1 => ?_)
  · have hf := it_t c1 hf
    refine lv_iload_n hx hb dX4_status_54 rfl (lv_at hl 1 rfl) ?_
    exact q_reti (fun k : (Nat → Int32) => (wX4_status cI cJ cZ cS a_t a_party a_kept a_tape a_telephone a_sheets a_findings v_isKept k)) fx hf h dX4_status_55
  have hf := it_f c1 hf
  refine lv_iload_n hx hb dX4_status_39 rfl (lv_at hl 1 rfl) ?_
  refine lv_aload_n hx hb dX4_status_40 rfl (lv_at hl 0 rfl) ?_
  refine q_get (v := .ref a_findings) fx inX4 h 0 rfl rfl 6 (by decide) k_180 rfl dX4_status_41 ?_
  refine lv_iload_n hx hb dX4_status_44 rfl (lv_at hl 2 rfl) ?_
  obtain ⟨i2, hf⟩ := gIn_inv hf
  refine q_iald fx h 1 rfl i2 dX4_status_45 ?_
  refine lv_iadd hx hb dX4_status_46 ?_
  obtain ⟨u3, eu3, hf⟩ := nm_inv hf
  refine lv_eqi eu3 ?_
  refine lv_istore_n (lv' := [(2, .int u3), (0, .ref a_t), (3, .int y3)]) hx hb dX4_status_47 rfl hl (by decide) rfl (fun ls hl => ?_)
  obtain ⟨u4, eu4, hf⟩ := nm_inv hf
  refine lv_iinc (v := u4) (lv' := [(3, .int u4), (2, .int u3), (0, .ref a_t)]) hx hb dX4_status_48 hl (k := 2) rfl (by rw [eu4]; rfl) (by decide) rfl (fun ls hl => ?_)
  refine lv_goto (tgt := 33) hx hb dX4_status_51 (by decide) ?_
  exact hag33 h (lv_sub hl [2, 1, 0] rfl) hf
set_option maxRecDepth 100000 in
theorem EX4_status_33 {p : Program} {l : Launch} {e : Env} {s : State} {m : MethodId} {args : Array Value} {below : List Frame} {meth : Method} {c : Code} {D : va_G} {cI cJ cZ cS : ClassId} {tb : Nat} {A : Nat → Prop} {a_t a_party a_kept a_tape a_telephone a_sheets a_findings : Nat} {v_isKept : Int32} {rr : Int32} {kk' : (Nat → Int32)} (fx : q_Fx p s m args meth c cX4_status 4 RX4 (some .int) D cI cJ cZ cS tb A) : ∀ (n : Nat), ∀ {v_findings : Nat → Int32} {y2 : Int32} {y3 : Int32} {H : Heap} {locs : List Loc} {ls : Array Slot}, q_H D A s (wX4_status cI cJ cZ cS a_t a_party a_kept a_tape a_telephone a_sheets a_findings v_isKept v_findings) H locs → lv_has ls 4 [(0, .ref a_t), (2, .int y2), (3, .int y3)] → ll3 (fX4_status_33 ) n v_findings y2 y3 = some (rr, kk') → W p l e rX4_status s m args below meth c H locs 0 0 (MQ below (q_Ri D rr A ((fun k : (Nat → Int32) => (wX4_status cI cJ cZ cS a_t a_party a_kept a_tape a_telephone a_sheets a_findings v_isKept k)) kk')) args s 0 0 A) (F0 m 33 ls []) := by
  intro n
  induction n with
  | zero => intro v_findings y2 y3 H locs ls h hl hf; exact (ll3_z hf).elim
  | succ n ih => intro v_findings y2 y3 H locs ls h hl hf; exact LX4_status_33 fx ih h hl (ll3_s hf)
def fX4_status_11 (v_findings : Nat → Int32) : Option (Int32 × (Nat → Int32)) :=
  bR (fX4_found v_findings (-1000000001)) (fun r5 k5 =>
  some (r5, k5))
set_option maxRecDepth 100000 in
set_option maxHeartbeats 4000000 in
theorem LX4_status_11 {p : Program} {l : Launch} {e : Env} {s : State} {m : MethodId} {args : Array Value} {below : List Frame} {meth : Method} {c : Code} {D : va_G} {cI cJ cZ cS : ClassId} {tb : Nat} {A : Nat → Prop} {a_t a_party a_kept a_tape a_telephone a_sheets a_findings : Nat} {v_isKept : Int32} {rr : Int32} {kk' : (Nat → Int32)} (fx : q_Fx p s m args meth c cX4_status 4 RX4 (some .int) D cI cJ cZ cS tb A) : ∀ {v_findings : Nat → Int32} {H : Heap} {locs : List Loc} {ls : Array Slot}, q_H D A s (wX4_status cI cJ cZ cS a_t a_party a_kept a_tape a_telephone a_sheets a_findings v_isKept v_findings) H locs → lv_has ls 4 [(0, .ref a_t)] → fX4_status_11 v_findings = some (rr, kk') → W p l e rX4_status s m args below meth c H locs 0 0 (MQ below (q_Ri D rr A ((fun k : (Nat → Int32) => (wX4_status cI cJ cZ cS a_t a_party a_kept a_tape a_telephone a_sheets a_findings v_isKept k)) kk')) args s 0 0 A) (F0 m 11 ls []) := by
  intro v_findings H locs ls h hl hf
  have hx := fx.1
  have hb := fx.2.1
  unfold fX4_status_11 at hf
  refine lv_aload_n hx hb dX4_status_11 rfl (lv_at hl 0 rfl) ?_
  refine q_ldc fx k_206 dX4_status_12 ?_
  obtain ⟨r5, k5, hg, hf⟩ := bR_inv hf
  refine q_ci (rest := []) (ws' := (wX4_status cI cJ cZ cS a_t a_party a_kept a_tape a_telephone a_sheets a_findings v_isKept k5)) (w1 := (wX4_found cI cJ cZ cS a_t a_party a_kept a_tape a_telephone a_sheets a_findings v_isKept k5)) fx h [0, 1] rfl rfl rfl rfl (q_runV fx h hl.1 [0, 1] rfl rfl (tX4_found l D cI cJ cZ cS tb a_t a_party a_kept a_tape a_telephone a_sheets a_findings H.size v_isKept v_findings (-1000000001) r5 k5 hg) mvX4_found k_207 ⟨rfl, rfl⟩ ⟨Nat.le_of_ble_eq_true rfl, Nat.le_of_ble_eq_true rfl⟩ rfl rfl rfl rfl (Nat.le_of_ble_eq_true rfl) dX4_status_14 ⟨Nat.le_of_ble_eq_true rfl, Nat.le_of_ble_eq_true rfl⟩) (fun H locs h => ?_)
  exact q_reti (fun k : (Nat → Int32) => (wX4_status cI cJ cZ cS a_t a_party a_kept a_tape a_telephone a_sheets a_findings v_isKept k)) fx hf h dX4_status_17
def fX4_status (v_findings : Nat → Int32) (x1 : Int32) : Option (Int32 × (Nat → Int32)) :=
  (if x1 < (-1) then (
  fX4_status_11  v_findings)
  else (
  (if x1 < 7 then (
  (if x1 < 0 then (
  ll3 (fX4_status_33 ) qF v_findings 0 0)
  else (
  gIn x1 7 (
  some (v_findings x1.toNatClampNeg, v_findings)))))
  else (
  fX4_status_11  v_findings))))
set_option maxRecDepth 100000 in
set_option maxHeartbeats 4000000 in
theorem tX4_status (l : Launch) (D : va_G) (cI cJ cZ cS : ClassId) (tb : Nat) (a_t a_party a_kept a_tape a_telephone a_sheets a_findings : Nat) (sz : Nat) (v_isKept : Int32) (v_findings : Nat → Int32) (x1 : Int32) (rr : Int32) (kk' : (Nat → Int32)) (hf : fX4_status v_findings x1 = some (rr, kk')) : Met l yX4_status (Cond.code yX4_status cX4_status 4 (some .int) :: wA) rX4_status (q_Pre D cI cJ cZ cS tb [.ref a_t, .int x1] sz (wX4_status cI cJ cZ cS a_t a_party a_kept a_tape a_telephone a_sheets a_findings v_isKept v_findings)) (q_Ri D rr (va_A (wX4_status cI cJ cZ cS a_t a_party a_kept a_tape a_telephone a_sheets a_findings v_isKept v_findings) sz) ((fun k : (Nat → Int32) => (wX4_status cI cJ cZ cS a_t a_party a_kept a_tape a_telephone a_sheets a_findings v_isKept k)) kk')) 0 0 (va_A (wX4_status cI cJ cZ cS a_t a_party a_kept a_tape a_telephone a_sheets a_findings v_isKept v_findings) sz) := by
  refine q_enter (Qf := fun A => (q_Ri D rr A ((fun k : (Nat → Int32) => (wX4_status cI cJ cZ cS a_t a_party a_kept a_tape a_telephone a_sheets a_findings v_isKept k)) kk'))) (by decide) rfl (Nat.le_of_ble_eq_true rfl) ?_
  intro p e s m below meth c A ls fx hname h hl
  have hx := fx.1
  have hb := fx.2.1
  have hl : lv_has ls 4 [(0, .ref a_t), (1, .int x1)] := hl
  generalize h9 : s.heap = H at h ⊢
  clear h9
  generalize h9 : ([] : List Loc) = locs at h ⊢
  clear h9
  unfold fX4_status at hf
  refine lv_iload_n hx hb dX4_status_0 rfl (lv_at hl 1 rfl) ?_
  refine lv_iconst (v := -1) hx hb dX4_status_1 (by decide) ?_
  refine lv_icmp_lt (tgt := 11) hx hb dX4_status_2 (by decide) (fun c6 => ?_) (fun c6 => ?_)
  · have hf := it_t c6 hf
    exact LX4_status_11 fx h (lv_sub hl [0] rfl) hf
  have hf := it_f c6 hf
  refine lv_iload_n hx hb dX4_status_5 rfl (lv_at hl 1 rfl) ?_
  refine lv_bipush (v := 7) hx hb dX4_status_6 (by decide) ?_
  refine lv_icmp_lt (tgt := 18) hx hb dX4_status_8 (by decide) (fun c7 => ?_) (fun c7 => ?_)
  · have hf := it_t c7 hf
    refine lv_iload_n hx hb dX4_status_18 rfl (lv_at hl 1 rfl) ?_
    refine lv_if_lt (tgt := 29) hx hb dX4_status_19 (by decide) (fun c8 => ?_) (fun c8 => ?_)
    · have hf := it_t c8 hf
      refine lv_iconst (v := 0) hx hb dX4_status_29 (by decide) ?_
      refine lv_istore_n (lv' := [(2, .int 0), (0, .ref a_t), (1, .int x1)]) hx hb dX4_status_30 rfl hl (by decide) rfl (fun ls hl => ?_)
      refine lv_iconst (v := 0) hx hb dX4_status_31 (by decide) ?_
      refine lv_istore_n (lv' := [(3, .int 0), (2, .int 0), (0, .ref a_t), (1, .int x1)]) hx hb dX4_status_32 rfl hl (by decide) rfl (fun ls hl => ?_)
      exact EX4_status_33 fx qF h (lv_sub hl [2, 1, 0] rfl) hf
    have hf := it_f c8 hf
    refine lv_aload_n hx hb dX4_status_22 rfl (lv_at hl 0 rfl) ?_
    refine q_get (v := .ref a_findings) fx inX4 h 0 rfl rfl 6 (by decide) k_180 rfl dX4_status_23 ?_
    refine lv_iload_n hx hb dX4_status_26 rfl (lv_at hl 1 rfl) ?_
    obtain ⟨i9, hf⟩ := gIn_inv hf
    refine q_iald fx h 1 rfl i9 dX4_status_27 ?_
    exact q_reti (fun k : (Nat → Int32) => (wX4_status cI cJ cZ cS a_t a_party a_kept a_tape a_telephone a_sheets a_findings v_isKept k)) fx hf h dX4_status_28
  have hf := it_f c7 hf
  exact LX4_status_11 fx h (lv_sub hl [0] rfl) hf
/-! X5_in -/
abbrev wX5_in (cI cJ cZ cS : ClassId) : va_W := []
abbrev rX5_in : Room := { frames := 0, cells := 0, slots := 0, locals := 0 }
def fX5_in (x0 : Int64) (x2 : Int64) (x4 : Int64) : Option (Int32 × Unit) :=
  (if (lg_cmp x0 x2) < 0 then (
  some (0, ()))
  else (
  (if (0 : Int32) < (lg_cmp x0 x4) then (
  some (0, ()))
  else (
  some (1, ())))))
set_option maxRecDepth 100000 in
set_option maxHeartbeats 4000000 in
theorem tX5_in (l : Launch) (D : va_G) (cI cJ cZ cS : ClassId) (tb : Nat) (sz : Nat) (x0 : Int64) (x2 : Int64) (x4 : Int64) (rr : Int32) (kk' : Unit) (hf : fX5_in x0 x2 x4 = some (rr, kk')) : Met l yX5_in (Cond.code yX5_in cX5_in 6 (some .boolean) :: wA) rX5_in (q_Pre D cI cJ cZ cS tb [.long x0, .long x2, .long x4] sz (wX5_in cI cJ cZ cS)) (q_Ri D rr (va_A (wX5_in cI cJ cZ cS) sz) ((fun k : Unit => (wX5_in cI cJ cZ cS)) kk')) 0 0 (va_A (wX5_in cI cJ cZ cS) sz) := by
  refine q_enter (Qf := fun A => (q_Ri D rr A ((fun k : Unit => (wX5_in cI cJ cZ cS)) kk'))) (by decide) rfl (Nat.le_of_ble_eq_true rfl) ?_
  intro p e s m below meth c A ls fx hname h hl
  have hx := fx.1
  have hb := fx.2.1
  have hl : lv_has ls 6 [(0, .long x0), (2, .long x2), (4, .long x4)] := hl
  generalize h9 : s.heap = H at h ⊢
  clear h9
  generalize h9 : ([] : List Loc) = locs at h ⊢
  clear h9
  unfold fX5_in at hf
  refine lv_lload_n hx hb dX5_in_0 rfl (lv_at hl 0 rfl) ?_
  refine lv_lload_n hx hb dX5_in_1 rfl (lv_at hl 1 rfl) ?_
  refine W.lcmp hx hb dX5_in_2 ?_
  refine lv_if_lt (tgt := 17) hx hb dX5_in_3 (by decide) (fun c1 => ?_) (fun c1 => ?_)
  · have hf := it_t c1 hf
    refine lv_iconst (v := 0) hx hb dX5_in_17 (by decide) ?_
    exact q_retz (fun k : Unit => (wX5_in cI cJ cZ cS)) fx rfl hf h dX5_in_18
  have hf := it_f c1 hf
  refine lv_lload_n hx hb dX5_in_6 rfl (lv_at hl 0 rfl) ?_
  refine lv_lload hx hb dX5_in_7 (lv_at hl 2 rfl) ?_
  refine W.lcmp hx hb dX5_in_9 ?_
  refine lv_if_gt (tgt := 17) hx hb dX5_in_10 (by decide) (fun c2 => ?_) (fun c2 => ?_)
  · have hf := it_t c2 hf
    refine lv_iconst (v := 0) hx hb dX5_in_17 (by decide) ?_
    exact q_retz (fun k : Unit => (wX5_in cI cJ cZ cS)) fx rfl hf h dX5_in_18
  have hf := it_f c2 hf
  refine lv_iconst (v := 1) hx hb dX5_in_13 (by decide) ?_
  refine lv_goto (tgt := 18) hx hb dX5_in_14 (by decide) ?_
  exact q_retz (fun k : Unit => (wX5_in cI cJ cZ cS)) fx rfl hf h dX5_in_18
/-! X5_finds -/
abbrev wX5_finds (cI cJ cZ cS : ClassId) (a_t a_s a_keptS a_statuses a_pile a_tape a_steps a_wish a_mark a_bitsOf a_sizeOf a_number a_moved : Nat) (v_isKept : Int32) (v_taped : Int32) (v_at : Int32) (v_fault : Int32) (v_laid : Int32) (v_open : Int32) (v_statuses : Nat → Int32) : va_W := [(a_t, .inr (5, [.ref a_s, .ref a_keptS, .ref a_statuses, .int v_isKept, .ref a_pile, .ref a_tape, .ref a_steps, .int v_taped, .int v_at, .int v_fault, .int v_laid, .int v_open, .ref a_wish, .ref a_mark, .ref a_bitsOf, .ref a_sizeOf, .ref a_number, .ref a_moved])), (a_statuses, .inl (cI, 7, .inl v_statuses))]
abbrev rX5_finds : Room := { frames := 0, cells := 0, slots := 0, locals := 0 }
def fX5_finds (v_statuses : Nat → Int32) (x1 : Int32) : Option (Int32 × (Nat → Int32)) :=
  gIn ((-1000000001) - x1) 7 (
  gIn ((-1000000001) - x1) 7 (
  some (x1, (upd v_statuses ((-1000000001) - x1).toNatClampNeg ((v_statuses ((-1000000001) - x1).toNatClampNeg) + 1)))))
set_option maxRecDepth 100000 in
set_option maxHeartbeats 4000000 in
theorem tX5_finds (l : Launch) (D : va_G) (cI cJ cZ cS : ClassId) (tb : Nat) (a_t a_s a_keptS a_statuses a_pile a_tape a_steps a_wish a_mark a_bitsOf a_sizeOf a_number a_moved : Nat) (sz : Nat) (v_isKept : Int32) (v_taped : Int32) (v_at : Int32) (v_fault : Int32) (v_laid : Int32) (v_open : Int32) (v_statuses : Nat → Int32) (x1 : Int32) (rr : Int32) (kk' : (Nat → Int32)) (hf : fX5_finds v_statuses x1 = some (rr, kk')) : Met l yX5_finds (Cond.code yX5_finds cX5_finds 2 (some .int) :: wA) rX5_finds (q_Pre D cI cJ cZ cS tb [.ref a_t, .int x1] sz (wX5_finds cI cJ cZ cS a_t a_s a_keptS a_statuses a_pile a_tape a_steps a_wish a_mark a_bitsOf a_sizeOf a_number a_moved v_isKept v_taped v_at v_fault v_laid v_open v_statuses)) (q_Ri D rr (va_A (wX5_finds cI cJ cZ cS a_t a_s a_keptS a_statuses a_pile a_tape a_steps a_wish a_mark a_bitsOf a_sizeOf a_number a_moved v_isKept v_taped v_at v_fault v_laid v_open v_statuses) sz) ((fun k : (Nat → Int32) => (wX5_finds cI cJ cZ cS a_t a_s a_keptS a_statuses a_pile a_tape a_steps a_wish a_mark a_bitsOf a_sizeOf a_number a_moved v_isKept v_taped v_at v_fault v_laid v_open k)) kk')) 0 0 (va_A (wX5_finds cI cJ cZ cS a_t a_s a_keptS a_statuses a_pile a_tape a_steps a_wish a_mark a_bitsOf a_sizeOf a_number a_moved v_isKept v_taped v_at v_fault v_laid v_open v_statuses) sz) := by
  refine q_enter (Qf := fun A => (q_Ri D rr A ((fun k : (Nat → Int32) => (wX5_finds cI cJ cZ cS a_t a_s a_keptS a_statuses a_pile a_tape a_steps a_wish a_mark a_bitsOf a_sizeOf a_number a_moved v_isKept v_taped v_at v_fault v_laid v_open k)) kk'))) (by decide) rfl (Nat.le_of_ble_eq_true rfl) ?_
  intro p e s m below meth c A ls fx hname h hl
  have hx := fx.1
  have hb := fx.2.1
  have hl : lv_has ls 2 [(0, .ref a_t), (1, .int x1)] := hl
  generalize h9 : s.heap = H at h ⊢
  clear h9
  generalize h9 : ([] : List Loc) = locs at h ⊢
  clear h9
  unfold fX5_finds at hf
  refine lv_aload_n hx hb dX5_finds_0 rfl (lv_at hl 0 rfl) ?_
  refine q_get (v := .ref a_statuses) fx inX5 h 0 rfl rfl 2 (by decide) k_638 rfl dX5_finds_1 ?_
  refine q_ldc fx k_701 dX5_finds_4 ?_
  refine lv_iload_n hx hb dX5_finds_6 rfl (lv_at hl 1 rfl) ?_
  refine lv_isub hx hb dX5_finds_7 ?_
  refine lv_dup2_11 hx hb dX5_finds_8 rfl rfl ?_
  obtain ⟨i1, hf⟩ := gIn_inv hf
  refine q_iald fx h 1 rfl i1 dX5_finds_9 ?_
  refine lv_iconst (v := 1) hx hb dX5_finds_10 (by decide) ?_
  refine lv_iadd hx hb dX5_finds_11 ?_
  obtain ⟨i2, hf⟩ := gIn_inv hf
  refine q_iast (ws' := (wX5_finds cI cJ cZ cS a_t a_s a_keptS a_statuses a_pile a_tape a_steps a_wish a_mark a_bitsOf a_sizeOf a_number a_moved v_isKept v_taped v_at v_fault v_laid v_open (upd v_statuses ((-1000000001) - x1).toNatClampNeg ((v_statuses ((-1000000001) - x1).toNatClampNeg) + 1)))) fx h 1 rfl i2 rfl dX5_finds_12 (fun H locs h => ?_)
  refine lv_iload_n hx hb dX5_finds_13 rfl (lv_at hl 1 rfl) ?_
  exact q_reti (fun k : (Nat → Int32) => (wX5_finds cI cJ cZ cS a_t a_s a_keptS a_statuses a_pile a_tape a_steps a_wish a_mark a_bitsOf a_sizeOf a_number a_moved v_isKept v_taped v_at v_fault v_laid v_open k)) fx hf h dX5_finds_14
/-! X5_orNone -/
abbrev wX5_orNone (cI cJ cZ cS : ClassId) (a_t a_s a_keptS a_statuses a_pile a_tape a_steps a_wish a_mark a_bitsOf a_sizeOf a_number a_moved : Nat) (v_isKept : Int32) (v_taped : Int32) (v_at : Int32) (v_fault : Int32) (v_laid : Int32) (v_open : Int32) (v_statuses : Nat → Int32) : va_W := [(a_t, .inr (5, [.ref a_s, .ref a_keptS, .ref a_statuses, .int v_isKept, .ref a_pile, .ref a_tape, .ref a_steps, .int v_taped, .int v_at, .int v_fault, .int v_laid, .int v_open, .ref a_wish, .ref a_mark, .ref a_bitsOf, .ref a_sizeOf, .ref a_number, .ref a_moved])), (a_statuses, .inl (cI, 7, .inl v_statuses))]
abbrev rX5_orNone : Room := { frames := 1, cells := 0, slots := 0, locals := 21 }
def fX5_orNone (v_statuses : Nat → Int32) (x1 : Int32) : Option (Int32 × (Nat → Int32)) :=
  (if (0 : Int32) ≤ x1 then (
  some (x1, v_statuses))
  else (
  bR (fX5_finds v_statuses (-1000000004)) (fun r2 k2 =>
  some (r2, k2))))
set_option maxRecDepth 100000 in
set_option maxHeartbeats 4000000 in
theorem tX5_orNone (l : Launch) (D : va_G) (cI cJ cZ cS : ClassId) (tb : Nat) (a_t a_s a_keptS a_statuses a_pile a_tape a_steps a_wish a_mark a_bitsOf a_sizeOf a_number a_moved : Nat) (sz : Nat) (v_isKept : Int32) (v_taped : Int32) (v_at : Int32) (v_fault : Int32) (v_laid : Int32) (v_open : Int32) (v_statuses : Nat → Int32) (x1 : Int32) (rr : Int32) (kk' : (Nat → Int32)) (hf : fX5_orNone v_statuses x1 = some (rr, kk')) : Met l yX5_orNone (Cond.code yX5_orNone cX5_orNone 2 (some .int) :: wA) rX5_orNone (q_Pre D cI cJ cZ cS tb [.ref a_t, .int x1] sz (wX5_orNone cI cJ cZ cS a_t a_s a_keptS a_statuses a_pile a_tape a_steps a_wish a_mark a_bitsOf a_sizeOf a_number a_moved v_isKept v_taped v_at v_fault v_laid v_open v_statuses)) (q_Ri D rr (va_A (wX5_orNone cI cJ cZ cS a_t a_s a_keptS a_statuses a_pile a_tape a_steps a_wish a_mark a_bitsOf a_sizeOf a_number a_moved v_isKept v_taped v_at v_fault v_laid v_open v_statuses) sz) ((fun k : (Nat → Int32) => (wX5_orNone cI cJ cZ cS a_t a_s a_keptS a_statuses a_pile a_tape a_steps a_wish a_mark a_bitsOf a_sizeOf a_number a_moved v_isKept v_taped v_at v_fault v_laid v_open k)) kk')) 0 0 (va_A (wX5_orNone cI cJ cZ cS a_t a_s a_keptS a_statuses a_pile a_tape a_steps a_wish a_mark a_bitsOf a_sizeOf a_number a_moved v_isKept v_taped v_at v_fault v_laid v_open v_statuses) sz) := by
  refine q_enter (Qf := fun A => (q_Ri D rr A ((fun k : (Nat → Int32) => (wX5_orNone cI cJ cZ cS a_t a_s a_keptS a_statuses a_pile a_tape a_steps a_wish a_mark a_bitsOf a_sizeOf a_number a_moved v_isKept v_taped v_at v_fault v_laid v_open k)) kk'))) (by decide) rfl (Nat.le_of_ble_eq_true rfl) ?_
  intro p e s m below meth c A ls fx hname h hl
  have hx := fx.1
  have hb := fx.2.1
  have hl : lv_has ls 2 [(0, .ref a_t), (1, .int x1)] := hl
  generalize h9 : s.heap = H at h ⊢
  clear h9
  generalize h9 : ([] : List Loc) = locs at h ⊢
  clear h9
  unfold fX5_orNone at hf
  refine lv_iload_n hx hb dX5_orNone_0 rfl (lv_at hl 1 rfl) ?_
  refine lv_if_ge (tgt := 13) hx hb dX5_orNone_1 (by decide) (fun c1 => ?_) (fun c1 => ?_)
  · have hf := it_t c1 hf
    refine lv_iload_n hx hb dX5_orNone_13 rfl (lv_at hl 1 rfl) ?_
    exact q_reti (fun k : (Nat → Int32) => (wX5_orNone cI cJ cZ cS a_t a_s a_keptS a_statuses a_pile a_tape a_steps a_wish a_mark a_bitsOf a_sizeOf a_number a_moved v_isKept v_taped v_at v_fault v_laid v_open k)) fx hf h dX5_orNone_14
  have hf := it_f c1 hf
  refine lv_aload_n hx hb dX5_orNone_4 rfl (lv_at hl 0 rfl) ?_
  refine q_ldc fx k_864 dX5_orNone_5 ?_
  obtain ⟨r2, k2, hg, hf⟩ := bR_inv hf
  refine q_ci (rest := []) (ws' := (wX5_orNone cI cJ cZ cS a_t a_s a_keptS a_statuses a_pile a_tape a_steps a_wish a_mark a_bitsOf a_sizeOf a_number a_moved v_isKept v_taped v_at v_fault v_laid v_open k2)) (w1 := (wX5_finds cI cJ cZ cS a_t a_s a_keptS a_statuses a_pile a_tape a_steps a_wish a_mark a_bitsOf a_sizeOf a_number a_moved v_isKept v_taped v_at v_fault v_laid v_open k2)) fx h [0, 1] rfl rfl rfl rfl (q_runV fx h hl.1 [0, 1] rfl rfl (tX5_finds l D cI cJ cZ cS tb a_t a_s a_keptS a_statuses a_pile a_tape a_steps a_wish a_mark a_bitsOf a_sizeOf a_number a_moved H.size v_isKept v_taped v_at v_fault v_laid v_open v_statuses (-1000000004) r2 k2 hg) mvX5_finds k_702 ⟨rfl, rfl⟩ ⟨Nat.le_of_ble_eq_true rfl, Nat.le_of_ble_eq_true rfl⟩ rfl rfl rfl rfl (Nat.le_of_ble_eq_true rfl) dX5_orNone_7 ⟨Nat.le_of_ble_eq_true rfl, Nat.le_of_ble_eq_true rfl⟩) (fun H locs h => ?_)
  refine lv_goto (tgt := 14) hx hb dX5_orNone_10 (by decide) ?_
  exact q_reti (fun k : (Nat → Int32) => (wX5_orNone cI cJ cZ cS a_t a_s a_keptS a_statuses a_pile a_tape a_steps a_wish a_mark a_bitsOf a_sizeOf a_number a_moved v_isKept v_taped v_at v_fault v_laid v_open k)) fx hf h dX5_orNone_14
/-! X5_has -/
abbrev wX5_has (cI cJ cZ cS : ClassId) : va_W := []
abbrev rX5_has : Room := { frames := 0, cells := 0, slots := 0, locals := 0 }
def fX5_has (x0 : Int32) (x1 : Int32) : Option (Int32 × Unit) :=
  (if ((jshr x0 x1) &&& 1) = 1 then (
  some (1, ()))
  else (
  some (0, ())))
set_option maxRecDepth 100000 in
set_option maxHeartbeats 4000000 in
theorem tX5_has (l : Launch) (D : va_G) (cI cJ cZ cS : ClassId) (tb : Nat) (sz : Nat) (x0 : Int32) (x1 : Int32) (rr : Int32) (kk' : Unit) (hf : fX5_has x0 x1 = some (rr, kk')) : Met l yX5_has (Cond.code yX5_has cX5_has 2 (some .boolean) :: wA) rX5_has (q_Pre D cI cJ cZ cS tb [.int x0, .int x1] sz (wX5_has cI cJ cZ cS)) (q_Ri D rr (va_A (wX5_has cI cJ cZ cS) sz) ((fun k : Unit => (wX5_has cI cJ cZ cS)) kk')) 0 0 (va_A (wX5_has cI cJ cZ cS) sz) := by
  refine q_enter (Qf := fun A => (q_Ri D rr A ((fun k : Unit => (wX5_has cI cJ cZ cS)) kk'))) (by decide) rfl (Nat.le_of_ble_eq_true rfl) ?_
  intro p e s m below meth c A ls fx hname h hl
  have hx := fx.1
  have hb := fx.2.1
  have hl : lv_has ls 2 [(0, .int x0), (1, .int x1)] := hl
  generalize h9 : s.heap = H at h ⊢
  clear h9
  generalize h9 : ([] : List Loc) = locs at h ⊢
  clear h9
  unfold fX5_has at hf
  refine lv_iload_n hx hb dX5_has_0 rfl (lv_at hl 0 rfl) ?_
  refine lv_iload_n hx hb dX5_has_1 rfl (lv_at hl 1 rfl) ?_
  refine lv_ishr hx hb dX5_has_2 ?_
  refine lv_iconst (v := 1) hx hb dX5_has_3 (by decide) ?_
  refine lv_iand hx hb dX5_has_4 ?_
  refine lv_iconst (v := 1) hx hb dX5_has_5 (by decide) ?_
  refine lv_icmp_ne (tgt := 13) hx hb dX5_has_6 (by decide) (fun c1 => ?_) (fun c1 => ?_)
  · have hf := it_f c1 hf
    refine lv_iconst (v := 0) hx hb dX5_has_13 (by decide) ?_
    exact q_retz (fun k : Unit => (wX5_has cI cJ cZ cS)) fx rfl hf h dX5_has_14
  have hf := it_t c1 hf
  refine lv_iconst (v := 1) hx hb dX5_has_9 (by decide) ?_
  refine lv_goto (tgt := 14) hx hb dX5_has_10 (by decide) ?_
  exact q_retz (fun k : Unit => (wX5_has cI cJ cZ cS)) fx rfl hf h dX5_has_14
/-! X5_ones -/
abbrev wX5_ones (cI cJ cZ cS : ClassId) : va_W := []
abbrev rX5_ones : Room := { frames := 0, cells := 0, slots := 0, locals := 0 }
def fX5_ones_4 (ag4 : Int32 → Int32 → Option (Int32 × Unit)) (y1 : Int32) (y2 : Int32) : Option (Int32 × Unit) :=
  (if y2 = 0 then (
  some (y1, ()))
  else (
  nm (y1 + 1) (fun u2 =>
  nm (y2 &&& (y2 - 1)) (fun u3 =>
  ag4 u2 u3))))
set_option maxRecDepth 100000 in
set_option maxHeartbeats 4000000 in
theorem LX5_ones_4 {p : Program} {l : Launch} {e : Env} {s : State} {m : MethodId} {args : Array Value} {below : List Frame} {meth : Method} {c : Code} {D : va_G} {cI cJ cZ cS : ClassId} {tb : Nat} {A : Nat → Prop} {rr : Int32} {kk' : Unit} (fx : q_Fx p s m args meth c cX5_ones 3 RX5 (some .int) D cI cJ cZ cS tb A) {ag4 : Int32 → Int32 → Option (Int32 × Unit)} (hag4 : ∀ {y1 : Int32} {y2 : Int32} {H : Heap} {locs : List Loc} {ls : Array Slot}, q_H D A s (wX5_ones cI cJ cZ cS) H locs → lv_has ls 3 [(1, .int y1), (2, .int y2)] → ag4 y1 y2 = some (rr, kk') → W p l e rX5_ones s m args below meth c H locs 0 0 (MQ below (q_Ri D rr A ((fun k : Unit => (wX5_ones cI cJ cZ cS)) kk')) args s 0 0 A) (F0 m 4 ls [])) : ∀ {y1 : Int32} {y2 : Int32} {H : Heap} {locs : List Loc} {ls : Array Slot}, q_H D A s (wX5_ones cI cJ cZ cS) H locs → lv_has ls 3 [(1, .int y1), (2, .int y2)] → fX5_ones_4 ag4 y1 y2 = some (rr, kk') → W p l e rX5_ones s m args below meth c H locs 0 0 (MQ below (q_Ri D rr A ((fun k : Unit => (wX5_ones cI cJ cZ cS)) kk')) args s 0 0 A) (F0 m 4 ls []) := by
  intro y1 y2 H locs ls h hl hf
  have hx := fx.1
  have hb := fx.2.1
  unfold fX5_ones_4 at hf
  refine lv_iload_n hx hb dX5_ones_4 rfl (lv_at hl 1 rfl) ?_
  refine lv_if_eq (tgt := 20) hx hb dX5_ones_5 (by decide) (fun c1 => ?_) (fun c1 => ?_)
  · have hf := it_t c1 hf
    refine lv_iload_n hx hb dX5_ones_20 rfl (lv_at hl 0 rfl) ?_
    exact q_reti (fun k : Unit => (wX5_ones cI cJ cZ cS)) fx hf h dX5_ones_21
  have hf := it_f c1 hf
  obtain ⟨u2, eu2, hf⟩ := nm_inv hf
  refine lv_iinc (v := u2) (lv' := [(1, .int u2), (2, .int y2)]) hx hb dX5_ones_8 hl (k := 0) rfl (by rw [eu2]; rfl) (by decide) rfl (fun ls hl => ?_)
  refine lv_iload_n hx hb dX5_ones_11 rfl (lv_at hl 1 rfl) ?_
  refine lv_iload_n hx hb dX5_ones_12 rfl (lv_at hl 1 rfl) ?_
  refine lv_iconst (v := 1) hx hb dX5_ones_13 (by decide) ?_
  refine lv_isub hx hb dX5_ones_14 ?_
  refine lv_iand hx hb dX5_ones_15 ?_
  obtain ⟨u3, eu3, hf⟩ := nm_inv hf
  refine lv_eqi eu3 ?_
  refine lv_istore_n (lv' := [(2, .int u3), (1, .int u2)]) hx hb dX5_ones_16 rfl hl (by decide) rfl (fun ls hl => ?_)
  refine lv_goto (tgt := 4) hx hb dX5_ones_17 (by decide) ?_
  exact hag4 h (lv_sub hl [1, 0] rfl) hf
set_option maxRecDepth 100000 in
theorem EX5_ones_4 {p : Program} {l : Launch} {e : Env} {s : State} {m : MethodId} {args : Array Value} {below : List Frame} {meth : Method} {c : Code} {D : va_G} {cI cJ cZ cS : ClassId} {tb : Nat} {A : Nat → Prop} {rr : Int32} {kk' : Unit} (fx : q_Fx p s m args meth c cX5_ones 3 RX5 (some .int) D cI cJ cZ cS tb A) : ∀ (n : Nat), ∀ {y1 : Int32} {y2 : Int32} {H : Heap} {locs : List Loc} {ls : Array Slot}, q_H D A s (wX5_ones cI cJ cZ cS) H locs → lv_has ls 3 [(1, .int y1), (2, .int y2)] → ll2 (fX5_ones_4 ) n y1 y2 = some (rr, kk') → W p l e rX5_ones s m args below meth c H locs 0 0 (MQ below (q_Ri D rr A ((fun k : Unit => (wX5_ones cI cJ cZ cS)) kk')) args s 0 0 A) (F0 m 4 ls []) := by
  intro n
  induction n with
  | zero => intro y1 y2 H locs ls h hl hf; exact (ll2_z hf).elim
  | succ n ih => intro y1 y2 H locs ls h hl hf; exact LX5_ones_4 fx ih h hl (ll2_s hf)
def fX5_ones (x0 : Int32) : Option (Int32 × Unit) :=
  ll2 (fX5_ones_4 ) qF 0 x0
set_option maxRecDepth 100000 in
set_option maxHeartbeats 4000000 in
theorem tX5_ones (l : Launch) (D : va_G) (cI cJ cZ cS : ClassId) (tb : Nat) (sz : Nat) (x0 : Int32) (rr : Int32) (kk' : Unit) (hf : fX5_ones x0 = some (rr, kk')) : Met l yX5_ones (Cond.code yX5_ones cX5_ones 3 (some .int) :: wA) rX5_ones (q_Pre D cI cJ cZ cS tb [.int x0] sz (wX5_ones cI cJ cZ cS)) (q_Ri D rr (va_A (wX5_ones cI cJ cZ cS) sz) ((fun k : Unit => (wX5_ones cI cJ cZ cS)) kk')) 0 0 (va_A (wX5_ones cI cJ cZ cS) sz) := by
  refine q_enter (Qf := fun A => (q_Ri D rr A ((fun k : Unit => (wX5_ones cI cJ cZ cS)) kk'))) (by decide) rfl (Nat.le_of_ble_eq_true rfl) ?_
  intro p e s m below meth c A ls fx hname h hl
  have hx := fx.1
  have hb := fx.2.1
  have hl : lv_has ls 3 [(0, .int x0)] := hl
  generalize h9 : s.heap = H at h ⊢
  clear h9
  generalize h9 : ([] : List Loc) = locs at h ⊢
  clear h9
  unfold fX5_ones at hf
  refine lv_iconst (v := 0) hx hb dX5_ones_0 (by decide) ?_
  refine lv_istore_n (lv' := [(1, .int 0), (0, .int x0)]) hx hb dX5_ones_1 rfl hl (by decide) rfl (fun ls hl => ?_)
  refine lv_iload_n hx hb dX5_ones_2 rfl (lv_at hl 1 rfl) ?_
  refine lv_istore_n (lv' := [(2, .int x0), (1, .int 0), (0, .int x0)]) hx hb dX5_ones_3 rfl hl (by decide) rfl (fun ls hl => ?_)
  exact EX5_ones_4 fx qF h (lv_sub hl [1, 0] rfl) hf
/-! X5_isGuest -/
abbrev wX5_isGuest (cI cJ cZ cS : ClassId) (a_t a_s a_keptS a_statuses a_pile a_tape a_steps a_wish a_mark a_bitsOf a_sizeOf a_number a_moved : Nat) (v_isKept : Int32) (v_taped : Int32) (v_at : Int32) (v_fault : Int32) (v_laid : Int32) (v_open : Int32) (v_s : Nat → Int32) : va_W := [(a_t, .inr (5, [.ref a_s, .ref a_keptS, .ref a_statuses, .int v_isKept, .ref a_pile, .ref a_tape, .ref a_steps, .int v_taped, .int v_at, .int v_fault, .int v_laid, .int v_open, .ref a_wish, .ref a_mark, .ref a_bitsOf, .ref a_sizeOf, .ref a_number, .ref a_moved])), (a_s, .inl (cI, 538, .inl v_s))]
abbrev rX5_isGuest : Room := { frames := 1, cells := 0, slots := 0, locals := 25 }
def fX5_isGuest (v_s : Nat → Int32) (x1 : Int32) : Option (Int32 × Unit) :=
  bR (fX5_in (x1.toInt64) 0 (((v_s 0) - 1).toInt64)) (fun r1 k1 =>
  gB r1 (some (r1, ())))
set_option maxRecDepth 100000 in
set_option maxHeartbeats 4000000 in
theorem tX5_isGuest (l : Launch) (D : va_G) (cI cJ cZ cS : ClassId) (tb : Nat) (a_t a_s a_keptS a_statuses a_pile a_tape a_steps a_wish a_mark a_bitsOf a_sizeOf a_number a_moved : Nat) (sz : Nat) (v_isKept : Int32) (v_taped : Int32) (v_at : Int32) (v_fault : Int32) (v_laid : Int32) (v_open : Int32) (v_s : Nat → Int32) (x1 : Int32) (rr : Int32) (kk' : Unit) (hf : fX5_isGuest v_s x1 = some (rr, kk')) : Met l yX5_isGuest (Cond.code yX5_isGuest cX5_isGuest 2 (some .boolean) :: wA) rX5_isGuest (q_Pre D cI cJ cZ cS tb [.ref a_t, .int x1] sz (wX5_isGuest cI cJ cZ cS a_t a_s a_keptS a_statuses a_pile a_tape a_steps a_wish a_mark a_bitsOf a_sizeOf a_number a_moved v_isKept v_taped v_at v_fault v_laid v_open v_s)) (q_Ri D rr (va_A (wX5_isGuest cI cJ cZ cS a_t a_s a_keptS a_statuses a_pile a_tape a_steps a_wish a_mark a_bitsOf a_sizeOf a_number a_moved v_isKept v_taped v_at v_fault v_laid v_open v_s) sz) ((fun k : Unit => (wX5_isGuest cI cJ cZ cS a_t a_s a_keptS a_statuses a_pile a_tape a_steps a_wish a_mark a_bitsOf a_sizeOf a_number a_moved v_isKept v_taped v_at v_fault v_laid v_open v_s)) kk')) 0 0 (va_A (wX5_isGuest cI cJ cZ cS a_t a_s a_keptS a_statuses a_pile a_tape a_steps a_wish a_mark a_bitsOf a_sizeOf a_number a_moved v_isKept v_taped v_at v_fault v_laid v_open v_s) sz) := by
  refine q_enter (Qf := fun A => (q_Ri D rr A ((fun k : Unit => (wX5_isGuest cI cJ cZ cS a_t a_s a_keptS a_statuses a_pile a_tape a_steps a_wish a_mark a_bitsOf a_sizeOf a_number a_moved v_isKept v_taped v_at v_fault v_laid v_open v_s)) kk'))) (by decide) rfl (Nat.le_of_ble_eq_true rfl) ?_
  intro p e s m below meth c A ls fx hname h hl
  have hx := fx.1
  have hb := fx.2.1
  have hl : lv_has ls 2 [(0, .ref a_t), (1, .int x1)] := hl
  generalize h9 : s.heap = H at h ⊢
  clear h9
  generalize h9 : ([] : List Loc) = locs at h ⊢
  clear h9
  unfold fX5_isGuest at hf
  refine lv_iload_n hx hb dX5_isGuest_0 rfl (lv_at hl 1 rfl) ?_
  refine lv_i2l hx hb dX5_isGuest_1 rfl ?_
  refine lv_lconst (v := 0) hx hb dX5_isGuest_2 (by decide) ?_
  refine lv_aload_n hx hb dX5_isGuest_3 rfl (lv_at hl 0 rfl) ?_
  refine q_get (v := .ref a_s) fx inX5 h 0 rfl rfl 0 (by decide) k_636 rfl dX5_isGuest_4 ?_
  refine lv_iconst (v := 0) hx hb dX5_isGuest_7 (by decide) ?_
  refine q_ialdK fx h 1 rfl 0 (vinK (by decide)) (by decide) dX5_isGuest_8 ?_
  refine lv_iconst (v := 1) hx hb dX5_isGuest_9 (by decide) ?_
  refine lv_isub hx hb dX5_isGuest_10 ?_
  refine lv_i2l hx hb dX5_isGuest_11 rfl ?_
  obtain ⟨r1, k1, hg, hf⟩ := bR_inv hf
  refine q_ci (rest := []) (ws' := (wX5_isGuest cI cJ cZ cS a_t a_s a_keptS a_statuses a_pile a_tape a_steps a_wish a_mark a_bitsOf a_sizeOf a_number a_moved v_isKept v_taped v_at v_fault v_laid v_open v_s)) (w1 := (wX5_in cI cJ cZ cS)) fx h [] rfl rfl rfl rfl (q_runS fx h hl.1 [] rfl rfl (tX5_in l D cI cJ cZ cS tb H.size (x1.toInt64) 0 (((v_s 0) - 1).toInt64) r1 k1 hg) msX5_in k_697 ⟨rfl, rfl⟩ ⟨Nat.le_of_ble_eq_true rfl, Nat.le_of_ble_eq_true rfl⟩ rfl rfl (Nat.le_of_ble_eq_true rfl) dX5_isGuest_12 ⟨Nat.le_of_ble_eq_true rfl, Nat.le_of_ble_eq_true rfl⟩) (fun H locs h => ?_)
  obtain ⟨b2, hf⟩ := gB_inv hf
  exact q_retz (fun k : Unit => (wX5_isGuest cI cJ cZ cS a_t a_s a_keptS a_statuses a_pile a_tape a_steps a_wish a_mark a_bitsOf a_sizeOf a_number a_moved v_isKept v_taped v_at v_fault v_laid v_open v_s)) fx b2 hf h dX5_isGuest_15
/-! X5_its -/
abbrev wX5_its (cI cJ cZ cS : ClassId) (a_t a_s a_keptS a_statuses a_pile a_tape a_steps a_wish a_mark a_bitsOf a_sizeOf a_number a_moved : Nat) (v_isKept : Int32) (v_taped : Int32) (v_at : Int32) (v_fault : Int32) (v_laid : Int32) (v_open : Int32) (v_s : Nat → Int32) : va_W := [(a_t, .inr (5, [.ref a_s, .ref a_keptS, .ref a_statuses, .int v_isKept, .ref a_pile, .ref a_tape, .ref a_steps, .int v_taped, .int v_at, .int v_fault, .int v_laid, .int v_open, .ref a_wish, .ref a_mark, .ref a_bitsOf, .ref a_sizeOf, .ref a_number, .ref a_moved])), (a_s, .inl (cI, 538, .inl v_s))]
abbrev rX5_its : Room := { frames := 0, cells := 0, slots := 0, locals := 0 }
def fX5_its (v_s : Nat → Int32) (x1 : Int32) (x2 : Int32) : Option (Int32 × Unit) :=
  gIn ((2 + (3 * x1)) + x2) 538 (
  some (v_s ((2 + (3 * x1)) + x2).toNatClampNeg, ()))
set_option maxRecDepth 100000 in
set_option maxHeartbeats 4000000 in
theorem tX5_its (l : Launch) (D : va_G) (cI cJ cZ cS : ClassId) (tb : Nat) (a_t a_s a_keptS a_statuses a_pile a_tape a_steps a_wish a_mark a_bitsOf a_sizeOf a_number a_moved : Nat) (sz : Nat) (v_isKept : Int32) (v_taped : Int32) (v_at : Int32) (v_fault : Int32) (v_laid : Int32) (v_open : Int32) (v_s : Nat → Int32) (x1 : Int32) (x2 : Int32) (rr : Int32) (kk' : Unit) (hf : fX5_its v_s x1 x2 = some (rr, kk')) : Met l yX5_its (Cond.code yX5_its cX5_its 3 (some .int) :: wA) rX5_its (q_Pre D cI cJ cZ cS tb [.ref a_t, .int x1, .int x2] sz (wX5_its cI cJ cZ cS a_t a_s a_keptS a_statuses a_pile a_tape a_steps a_wish a_mark a_bitsOf a_sizeOf a_number a_moved v_isKept v_taped v_at v_fault v_laid v_open v_s)) (q_Ri D rr (va_A (wX5_its cI cJ cZ cS a_t a_s a_keptS a_statuses a_pile a_tape a_steps a_wish a_mark a_bitsOf a_sizeOf a_number a_moved v_isKept v_taped v_at v_fault v_laid v_open v_s) sz) ((fun k : Unit => (wX5_its cI cJ cZ cS a_t a_s a_keptS a_statuses a_pile a_tape a_steps a_wish a_mark a_bitsOf a_sizeOf a_number a_moved v_isKept v_taped v_at v_fault v_laid v_open v_s)) kk')) 0 0 (va_A (wX5_its cI cJ cZ cS a_t a_s a_keptS a_statuses a_pile a_tape a_steps a_wish a_mark a_bitsOf a_sizeOf a_number a_moved v_isKept v_taped v_at v_fault v_laid v_open v_s) sz) := by
  refine q_enter (Qf := fun A => (q_Ri D rr A ((fun k : Unit => (wX5_its cI cJ cZ cS a_t a_s a_keptS a_statuses a_pile a_tape a_steps a_wish a_mark a_bitsOf a_sizeOf a_number a_moved v_isKept v_taped v_at v_fault v_laid v_open v_s)) kk'))) (by decide) rfl (Nat.le_of_ble_eq_true rfl) ?_
  intro p e s m below meth c A ls fx hname h hl
  have hx := fx.1
  have hb := fx.2.1
  have hl : lv_has ls 3 [(0, .ref a_t), (1, .int x1), (2, .int x2)] := hl
  generalize h9 : s.heap = H at h ⊢
  clear h9
  generalize h9 : ([] : List Loc) = locs at h ⊢
  clear h9
  unfold fX5_its at hf
  refine lv_aload_n hx hb dX5_its_0 rfl (lv_at hl 0 rfl) ?_
  refine q_get (v := .ref a_s) fx inX5 h 0 rfl rfl 0 (by decide) k_636 rfl dX5_its_1 ?_
  refine lv_iconst (v := 2) hx hb dX5_its_4 (by decide) ?_
  refine lv_iconst (v := 3) hx hb dX5_its_5 (by decide) ?_
  refine lv_iload_n hx hb dX5_its_6 rfl (lv_at hl 1 rfl) ?_
  refine lv_imul hx hb dX5_its_7 ?_
  refine lv_iadd hx hb dX5_its_8 ?_
  refine lv_iload_n hx hb dX5_its_9 rfl (lv_at hl 2 rfl) ?_
  refine lv_iadd hx hb dX5_its_10 ?_
  obtain ⟨i1, hf⟩ := gIn_inv hf
  refine q_iald fx h 1 rfl i1 dX5_its_11 ?_
  exact q_reti (fun k : Unit => (wX5_its cI cJ cZ cS a_t a_s a_keptS a_statuses a_pile a_tape a_steps a_wish a_mark a_bitsOf a_sizeOf a_number a_moved v_isKept v_taped v_at v_fault v_laid v_open v_s)) fx hf h dX5_its_12
end
