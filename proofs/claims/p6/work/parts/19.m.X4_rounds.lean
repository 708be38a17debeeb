/-! X4_rounds -/
abbrev wX4_rounds (cI cJ cZ cS : ClassId) (a_t a_party a_party_kinds a_party_costs a_party_terms a_party_known a_kept a_tape a_telephone a_sheets a_findings : Nat) (v_isKept : Int32) (v_party_size : Int32) (v_party_list : Int32) (v_party_told : Int32) (v_party_kinds : Nat → Int32) (v_party_terms : Nat → Int64) (v_party_known : Nat → Int32) (v_findings : Nat → Int32) : va_W := [(a_t, .inr (4, [.ref a_party, .ref a_kept, .int v_isKept, .ref a_tape, .ref a_telephone, .ref a_sheets, .ref a_findings])), (a_party, .inr (0, [.int v_party_size, .int v_party_list, .int v_party_told, .ref a_party_kinds, .ref a_party_costs, .ref a_party_terms, .ref a_party_known])), (a_party_kinds, .inl (cI, 8, .inl v_party_kinds)), (a_party_terms, .inl (cJ, 32, .inr (.inl v_party_terms))), (a_party_known, .inl (cI, 256, .inl v_party_known)), (a_findings, .inl (cI, 7, .inl v_findings))]
abbrev rX4_rounds : Room := { frames := 6, cells := 0, slots := 0, locals := 135 }
def fX4_rounds_11 (v_party_size : Int32) (v_party_kinds : Nat → Int32) (v_party_terms : Nat → Int64) (v_party_list : Int32) (v_party_known : Nat → Int32) (v_findings : Nat → Int32) : Option (Int32 × Int32 × (Nat → Int32) × (Nat → Int32)) :=
  bR (fX4_found v_findings (-1000000001)) (fun r1 k1 =>
  some (r1, (v_party_list, v_party_known, k1)))
set_option maxRecDepth 100000 in
set_option maxHeartbeats 4000000 in
theorem LX4_rounds_11 {p : Program} {l : Launch} {e : Env} {s : State} {m : MethodId} {args : Array Value} {below : List Frame} {meth : Method} {c : Code} {D : va_G} {cI cJ cZ cS : ClassId} {tb : Nat} {A : Nat → Prop} {a_t a_party a_party_kinds a_party_costs a_party_terms a_party_known a_kept a_tape a_telephone a_sheets a_findings : Nat} {v_isKept : Int32} {v_party_size : Int32} {v_party_told : Int32} {v_party_kinds : Nat → Int32} {v_party_terms : Nat → Int64} {rr : Int32} {kk' : Int32 × (Nat → Int32) × (Nat → Int32)} (fx : q_Fx p s m args meth c cX4_rounds 2 RX4 (some .int) D cI cJ cZ cS tb A) : ∀ {v_party_list : Int32} {v_party_known : Nat → Int32} {v_findings : Nat → Int32} {H : Heap} {locs : List Loc} {ls : Array Slot}, q_H D A s (wX4_rounds cI cJ cZ cS a_t a_party a_party_kinds a_party_costs a_party_terms a_party_known a_kept a_tape a_telephone a_sheets a_findings v_isKept v_party_size v_party_list v_party_told v_party_kinds v_party_terms v_party_known v_findings) H locs → lv_has ls 2 [(0, .ref a_t)] → fX4_rounds_11 v_party_size v_party_kinds v_party_terms v_party_list v_party_known v_findings = some (rr, kk') → W p l e rX4_rounds s m args below meth c H locs 0 0 (MQ below (q_Ri D rr A ((fun k : Int32 × (Nat → Int32) × (Nat → Int32) => (wX4_rounds cI cJ cZ cS a_t a_party a_party_kinds a_party_costs a_party_terms a_party_known a_kept a_tape a_telephone a_sheets a_findings v_isKept v_party_size k.1 v_party_told v_party_kinds v_party_terms k.2.1 k.2.2)) kk')) args s 0 0 A) (F0 m 11 ls []) := by
  intro v_party_list v_party_known v_findings H locs ls h hl hf
  have hx := fx.1
  have hb := fx.2.1
  unfold fX4_rounds_11 at hf
  refine lv_aload_n hx hb dX4_rounds_11 rfl (lv_at hl 0 rfl) ?_
  refine q_ldc fx k_206 dX4_rounds_12 ?_
  obtain ⟨r1, k1, hg, hf⟩ := bR_inv hf
  refine q_ci (rest := []) (ws' := (wX4_rounds cI cJ cZ cS a_t a_party a_party_kinds a_party_costs a_party_terms a_party_known a_kept a_tape a_telephone a_sheets a_findings v_isKept v_party_size v_party_list v_party_told v_party_kinds v_party_terms v_party_known k1)) (w1 := (wX4_found cI cJ cZ cS a_t a_party a_kept a_tape a_telephone a_sheets a_findings v_isKept k1)) fx h [0, 5] rfl rfl rfl rfl (q_runV fx h hl.1 [0, 5] rfl rfl (tX4_found l D cI cJ cZ cS tb a_t a_party a_kept a_tape a_telephone a_sheets a_findings H.size v_isKept v_findings (-1000000001) r1 k1 hg) mvX4_found k_207 ⟨rfl, rfl⟩ ⟨Nat.le_of_ble_eq_true rfl, Nat.le_of_ble_eq_true rfl⟩ rfl rfl rfl rfl (Nat.le_of_ble_eq_true rfl) dX4_rounds_14 ⟨Nat.le_of_ble_eq_true rfl, Nat.le_of_ble_eq_true rfl⟩) (fun H locs h => ?_)
  exact q_reti (fun k : Int32 × (Nat → Int32) × (Nat → Int32) => (wX4_rounds cI cJ cZ cS a_t a_party a_party_kinds a_party_costs a_party_terms a_party_known a_kept a_tape a_telephone a_sheets a_findings v_isKept v_party_size k.1 v_party_told v_party_kinds v_party_terms k.2.1 k.2.2)) fx hf h dX4_rounds_17
def fX4_rounds (v_party_size : Int32) (v_party_list : Int32) (v_party_kinds : Nat → Int32) (v_party_terms : Nat → Int64) (v_party_known : Nat → Int32) (v_findings : Nat → Int32) (x1 : Int32) : Option (Int32 × Int32 × (Nat → Int32) × (Nat → Int32)) :=
  (if x1 < 1 then (
  fX4_rounds_11 v_party_size v_party_kinds v_party_terms v_party_list v_party_known v_findings)
  else (
  (if x1 ≤ 64 then (
  bR (fX0_behind v_party_size v_party_kinds v_party_terms v_party_known v_party_list x1) (fun r4 k4 =>
  some (r4, (r4, k4, v_findings))))
  else (
  fX4_rounds_11 v_party_size v_party_kinds v_party_terms v_party_list v_party_known v_findings))))
set_option maxRecDepth 100000 in
set_option maxHeartbeats 4000000 in
theorem tX4_rounds (l : Launch) (D : va_G) (cI cJ cZ cS : ClassId) (tb : Nat) (a_t a_party a_party_kinds a_party_costs a_party_terms a_party_known a_kept a_tape a_telephone a_sheets a_findings : Nat) (sz : Nat) (v_isKept : Int32) (v_party_size : Int32) (v_party_list : Int32) (v_party_told : Int32) (v_party_kinds : Nat → Int32) (v_party_terms : Nat → Int64) (v_party_known : Nat → Int32) (v_findings : Nat → Int32) (x1 : Int32) (rr : Int32) (kk' : Int32 × (Nat → Int32) × (Nat → Int32)) (hf : fX4_rounds v_party_size v_party_list v_party_kinds v_party_terms v_party_known v_findings x1 = some (rr, kk')) : Met l yX4_rounds (Cond.code yX4_rounds cX4_rounds 2 (some .int) :: wA) rX4_rounds (q_Pre D cI cJ cZ cS tb [.ref a_t, .int x1] sz (wX4_rounds cI cJ cZ cS a_t a_party a_party_kinds a_party_costs a_party_terms a_party_known a_kept a_tape a_telephone a_sheets a_findings v_isKept v_party_size v_party_list v_party_told v_party_kinds v_party_terms v_party_known v_findings)) (q_Ri D rr (va_A (wX4_rounds cI cJ cZ cS a_t a_party a_party_kinds a_party_costs a_party_terms a_party_known a_kept a_tape a_telephone a_sheets a_findings v_isKept v_party_size v_party_list v_party_told v_party_kinds v_party_terms v_party_known v_findings) sz) ((fun k : Int32 × (Nat → Int32) × (Nat → Int32) => (wX4_rounds cI cJ cZ cS a_t a_party a_party_kinds a_party_costs a_party_terms a_party_known a_kept a_tape a_telephone a_sheets a_findings v_isKept v_party_size k.1 v_party_told v_party_kinds v_party_terms k.2.1 k.2.2)) kk')) 0 0 (va_A (wX4_rounds cI cJ cZ cS a_t a_party a_party_kinds a_party_costs a_party_terms a_party_known a_kept a_tape a_telephone a_sheets a_findings v_isKept v_party_size v_party_list v_party_told v_party_kinds v_party_terms v_party_known v_findings) sz) := by
  refine q_enter (Qf := fun A => (q_Ri D rr A ((fun k : Int32 × (Nat → Int32) × (Nat → Int32) => (wX4_rounds cI cJ cZ cS a_t a_party a_party_kinds a_party_costs a_party_terms a_party_known a_kept a_tape a_telephone a_sheets a_findings v_isKept v_party_size k.1 v_party_told v_party_kinds v_party_terms k.2.1 k.2.2)) kk'))) (by decide) rfl (Nat.le_of_ble_eq_true rfl) ?_
  intro p e s m below meth c A ls fx hname h hl
  have hx := fx.1
  have hb := fx.2.1
  have hl : lv_has ls 2 [(0, .ref a_t), (1, .int x1)] := hl
  generalize h9 : s.heap = H at h ⊢
  clear h9
  generalize h9 : ([] : List Loc) = locs at h ⊢
  clear h9
  unfold fX4_rounds at hf
  refine lv_iload_n hx hb dX4_rounds_0 rfl (lv_at hl 1 rfl) ?_
  refine lv_iconst (v := 1) hx hb dX4_rounds_1 (by decide) ?_
  refine lv_icmp_lt (tgt := 11) hx hb dX4_rounds_2 (by decide) (fun c2 => ?_) (fun c2 => ?_)
  · have hf := it_t c2 hf
    exact LX4_rounds_11 fx h (lv_sub hl [0] rfl) hf
  have hf := it_f c2 hf
  refine lv_iload_n hx hb dX4_rounds_5 rfl (lv_at hl 1 rfl) ?_
  refine lv_bipush (v := 64) hx hb dX4_rounds_6 (by decide) ?_
  refine lv_icmp_le (tgt := 18) hx hb dX4_rounds_8 (by decide) (fun c3 => ?_) (fun c3 => ?_)
  · have hf := it_t c3 hf
    refine lv_aload_n hx hb dX4_rounds_18 rfl (lv_at hl 0 rfl) ?_
    refine q_get (v := .ref a_party) fx inX4 h 0 rfl rfl 0 (by decide) k_174 rfl dX4_rounds_19 ?_
    refine lv_aload_n hx hb dX4_rounds_22 rfl (lv_at hl 0 rfl) ?_
    refine q_get (v := .ref a_party) fx inX4 h 0 rfl rfl 0 (by decide) k_174 rfl dX4_rounds_23 ?_
    refine lv_aload_n hx hb dX4_rounds_26 rfl (lv_at hl 0 rfl) ?_
    refine q_get (v := .ref a_party) fx inX4 h 0 rfl rfl 0 (by decide) k_174 rfl dX4_rounds_27 ?_
    refine q_getN (v := .int v_party_list) fx inX0 h 1 rfl rfl 1 (by decide) nf_3 rfl dX4_rounds_30 ?_
    refine lv_iload_n hx hb dX4_rounds_33 rfl (lv_at hl 1 rfl) ?_
    obtain ⟨r4, k4, hg, hf⟩ := bR_inv hf
    refine q_ci (rest := [.ref a_party]) (ws' := (wX4_rounds cI cJ cZ cS a_t a_party a_party_kinds a_party_costs a_party_terms a_party_known a_kept a_tape a_telephone a_sheets a_findings v_isKept v_party_size v_party_list v_party_told v_party_kinds v_party_terms k4 v_findings)) (w1 := (wX0_behind cI cJ cZ cS a_party a_party_kinds a_party_costs a_party_terms a_party_known v_party_size v_party_list v_party_told v_party_kinds v_party_terms k4)) fx h [1, 2, 3, 4] rfl rfl rfl rfl (q_runV fx h hl.1 [1, 2, 3, 4] rfl rfl (tX0_behind l D cI cJ cZ cS tb a_party a_party_kinds a_party_costs a_party_terms a_party_known H.size v_party_size v_party_list v_party_told v_party_kinds v_party_terms v_party_known v_party_list x1 r4 k4 hg) mvX0_behind k_389 ⟨rfl, rfl⟩ ⟨Nat.le_of_ble_eq_true rfl, Nat.le_of_ble_eq_true rfl⟩ rfl rfl rfl rfl (Nat.le_of_ble_eq_true rfl) dX4_rounds_34 ⟨Nat.le_of_ble_eq_true rfl, Nat.le_of_ble_eq_true rfl⟩) (fun H locs h => ?_)
    refine q_putN (v := .int r4) (ws' := (wX4_rounds cI cJ cZ cS a_t a_party a_party_kinds a_party_costs a_party_terms a_party_known a_kept a_tape a_telephone a_sheets a_findings v_isKept v_party_size r4 v_party_told v_party_kinds v_party_terms k4 v_findings)) fx inX0 tyX0 tyX0_ok nmX0 h 1 rfl rfl 1 (by decide) nf_3 rfl rfl rfl (Nat.le_of_ble_eq_true rfl) rfl dX4_rounds_37 (fun H locs h => ?_)
    refine lv_aload_n hx hb dX4_rounds_40 rfl (lv_at hl 0 rfl) ?_
    refine q_get (v := .ref a_party) fx inX4 h 0 rfl rfl 0 (by decide) k_174 rfl dX4_rounds_41 ?_
    refine q_getN (v := .int r4) fx inX0 h 1 rfl rfl 1 (by decide) nf_3 rfl dX4_rounds_44 ?_
    exact q_reti (fun k : Int32 × (Nat → Int32) × (Nat → Int32) => (wX4_rounds cI cJ cZ cS a_t a_party a_party_kinds a_party_costs a_party_terms a_party_known a_kept a_tape a_telephone a_sheets a_findings v_isKept v_party_size k.1 v_party_told v_party_kinds v_party_terms k.2.1 k.2.2)) fx hf h dX4_rounds_47
  have hf := it_f c3 hf
  exact LX4_rounds_11 fx h (lv_sub hl [0] rfl) hf
/-! X4_on -/
abbrev wX4_on (cI cJ cZ cS : ClassId) (a_t a_party a_party_kinds a_party_costs a_party_terms a_party_known a_kept a_tape a_telephone a_sheets a_findings : Nat) (v_isKept : Int32) (v_party_size : Int32) (v_party_list : Int32) (v_party_told : Int32) (v_party_kinds : Nat → Int32) (v_party_terms : Nat → Int64) (v_party_known : Nat → Int32) (v_findings : Nat → Int32) : va_W := [(a_t, .inr (4, [.ref a_party, .ref a_kept, .int v_isKept, .ref a_tape, .ref a_telephone, .ref a_sheets, .ref a_findings])), (a_party, .inr (0, [.int v_party_size, .int v_party_list, .int v_party_told, .ref a_party_kinds, .ref a_party_costs, .ref a_party_terms, .ref a_party_known])), (a_party_kinds, .inl (cI, 8, .inl v_party_kinds)), (a_party_terms, .inl (cJ, 32, .inr (.inl v_party_terms))), (a_party_known, .inl (cI, 256, .inl v_party_known)), (a_findings, .inl (cI, 7, .inl v_findings))]
abbrev rX4_on : Room := { frames := 6, cells := 0, slots := 0, locals := 135 }
def fX4_on_10 (v_party_size : Int32) (v_party_list : Int32) (v_party_kinds : Nat → Int32) (v_party_terms : Nat → Int64) (v_party_known : Nat → Int32) (v_findings : Nat → Int32) : Option (Int32 × (Nat → Int32) × (Nat → Int32)) :=
  bR (fX4_found v_findings (-1000000001)) (fun r1 k1 =>
  some (r1, (v_party_known, k1)))
set_option maxRecDepth 100000 in
set_option maxHeartbeats 4000000 in
theorem LX4_on_10 {p : Program} {l : Launch} {e : Env} {s : State} {m : MethodId} {args : Array Value} {below : List Frame} {meth : Method} {c : Code} {D : va_G} {cI cJ cZ cS : ClassId} {tb : Nat} {A : Nat → Prop} {a_t a_party a_party_kinds a_party_costs a_party_terms a_party_known a_kept a_tape a_telephone a_sheets a_findings : Nat} {v_isKept : Int32} {v_party_size : Int32} {v_party_list : Int32} {v_party_told : Int32} {v_party_kinds : Nat → Int32} {v_party_terms : Nat → Int64} {rr : Int32} {kk' : (Nat → Int32) × (Nat → Int32)} (fx : q_Fx p s m args meth c cX4_on 2 RX4 (some .int) D cI cJ cZ cS tb A) : ∀ {v_party_known : Nat → Int32} {v_findings : Nat → Int32} {H : Heap} {locs : List Loc} {ls : Array Slot}, q_H D A s (wX4_on cI cJ cZ cS a_t a_party a_party_kinds a_party_costs a_party_terms a_party_known a_kept a_tape a_telephone a_sheets a_findings v_isKept v_party_size v_party_list v_party_told v_party_kinds v_party_terms v_party_known v_findings) H locs → lv_has ls 2 [(0, .ref a_t)] → fX4_on_10 v_party_size v_party_list v_party_kinds v_party_terms v_party_known v_findings = some (rr, kk') → W p l e rX4_on s m args below meth c H locs 0 0 (MQ below (q_Ri D rr A ((fun k : (Nat → Int32) × (Nat → Int32) => (wX4_on cI cJ cZ cS a_t a_party a_party_kinds a_party_costs a_party_terms a_party_known a_kept a_tape a_telephone a_sheets a_findings v_isKept v_party_size v_party_list v_party_told v_party_kinds v_party_terms k.1 k.2)) kk')) args s 0 0 A) (F0 m 10 ls []) := by
  intro v_party_known v_findings H locs ls h hl hf
  have hx := fx.1
  have hb := fx.2.1
  unfold fX4_on_10 at hf
  refine lv_aload_n hx hb dX4_on_10 rfl (lv_at hl 0 rfl) ?_
  refine q_ldc fx k_206 dX4_on_11 ?_
  obtain ⟨r1, k1, hg, hf⟩ := bR_inv hf
  refine q_ci (rest := []) (ws' := (wX4_on cI cJ cZ cS a_t a_party a_party_kinds a_party_costs a_party_terms a_party_known a_kept a_tape a_telephone a_sheets a_findings v_isKept v_party_size v_party_list v_party_told v_party_kinds v_party_terms v_party_known k1)) (w1 := (wX4_found cI cJ cZ cS a_t a_party a_kept a_tape a_telephone a_sheets a_findings v_isKept k1)) fx h [0, 5] rfl rfl rfl rfl (q_runV fx h hl.1 [0, 5] rfl rfl (tX4_found l D cI cJ cZ cS tb a_t a_party a_kept a_tape a_telephone a_sheets a_findings H.size v_isKept v_findings (-1000000001) r1 k1 hg) mvX4_found k_207 ⟨rfl, rfl⟩ ⟨Nat.le_of_ble_eq_true rfl, Nat.le_of_ble_eq_true rfl⟩ rfl rfl rfl rfl (Nat.le_of_ble_eq_true rfl) dX4_on_13 ⟨Nat.le_of_ble_eq_true rfl, Nat.le_of_ble_eq_true rfl⟩) (fun H locs h => ?_)
  refine lv_goto (tgt := 34) hx hb dX4_on_16 (by decide) ?_
  exact q_reti (fun k : (Nat → Int32) × (Nat → Int32) => (wX4_on cI cJ cZ cS a_t a_party a_party_kinds a_party_costs a_party_terms a_party_known a_kept a_tape a_telephone a_sheets a_findings v_isKept v_party_size v_party_list v_party_told v_party_kinds v_party_terms k.1 k.2)) fx hf h dX4_on_34
def fX4_on (v_party_size : Int32) (v_party_list : Int32) (v_party_kinds : Nat → Int32) (v_party_terms : Nat → Int64) (v_party_known : Nat → Int32) (v_findings : Nat → Int32) (x1 : Int32) : Option (Int32 × (Nat → Int32) × (Nat → Int32)) :=
  (if x1 < 0 then (
  fX4_on_10 v_party_size v_party_list v_party_kinds v_party_terms v_party_known v_findings)
  else (
  (if x1 ≤ 64 then (
  bR (fX0_behind v_party_size v_party_kinds v_party_terms v_party_known v_party_list x1) (fun r4 k4 =>
  some (r4, (k4, v_findings))))
  else (
  fX4_on_10 v_party_size v_party_list v_party_kinds v_party_terms v_party_known v_findings))))
set_option maxRecDepth 100000 in
set_option maxHeartbeats 4000000 in
theorem tX4_on (l : Launch) (D : va_G) (cI cJ cZ cS : ClassId) (tb : Nat) (a_t a_party a_party_kinds a_party_costs a_party_terms a_party_known a_kept a_tape a_telephone a_sheets a_findings : Nat) (sz : Nat) (v_isKept : Int32) (v_party_size : Int32) (v_party_list : Int32) (v_party_told : Int32) (v_party_kinds : Nat → Int32) (v_party_terms : Nat → Int64) (v_party_known : Nat → Int32) (v_findings : Nat → Int32) (x1 : Int32) (rr : Int32) (kk' : (Nat → Int32) × (Nat → Int32)) (hf : fX4_on v_party_size v_party_list v_party_kinds v_party_terms v_party_known v_findings x1 = some (rr, kk')) : Met l yX4_on (Cond.code yX4_on cX4_on 2 (some .int) :: wA) rX4_on (q_Pre D cI cJ cZ cS tb [.ref a_t, .int x1] sz (wX4_on cI cJ cZ cS a_t a_party a_party_kinds a_party_costs a_party_terms a_party_known a_kept a_tape a_telephone a_sheets a_findings v_isKept v_party_size v_party_list v_party_told v_party_kinds v_party_terms v_party_known v_findings)) (q_Ri D rr (va_A (wX4_on cI cJ cZ cS a_t a_party a_party_kinds a_party_costs a_party_terms a_party_known a_kept a_tape a_telephone a_sheets a_findings v_isKept v_party_size v_party_list v_party_told v_party_kinds v_party_terms v_party_known v_findings) sz) ((fun k : (Nat → Int32) × (Nat → Int32) => (wX4_on cI cJ cZ cS a_t a_party a_party_kinds a_party_costs a_party_terms a_party_known a_kept a_tape a_telephone a_sheets a_findings v_isKept v_party_size v_party_list v_party_told v_party_kinds v_party_terms k.1 k.2)) kk')) 0 0 (va_A (wX4_on cI cJ cZ cS a_t a_party a_party_kinds a_party_costs a_party_terms a_party_known a_kept a_tape a_telephone a_sheets a_findings v_isKept v_party_size v_party_list v_party_told v_party_kinds v_party_terms v_party_known v_findings) sz) := by
  refine q_enter (Qf := fun A => (q_Ri D rr A ((fun k : (Nat → Int32) × (Nat → Int32) => (wX4_on cI cJ cZ cS a_t a_party a_party_kinds a_party_costs a_party_terms a_party_known a_kept a_tape a_telephone a_sheets a_findings v_isKept v_party_size v_party_list v_party_told v_party_kinds v_party_terms k.1 k.2)) kk'))) (by decide) rfl (Nat.le_of_ble_eq_true rfl) ?_
  intro p e s m below meth c A ls fx hname h hl
  have hx := fx.1
  have hb := fx.2.1
  have hl : lv_has ls 2 [(0, .ref a_t), (1, .int x1)] := hl
  generalize h9 : s.heap = H at h ⊢
  clear h9
  generalize h9 : ([] : List Loc) = locs at h ⊢
  clear h9
  unfold fX4_on at hf
  refine lv_iload_n hx hb dX4_on_0 rfl (lv_at hl 1 rfl) ?_
  refine lv_if_lt (tgt := 10) hx hb dX4_on_1 (by decide) (fun c2 => ?_) (fun c2 => ?_)
  · have hf := it_t c2 hf
    exact LX4_on_10 fx h (lv_sub hl [0] rfl) hf
  have hf := it_f c2 hf
  refine lv_iload_n hx hb dX4_on_4 rfl (lv_at hl 1 rfl) ?_
  refine lv_bipush (v := 64) hx hb dX4_on_5 (by decide) ?_
  refine lv_icmp_le (tgt := 19) hx hb dX4_on_7 (by decide) (fun c3 => ?_) (fun c3 => ?_)
  · have hf := it_t c3 hf
    refine lv_aload_n hx hb dX4_on_19 rfl (lv_at hl 0 rfl) ?_
    refine q_get (v := .ref a_party) fx inX4 h 0 rfl rfl 0 (by decide) k_174 rfl dX4_on_20 ?_
    refine lv_aload_n hx hb dX4_on_23 rfl (lv_at hl 0 rfl) ?_
    refine q_get (v := .ref a_party) fx inX4 h 0 rfl rfl 0 (by decide) k_174 rfl dX4_on_24 ?_
    refine q_getN (v := .int v_party_list) fx inX0 h 1 rfl rfl 1 (by decide) nf_3 rfl dX4_on_27 ?_
    refine lv_iload_n hx hb dX4_on_30 rfl (lv_at hl 1 rfl) ?_
    obtain ⟨r4, k4, hg, hf⟩ := bR_inv hf
    refine q_ci (rest := []) (ws' := (wX4_on cI cJ cZ cS a_t a_party a_party_kinds a_party_costs a_party_terms a_party_known a_kept a_tape a_telephone a_sheets a_findings v_isKept v_party_size v_party_list v_party_told v_party_kinds v_party_terms k4 v_findings)) (w1 := (wX0_behind cI cJ cZ cS a_party a_party_kinds a_party_costs a_party_terms a_party_known v_party_size v_party_list v_party_told v_party_kinds v_party_terms k4)) fx h [1, 2, 3, 4] rfl rfl rfl rfl (q_runV fx h hl.1 [1, 2, 3, 4] rfl rfl (tX0_behind l D cI cJ cZ cS tb a_party a_party_kinds a_party_costs a_party_terms a_party_known H.size v_party_size v_party_list v_party_told v_party_kinds v_party_terms v_party_known v_party_list x1 r4 k4 hg) mvX0_behind k_389 ⟨rfl, rfl⟩ ⟨Nat.le_of_ble_eq_true rfl, Nat.le_of_ble_eq_true rfl⟩ rfl rfl rfl rfl (Nat.le_of_ble_eq_true rfl) dX4_on_31 ⟨Nat.le_of_ble_eq_true rfl, Nat.le_of_ble_eq_true rfl⟩) (fun H locs h => ?_)
    exact q_reti (fun k : (Nat → Int32) × (Nat → Int32) => (wX4_on cI cJ cZ cS a_t a_party a_party_kinds a_party_costs a_party_terms a_party_known a_kept a_tape a_telephone a_sheets a_findings v_isKept v_party_size v_party_list v_party_told v_party_kinds v_party_terms k.1 k.2)) fx hf h dX4_on_34
  have hf := it_f c3 hf
  exact LX4_on_10 fx h (lv_sub hl [0] rfl) hf
/-! X4_when -/
abbrev wX4_when (cI cJ cZ cS : ClassId) (a_t a_party a_party_kinds a_party_costs a_party_terms a_party_known a_kept a_tape a_telephone a_sheets a_findings : Nat) (v_isKept : Int32) (v_party_size : Int32) (v_party_list : Int32) (v_party_told : Int32) (v_party_kinds : Nat → Int32) (v_party_terms : Nat → Int64) (v_party_known : Nat → Int32) (v_findings : Nat → Int32) : va_W := [(a_t, .inr (4, [.ref a_party, .ref a_kept, .int v_isKept, .ref a_tape, .ref a_telephone, .ref a_sheets, .ref a_findings])), (a_party, .inr (0, [.int v_party_size, .int v_party_list, .int v_party_told, .ref a_party_kinds, .ref a_party_costs, .ref a_party_terms, .ref a_party_known])), (a_party_kinds, .inl (cI, 8, .inl v_party_kinds)), (a_party_terms, .inl (cJ, 32, .inr (.inl v_party_terms))), (a_party_known, .inl (cI, 256, .inl v_party_known)), (a_findings, .inl (cI, 7, .inl v_findings))]
abbrev rX4_when : Room := { frames := 5, cells := 0, slots := 0, locals := 111 }
def fX4_when_10 (v_party_size : Int32) (v_party_list : Int32) (v_party_kinds : Nat → Int32) (v_party_terms : Nat → Int64) (ag10 : (Nat → Int32) → (Nat → Int32) → Int32 → Int32 → Option (Int32 × (Nat → Int32) × (Nat → Int32))) (v_party_known : Nat → Int32) (v_findings : Nat → Int32) (y1 : Int32) (y2 : Int32) : Option (Int32 × (Nat → Int32) × (Nat → Int32)) :=
  (if (256 : Int32) < y2 then (
  bR (fX4_found v_findings (-1000000004)) (fun r2 k2 =>
  some (r2, (v_party_known, k2))))
  else (
  bR (fX0_isSettled v_party_size v_party_kinds v_party_terms v_party_known y1) (fun r3 k3 =>
  (if r3 = 0 then (
  bR (fX0_comers v_party_size v_party_kinds v_party_terms k3 y1) (fun r5 k5 =>
  nm (y2 + 1) (fun u6 =>
  ag10 k5 v_findings r5 u6)))
  else (
  some (y2, (k3, v_findings)))))))
set_option maxRecDepth 100000 in
set_option maxHeartbeats 4000000 in
theorem LX4_when_10 {p : Program} {l : Launch} {e : Env} {s : State} {m : MethodId} {args : Array Value} {below : List Frame} {meth : Method} {c : Code} {D : va_G} {cI cJ cZ cS : ClassId} {tb : Nat} {A : Nat → Prop} {a_t a_party a_party_kinds a_party_costs a_party_terms a_party_known a_kept a_tape a_telephone a_sheets a_findings : Nat} {v_isKept : Int32} {v_party_size : Int32} {v_party_list : Int32} {v_party_told : Int32} {v_party_kinds : Nat → Int32} {v_party_terms : Nat → Int64} {rr : Int32} {kk' : (Nat → Int32) × (Nat → Int32)} (fx : q_Fx p s m args meth c cX4_when 3 RX4 (some .int) D cI cJ cZ cS tb A) {ag10 : (Nat → Int32) → (Nat → Int32) → Int32 → Int32 → Option (Int32 × (Nat → Int32) × (Nat → Int32))} (hag10 : ∀ {v_party_known : Nat → Int32} {v_findings : Nat → Int32} {y1 : Int32} {y2 : Int32} {H : Heap} {locs : List Loc} {ls : Array Slot}, q_H D A s (wX4_when cI cJ cZ cS a_t a_party a_party_kinds a_party_costs a_party_terms a_party_known a_kept a_tape a_telephone a_sheets a_findings v_isKept v_party_size v_party_list v_party_told v_party_kinds v_party_terms v_party_known v_findings) H locs → lv_has ls 3 [(0, .ref a_t), (1, .int y1), (2, .int y2)] → ag10 v_party_known v_findings y1 y2 = some (rr, kk') → W p l e rX4_when s m args below meth c H locs 0 0 (MQ below (q_Ri D rr A ((fun k : (Nat → Int32) × (Nat → Int32) => (wX4_when cI cJ cZ cS a_t a_party a_party_kinds a_party_costs a_party_terms a_party_known a_kept a_tape a_telephone a_sheets a_findings v_isKept v_party_size v_party_list v_party_told v_party_kinds v_party_terms k.1 k.2)) kk')) args s 0 0 A) (F0 m 10 ls [])) : ∀ {v_party_known : Nat → Int32} {v_findings : Nat → Int32} {y1 : Int32} {y2 : Int32} {H : Heap} {locs : List Loc} {ls : Array Slot}, q_H D A s (wX4_when cI cJ cZ cS a_t a_party a_party_kinds a_party_costs a_party_terms a_party_known a_kept a_tape a_telephone a_sheets a_findings v_isKept v_party_size v_party_list v_party_told v_party_kinds v_party_terms v_party_known v_findings) H locs → lv_has ls 3 [(0, .ref a_t), (1, .int y1), (2, .int y2)] → fX4_when_10 v_party_size v_party_list v_party_kinds v_party_terms ag10 v_party_known v_findings y1 y2 = some (rr, kk') → W p l e rX4_when s m args below meth c H locs 0 0 (MQ below (q_Ri D rr A ((fun k : (Nat → Int32) × (Nat → Int32) => (wX4_when cI cJ cZ cS a_t a_party a_party_kinds a_party_costs a_party_terms a_party_known a_kept a_tape a_telephone a_sheets a_findings v_isKept v_party_size v_party_list v_party_told v_party_kinds v_party_terms k.1 k.2)) kk')) args s 0 0 A) (F0 m 10 ls []) := by
  intro v_party_known v_findings y1 y2 H locs ls h hl hf
  have hx := fx.1
  have hb := fx.2.1
  unfold fX4_when_10 at hf
  refine lv_iload_n hx hb dX4_when_10 rfl (lv_at hl 2 rfl) ?_
  refine lv_sipush (v := 256) hx hb dX4_when_11 (by decide) ?_
  refine lv_icmp_gt (tgt := 45) hx hb dX4_when_14 (by decide) (fun c1 => ?_) (fun c1 => ?_)
  · have hf := it_t c1 hf
    refine lv_aload_n hx hb dX4_when_45 rfl (lv_at hl 0 rfl) ?_
    refine q_ldc fx k_402 dX4_when_46 ?_
    obtain ⟨r2, k2, hg, hf⟩ := bR_inv hf
    refine q_ci (rest := []) (ws' := (wX4_when cI cJ cZ cS a_t a_party a_party_kinds a_party_costs a_party_terms a_party_known a_kept a_tape a_telephone a_sheets a_findings v_isKept v_party_size v_party_list v_party_told v_party_kinds v_party_terms v_party_known k2)) (w1 := (wX4_found cI cJ cZ cS a_t a_party a_kept a_tape a_telephone a_sheets a_findings v_isKept k2)) fx h [0, 5] rfl rfl rfl rfl (q_runV fx h hl.1 [0, 5] rfl rfl (tX4_found l D cI cJ cZ cS tb a_t a_party a_kept a_tape a_telephone a_sheets a_findings H.size v_isKept v_findings (-1000000004) r2 k2 hg) mvX4_found k_207 ⟨rfl, rfl⟩ ⟨Nat.le_of_ble_eq_true rfl, Nat.le_of_ble_eq_true rfl⟩ rfl rfl rfl rfl (Nat.le_of_ble_eq_true rfl) dX4_when_48 ⟨Nat.le_of_ble_eq_true rfl, Nat.le_of_ble_eq_true rfl⟩) (fun H locs h => ?_)
    exact q_reti (fun k : (Nat → Int32) × (Nat → Int32) => (wX4_when cI cJ cZ cS a_t a_party a_party_kinds a_party_costs a_party_terms a_party_known a_kept a_tape a_telephone a_sheets a_findings v_isKept v_party_size v_party_list v_party_told v_party_kinds v_party_terms k.1 k.2)) fx hf h dX4_when_51
  have hf := it_f c1 hf
  refine lv_aload_n hx hb dX4_when_17 rfl (lv_at hl 0 rfl) ?_
  refine q_get (v := .ref a_party) fx inX4 h 0 rfl rfl 0 (by decide) k_174 rfl dX4_when_18 ?_
  refine lv_iload_n hx hb dX4_when_21 rfl (lv_at hl 1 rfl) ?_
  obtain ⟨r3, k3, hg, hf⟩ := bR_inv hf
  refine q_ci (rest := []) (ws' := (wX4_when cI cJ cZ cS a_t a_party a_party_kinds a_party_costs a_party_terms a_party_known a_kept a_tape a_telephone a_sheets a_findings v_isKept v_party_size v_party_list v_party_told v_party_kinds v_party_terms k3 v_findings)) (w1 := (wX0_isSettled cI cJ cZ cS a_party a_party_kinds a_party_costs a_party_terms a_party_known v_party_size v_party_list v_party_told v_party_kinds v_party_terms k3)) fx h [1, 2, 3, 4] rfl rfl rfl rfl (q_runV fx h hl.1 [1, 2, 3, 4] rfl rfl (tX0_isSettled l D cI cJ cZ cS tb a_party a_party_kinds a_party_costs a_party_terms a_party_known H.size v_party_size v_party_list v_party_told v_party_kinds v_party_terms v_party_known y1 r3 k3 hg) mvX0_isSettled k_358 ⟨rfl, rfl⟩ ⟨Nat.le_of_ble_eq_true rfl, Nat.le_of_ble_eq_true rfl⟩ rfl rfl rfl rfl (Nat.le_of_ble_eq_true rfl) dX4_when_22 ⟨Nat.le_of_ble_eq_true rfl, Nat.le_of_ble_eq_true rfl⟩) (fun H locs h => ?_)
  refine lv_if_eq (tgt := 30) hx hb dX4_when_25 (by decide) (fun c4 => ?_) (fun c4 => ?_)
  · have hf := it_t c4 hf
    refine lv_aload_n hx hb dX4_when_30 rfl (lv_at hl 0 rfl) ?_
    refine q_get (v := .ref a_party) fx inX4 h 0 rfl rfl 0 (by decide) k_174 rfl dX4_when_31 ?_
    refine lv_iload_n hx hb dX4_when_34 rfl (lv_at hl 1 rfl) ?_
    obtain ⟨r5, k5, hg, hf⟩ := bR_inv hf
    refine q_ci (rest := []) (ws' := (wX4_when cI cJ cZ cS a_t a_party a_party_kinds a_party_costs a_party_terms a_party_known a_kept a_tape a_telephone a_sheets a_findings v_isKept v_party_size v_party_list v_party_told v_party_kinds v_party_terms k5 v_findings)) (w1 := (wX0_comers cI cJ cZ cS a_party a_party_kinds a_party_costs a_party_terms a_party_known v_party_size v_party_list v_party_told v_party_kinds v_party_terms k5)) fx h [1, 2, 3, 4] rfl rfl rfl rfl (q_runV fx h hl.1 [1, 2, 3, 4] rfl rfl (tX0_comers l D cI cJ cZ cS tb a_party a_party_kinds a_party_costs a_party_terms a_party_known H.size v_party_size v_party_list v_party_told v_party_kinds v_party_terms k3 y1 r5 k5 hg) mvX0_comers k_224 ⟨rfl, rfl⟩ ⟨Nat.le_of_ble_eq_true rfl, Nat.le_of_ble_eq_true rfl⟩ rfl rfl rfl rfl (Nat.le_of_ble_eq_true rfl) dX4_when_35 ⟨Nat.le_of_ble_eq_true rfl, Nat.le_of_ble_eq_true rfl⟩) (fun H locs h => ?_)
    refine lv_istore_n (lv' := [(1, .int r5), (0, .ref a_t), (2, .int y2)]) hx hb dX4_when_38 rfl hl (by decide) rfl (fun ls hl => ?_)
    obtain ⟨u6, eu6, hf⟩ := nm_inv hf
    refine lv_iinc (v := u6) (lv' := [(2, .int u6), (1, .int r5), (0, .ref a_t)]) hx hb dX4_when_39 hl (k := 2) rfl (by rw [eu6]; rfl) (by decide) rfl (fun ls hl => ?_)
    refine lv_goto (tgt := 10) hx hb dX4_when_42 (by decide) ?_
    exact hag10 h (lv_sub hl [2, 1, 0] rfl) hf
  have hf := it_f c4 hf
  refine lv_iload_n hx hb dX4_when_28 rfl (lv_at hl 2 rfl) ?_
  exact q_reti (fun k : (Nat → Int32) × (Nat → Int32) => (wX4_when cI cJ cZ cS a_t a_party a_party_kinds a_party_costs a_party_terms a_party_known a_kept a_tape a_telephone a_sheets a_findings v_isKept v_party_size v_party_list v_party_told v_party_kinds v_party_terms k.1 k.2)) fx hf h dX4_when_29
set_option maxRecDepth 100000 in
theorem EX4_when_10 {p : Program} {l : Launch} {e : Env} {s : State} {m : MethodId} {args : Array Value} {below : List Frame} {meth : Method} {c : Code} {D : va_G} {cI cJ cZ cS : ClassId} {tb : Nat} {A : Nat → Prop} {a_t a_party a_party_kinds a_party_costs a_party_terms a_party_known a_kept a_tape a_telephone a_sheets a_findings : Nat} {v_isKept : Int32} {v_party_size : Int32} {v_party_list : Int32} {v_party_told : Int32} {v_party_kinds : Nat → Int32} {v_party_terms : Nat → Int64} {rr : Int32} {kk' : (Nat → Int32) × (Nat → Int32)} (fx : q_Fx p s m args meth c cX4_when 3 RX4 (some .int) D cI cJ cZ cS tb A) : ∀ (n : Nat), ∀ {v_party_known : Nat → Int32} {v_findings : Nat → Int32} {y1 : Int32} {y2 : Int32} {H : Heap} {locs : List Loc} {ls : Array Slot}, q_H D A s (wX4_when cI cJ cZ cS a_t a_party a_party_kinds a_party_costs a_party_terms a_party_known a_kept a_tape a_telephone a_sheets a_findings v_isKept v_party_size v_party_list v_party_told v_party_kinds v_party_terms v_party_known v_findings) H locs → lv_has ls 3 [(0, .ref a_t), (1, .int y1), (2, .int y2)] → ll4 (fX4_when_10 v_party_size v_party_list v_party_kinds v_party_terms) n v_party_known v_findings y1 y2 = some (rr, kk') → W p l e rX4_when s m args below meth c H locs 0 0 (MQ below (q_Ri D rr A ((fun k : (Nat → Int32) × (Nat → Int32) => (wX4_when cI cJ cZ cS a_t a_party a_party_kinds a_party_costs a_party_terms a_party_known a_kept a_tape a_telephone a_sheets a_findings v_isKept v_party_size v_party_list v_party_told v_party_kinds v_party_terms k.1 k.2)) kk')) args s 0 0 A) (F0 m 10 ls []) := by
  intro n
  induction n with
  | zero => intro v_party_known v_findings y1 y2 H locs ls h hl hf; exact (ll4_z hf).elim
  | succ n ih => intro v_party_known v_findings y1 y2 H locs ls h hl hf; exact LX4_when_10 fx ih h hl (ll4_s hf)
def fX4_when (v_party_size : Int32) (v_party_list : Int32) (v_party_kinds : Nat → Int32) (v_party_terms : Nat → Int64) (v_party_known : Nat → Int32) (v_findings : Nat → Int32) : Option (Int32 × (Nat → Int32) × (Nat → Int32)) :=
  ll4 (fX4_when_10 v_party_size v_party_list v_party_kinds v_party_terms) qF v_party_known v_findings v_party_list 0
set_option maxRecDepth 100000 in
set_option maxHeartbeats 4000000 in
theorem tX4_when (l : Launch) (D : va_G) (cI cJ cZ cS : ClassId) (tb : Nat) (a_t a_party a_party_kinds a_party_costs a_party_terms a_party_known a_kept a_tape a_telephone a_sheets a_findings : Nat) (sz : Nat) (v_isKept : Int32) (v_party_size : Int32) (v_party_list : Int32) (v_party_told : Int32) (v_party_kinds : Nat → Int32) (v_party_terms : Nat → Int64) (v_party_known : Nat → Int32) (v_findings : Nat → Int32) (rr : Int32) (kk' : (Nat → Int32) × (Nat → Int32)) (hf : fX4_when v_party_size v_party_list v_party_kinds v_party_terms v_party_known v_findings = some (rr, kk')) : Met l yX4_when (Cond.code yX4_when cX4_when 3 (some .int) :: wA) rX4_when (q_Pre D cI cJ cZ cS tb [.ref a_t] sz (wX4_when cI cJ cZ cS a_t a_party a_party_kinds a_party_costs a_party_terms a_party_known a_kept a_tape a_telephone a_sheets a_findings v_isKept v_party_size v_party_list v_party_told v_party_kinds v_party_terms v_party_known v_findings)) (q_Ri D rr (va_A (wX4_when cI cJ cZ cS a_t a_party a_party_kinds a_party_costs a_party_terms a_party_known a_kept a_tape a_telephone a_sheets a_findings v_isKept v_party_size v_party_list v_party_told v_party_kinds v_party_terms v_party_known v_findings) sz) ((fun k : (Nat → Int32) × (Nat → Int32) => (wX4_when cI cJ cZ cS a_t a_party a_party_kinds a_party_costs a_party_terms a_party_known a_kept a_tape a_telephone a_sheets a_findings v_isKept v_party_size v_party_list v_party_told v_party_kinds v_party_terms k.1 k.2)) kk')) 0 0 (va_A (wX4_when cI cJ cZ cS a_t a_party a_party_kinds a_party_costs a_party_terms a_party_known a_kept a_tape a_telephone a_sheets a_findings v_isKept v_party_size v_party_list v_party_told v_party_kinds v_party_terms v_party_known v_findings) sz) := by
  refine q_enter (Qf := fun A => (q_Ri D rr A ((fun k : (Nat → Int32) × (Nat → Int32) => (wX4_when cI cJ cZ cS a_t a_party a_party_kinds a_party_costs a_party_terms a_party_known a_kept a_tape a_telephone a_sheets a_findings v_isKept v_party_size v_party_list v_party_told v_party_kinds v_party_terms k.1 k.2)) kk'))) (by decide) rfl (Nat.le_of_ble_eq_true rfl) ?_
  intro p e s m below meth c A ls fx hname h hl
  have hx := fx.1
  have hb := fx.2.1
  have hl : lv_has ls 3 [(0, .ref a_t)] := hl
  generalize h9 : s.heap = H at h ⊢
  clear h9
  generalize h9 : ([] : List Loc) = locs at h ⊢
  clear h9
  unfold fX4_when at hf
  refine lv_aload_n hx hb dX4_when_0 rfl (lv_at hl 0 rfl) ?_
  refine q_get (v := .ref a_party) fx inX4 h 0 rfl rfl 0 (by decide) k_174 rfl dX4_when_1 ?_
  refine q_getN (v := .int v_party_list) fx inX0 h 1 rfl rfl 1 (by decide) nf_3 rfl dX4_when_4 ?_
  refine lv_istore_n (lv' := [(1, .int v_party_list), (0, .ref a_t)]) hx hb dX4_when_7 rfl hl (by decide) rfl (fun ls hl => ?_)
  refine lv_iconst (v := 0) hx hb dX4_when_8 (by decide) ?_
  refine lv_istore_n (lv' := [(2, .int 0), (1, .int v_party_list), (0, .ref a_t)]) hx hb dX4_when_9 rfl hl (by decide) rfl (fun ls hl => ?_)
  exact EX4_when_10 fx qF h (lv_sub hl [2, 1, 0] rfl) hf
/-! X0_ringLength -/
abbrev wX0_ringLength (cI cJ cZ cS : ClassId) (a_t a_kinds a_costs a_terms a_known : Nat) (v_size : Int32) (v_list : Int32) (v_told : Int32) (v_kinds : Nat → Int32) (v_terms : Nat → Int64) (v_known : Nat → Int32) : va_W := [(a_t, .inr (0, [.int v_size, .int v_list, .int v_told, .ref a_kinds, .ref a_costs, .ref a_terms, .ref a_known])), (a_kinds, .inl (cI, 8, .inl v_kinds)), (a_terms, .inl (cJ, 32, .inr (.inl v_terms))), (a_known, .inl (cI, 256, .inl v_known))]
abbrev rX0_ringLength : Room := { frames := 6, cells := 0, slots := 0, locals := 135 }
def fX0_ringLength_23 (v_size : Int32) (v_list : Int32) (v_kinds : Nat → Int32) (v_terms : Nat → Int64) (ag23 : (Nat → Int32) → Int32 → Int32 → Int32 → Int32 → Option (Int32 × (Nat → Int32))) (v_known : Nat → Int32) (y1 : Int32) (y2 : Int32) (y3 : Int32) (y4 : Int32) : Option (Int32 × (Nat → Int32)) :=
  (if (256 : Int32) ≤ y4 then (
  some (y3, v_known))
  else (
  (if y2 = y1 then (
  some (y3, v_known))
  else (
  bR (fX0_comers v_size v_kinds v_terms v_known y2) (fun r3 k3 =>
  nm (y3 + 1) (fun u4 =>
  nm (y4 + 1) (fun u5 =>
  ag23 k3 y1 r3 u4 u5)))))))
set_option maxRecDepth 100000 in
set_option maxHeartbeats 4000000 in
theorem LX0_ringLength_23 {p : Program} {l : Launch} {e : Env} {s : State} {m : MethodId} {args : Array Value} {below : List Frame} {meth : Method} {c : Code} {D : va_G} {cI cJ cZ cS : ClassId} {tb : Nat} {A : Nat → Prop} {a_t a_kinds a_costs a_terms a_known : Nat} {v_size : Int32} {v_list : Int32} {v_told : Int32} {v_kinds : Nat → Int32} {v_terms : Nat → Int64} {rr : Int32} {kk' : (Nat → Int32)} (fx : q_Fx p s m args meth c cX0_ringLength 5 RX0 (some .int) D cI cJ cZ cS tb A) {ag23 : (Nat → Int32) → Int32 → Int32 → Int32 → Int32 → Option (Int32 × (Nat → Int32))} (hag23 : ∀ {v_known : Nat → Int32} {y1 : Int32} {y2 : Int32} {y3 : Int32} {y4 : Int32} {H : Heap} {locs : List Loc} {ls : Array Slot}, q_H D A s (wX0_ringLength cI cJ cZ cS a_t a_kinds a_costs a_terms a_known v_size v_list v_told v_kinds v_terms v_known) H locs → lv_has ls 5 [(0, .ref a_t), (1, .int y1), (2, .int y2), (3, .int y3), (4, .int y4)] → ag23 v_known y1 y2 y3 y4 = some (rr, kk') → W p l e rX0_ringLength s m args below meth c H locs 0 0 (MQ below (q_Ri D rr A ((fun k : (Nat → Int32) => (wX0_ringLength cI cJ cZ cS a_t a_kinds a_costs a_terms a_known v_size v_list v_told v_kinds v_terms k)) kk')) args s 0 0 A) (F0 m 23 ls [])) : ∀ {v_known : Nat → Int32} {y1 : Int32} {y2 : Int32} {y3 : Int32} {y4 : Int32} {H : Heap} {locs : List Loc} {ls : Array Slot}, q_H D A s (wX0_ringLength cI cJ cZ cS a_t a_kinds a_costs a_terms a_known v_size v_list v_told v_kinds v_terms v_known) H locs → lv_has ls 5 [(0, .ref a_t), (1, .int y1), (2, .int y2), (3, .int y3), (4, .int y4)] → fX0_ringLength_23 v_size v_list v_kinds v_terms ag23 v_known y1 y2 y3 y4 = some (rr, kk') → W p l e rX0_ringLength s m args below meth c H locs 0 0 (MQ below (q_Ri D rr A ((fun k : (Nat → Int32) => (wX0_ringLength cI cJ cZ cS a_t a_kinds a_costs a_terms a_known v_size v_list v_told v_kinds v_terms k)) kk')) args s 0 0 A) (F0 m 23 ls []) := by
  intro v_known y1 y2 y3 y4 H locs ls h hl hf
  have hx := fx.1
  have hb := fx.2.1
  unfold fX0_ringLength_23 at hf
  refine lv_iload hx hb dX0_ringLength_23 (lv_at hl 4 rfl) ?_
  refine lv_sipush (v := 256) hx hb dX0_ringLength_25 (by decide) ?_
  refine lv_icmp_ge (tgt := 51) hx hb dX0_ringLength_28 (by decide) (fun c1 => ?_) (fun c1 => ?_)
  · have hf := it_t c1 hf
    refine lv_iload_n hx hb dX0_ringLength_51 rfl (lv_at hl 3 rfl) ?_
    exact q_reti (fun k : (Nat → Int32) => (wX0_ringLength cI cJ cZ cS a_t a_kinds a_costs a_terms a_known v_size v_list v_told v_kinds v_terms k)) fx hf h dX0_ringLength_52
  have hf := it_f c1 hf
  refine lv_iload_n hx hb dX0_ringLength_31 rfl (lv_at hl 2 rfl) ?_
  refine lv_iload_n hx hb dX0_ringLength_32 rfl (lv_at hl 1 rfl) ?_
  refine lv_icmp_eq (tgt := 51) hx hb dX0_ringLength_33 (by decide) (fun c2 => ?_) (fun c2 => ?_)
  · have hf := it_t c2 hf
    refine lv_iload_n hx hb dX0_ringLength_51 rfl (lv_at hl 3 rfl) ?_
    exact q_reti (fun k : (Nat → Int32) => (wX0_ringLength cI cJ cZ cS a_t a_kinds a_costs a_terms a_known v_size v_list v_told v_kinds v_terms k)) fx hf h dX0_ringLength_52
  have hf := it_f c2 hf
  refine lv_aload_n hx hb dX0_ringLength_36 rfl (lv_at hl 0 rfl) ?_
  refine lv_iload_n hx hb dX0_ringLength_37 rfl (lv_at hl 2 rfl) ?_
  obtain ⟨r3, k3, hg, hf⟩ := bR_inv hf
  refine q_ci (rest := []) (ws' := (wX0_ringLength cI cJ cZ cS a_t a_kinds a_costs a_terms a_known v_size v_list v_told v_kinds v_terms k3)) (w1 := (wX0_comers cI cJ cZ cS a_t a_kinds a_costs a_terms a_known v_size v_list v_told v_kinds v_terms k3)) fx h [0, 1, 2, 3] rfl rfl rfl rfl (q_runV fx h hl.1 [0, 1, 2, 3] rfl rfl (tX0_comers l D cI cJ cZ cS tb a_t a_kinds a_costs a_terms a_known H.size v_size v_list v_told v_kinds v_terms v_known y2 r3 k3 hg) mvX0_comers k_362 ⟨rfl, rfl⟩ ⟨Nat.le_of_ble_eq_true rfl, Nat.le_of_ble_eq_true rfl⟩ rfl rfl rfl rfl (Nat.le_of_ble_eq_true rfl) dX0_ringLength_38 ⟨Nat.le_of_ble_eq_true rfl, Nat.le_of_ble_eq_true rfl⟩) (fun H locs h => ?_)
  refine lv_istore_n (lv' := [(2, .int r3), (0, .ref a_t), (1, .int y1), (3, .int y3), (4, .int y4)]) hx hb dX0_ringLength_41 rfl hl (by decide) rfl (fun ls hl => ?_)
  obtain ⟨u4, eu4, hf⟩ := nm_inv hf
  refine lv_iinc (v := u4) (lv' := [(3, .int u4), (2, .int r3), (0, .ref a_t), (1, .int y1), (4, .int y4)]) hx hb dX0_ringLength_42 hl (k := 3) rfl (by rw [eu4]; rfl) (by decide) rfl (fun ls hl => ?_)
  obtain ⟨u5, eu5, hf⟩ := nm_inv hf
  refine lv_iinc (v := u5) (lv' := [(4, .int u5), (3, .int u4), (2, .int r3), (0, .ref a_t), (1, .int y1)]) hx hb dX0_ringLength_45 hl (k := 4) rfl (by rw [eu5]; rfl) (by decide) rfl (fun ls hl => ?_)
  refine lv_goto (tgt := 23) hx hb dX0_ringLength_48 (by decide) ?_
  exact hag23 h (lv_sub hl [3, 4, 2, 1, 0] rfl) hf
set_option maxRecDepth 100000 in
theorem EX0_ringLength_23 {p : Program} {l : Launch} {e : Env} {s : State} {m : MethodId} {args : Array Value} {below : List Frame} {meth : Method} {c : Code} {D : va_G} {cI cJ cZ cS : ClassId} {tb : Nat} {A : Nat → Prop} {a_t a_kinds a_costs a_terms a_known : Nat} {v_size : Int32} {v_list : Int32} {v_told : Int32} {v_kinds : Nat → Int32} {v_terms : Nat → Int64} {rr : Int32} {kk' : (Nat → Int32)} (fx : q_Fx p s m args meth c cX0_ringLength 5 RX0 (some .int) D cI cJ cZ cS tb A) : ∀ (n : Nat), ∀ {v_known : Nat → Int32} {y1 : Int32} {y2 : Int32} {y3 : Int32} {y4 : Int32} {H : Heap} {locs : List Loc} {ls : Array Slot}, q_H D A s (wX0_ringLength cI cJ cZ cS a_t a_kinds a_costs a_terms a_known v_size v_list v_told v_kinds v_terms v_known) H locs → lv_has ls 5 [(0, .ref a_t), (1, .int y1), (2, .int y2), (3, .int y3), (4, .int y4)] → ll5 (fX0_ringLength_23 v_size v_list v_kinds v_terms) n v_known y1 y2 y3 y4 = some (rr, kk') → W p l e rX0_ringLength s m args below meth c H locs 0 0 (MQ below (q_Ri D rr A ((fun k : (Nat → Int32) => (wX0_ringLength cI cJ cZ cS a_t a_kinds a_costs a_terms a_known v_size v_list v_told v_kinds v_terms k)) kk')) args s 0 0 A) (F0 m 23 ls []) := by
  intro n
  induction n with
  | zero => intro v_known y1 y2 y3 y4 H locs ls h hl hf; exact (ll5_z hf).elim
  | succ n ih => intro v_known y1 y2 y3 y4 H locs ls h hl hf; exact LX0_ringLength_23 fx ih h hl (ll5_s hf)
def fX0_ringLength (v_size : Int32) (v_list : Int32) (v_kinds : Nat → Int32) (v_terms : Nat → Int64) (v_known : Nat → Int32) : Option (Int32 × (Nat → Int32)) :=
  bR (fX0_behind v_size v_kinds v_terms v_known v_list 256) (fun r6 k6 =>
  bR (fX0_comers v_size v_kinds v_terms k6 r6) (fun r7 k7 =>
  ll5 (fX0_ringLength_23 v_size v_list v_kinds v_terms) qF k7 r6 r7 1 0))
set_option maxRecDepth 100000 in
set_option maxHeartbeats 4000000 in
theorem tX0_ringLength (l : Launch) (D : va_G) (cI cJ cZ cS : ClassId) (tb : Nat) (a_t a_kinds a_costs a_terms a_known : Nat) (sz : Nat) (v_size : Int32) (v_list : Int32) (v_told : Int32) (v_kinds : Nat → Int32) (v_terms : Nat → Int64) (v_known : Nat → Int32) (rr : Int32) (kk' : (Nat → Int32)) (hf : fX0_ringLength v_size v_list v_kinds v_terms v_known = some (rr, kk')) : Met l yX0_ringLength (Cond.code yX0_ringLength cX0_ringLength 5 (some .int) :: wA) rX0_ringLength (q_Pre D cI cJ cZ cS tb [.ref a_t] sz (wX0_ringLength cI cJ cZ cS a_t a_kinds a_costs a_terms a_known v_size v_list v_told v_kinds v_terms v_known)) (q_Ri D rr (va_A (wX0_ringLength cI cJ cZ cS a_t a_kinds a_costs a_terms a_known v_size v_list v_told v_kinds v_terms v_known) sz) ((fun k : (Nat → Int32) => (wX0_ringLength cI cJ cZ cS a_t a_kinds a_costs a_terms a_known v_size v_list v_told v_kinds v_terms k)) kk')) 0 0 (va_A (wX0_ringLength cI cJ cZ cS a_t a_kinds a_costs a_terms a_known v_size v_list v_told v_kinds v_terms v_known) sz) := by
  refine q_enter (Qf := fun A => (q_Ri D rr A ((fun k : (Nat → Int32) => (wX0_ringLength cI cJ cZ cS a_t a_kinds a_costs a_terms a_known v_size v_list v_told v_kinds v_terms k)) kk'))) (by decide) rfl (Nat.le_of_ble_eq_true rfl) ?_
  intro p e s m below meth c A ls fx hname h hl
  have hx := fx.1
  have hb := fx.2.1
  have hl : lv_has ls 5 [(0, .ref a_t)] := hl
  generalize h9 : s.heap = H at h ⊢
  clear h9
  generalize h9 : ([] : List Loc) = locs at h ⊢
  clear h9
  unfold fX0_ringLength at hf
  refine lv_aload_n hx hb dX0_ringLength_0 rfl (lv_at hl 0 rfl) ?_
  refine lv_aload_n hx hb dX0_ringLength_1 rfl (lv_at hl 0 rfl) ?_
  refine q_get (v := .int v_list) fx inX0 h 0 rfl rfl 1 (by decide) k_85 rfl dX0_ringLength_2 ?_
  refine lv_sipush (v := 256) hx hb dX0_ringLength_5 (by decide) ?_
  obtain ⟨r6, k6, hg, hf⟩ := bR_inv hf
  refine q_ci (rest := []) (ws' := (wX0_ringLength cI cJ cZ cS a_t a_kinds a_costs a_terms a_known v_size v_list v_told v_kinds v_terms k6)) (w1 := (wX0_behind cI cJ cZ cS a_t a_kinds a_costs a_terms a_known v_size v_list v_told v_kinds v_terms k6)) fx h [0, 1, 2, 3] rfl rfl rfl rfl (q_runV fx h hl.1 [0, 1, 2, 3] rfl rfl (tX0_behind l D cI cJ cZ cS tb a_t a_kinds a_costs a_terms a_known H.size v_size v_list v_told v_kinds v_terms v_known v_list 256 r6 k6 hg) mvX0_behind k_411 ⟨rfl, rfl⟩ ⟨Nat.le_of_ble_eq_true rfl, Nat.le_of_ble_eq_true rfl⟩ rfl rfl rfl rfl (Nat.le_of_ble_eq_true rfl) dX0_ringLength_8 ⟨Nat.le_of_ble_eq_true rfl, Nat.le_of_ble_eq_true rfl⟩) (fun H locs h => ?_)
  refine lv_istore_n (lv' := [(1, .int r6), (0, .ref a_t)]) hx hb dX0_ringLength_11 rfl hl (by decide) rfl (fun ls hl => ?_)
  refine lv_aload_n hx hb dX0_ringLength_12 rfl (lv_at hl 1 rfl) ?_
  refine lv_iload_n hx hb dX0_ringLength_13 rfl (lv_at hl 0 rfl) ?_
  obtain ⟨r7, k7, hg, hf⟩ := bR_inv hf
  refine q_ci (rest := []) (ws' := (wX0_ringLength cI cJ cZ cS a_t a_kinds a_costs a_terms a_known v_size v_list v_told v_kinds v_terms k7)) (w1 := (wX0_comers cI cJ cZ cS a_t a_kinds a_costs a_terms a_known v_size v_list v_told v_kinds v_terms k7)) fx h [0, 1, 2, 3] rfl rfl rfl rfl (q_runV fx h hl.1 [0, 1, 2, 3] rfl rfl (tX0_comers l D cI cJ cZ cS tb a_t a_kinds a_costs a_terms a_known H.size v_size v_list v_told v_kinds v_terms k6 r6 r7 k7 hg) mvX0_comers k_362 ⟨rfl, rfl⟩ ⟨Nat.le_of_ble_eq_true rfl, Nat.le_of_ble_eq_true rfl⟩ rfl rfl rfl rfl (Nat.le_of_ble_eq_true rfl) dX0_ringLength_14 ⟨Nat.le_of_ble_eq_true rfl, Nat.le_of_ble_eq_true rfl⟩) (fun H locs h => ?_)
  refine lv_istore_n (lv' := [(2, .int r7), (1, .int r6), (0, .ref a_t)]) hx hb dX0_ringLength_17 rfl hl (by decide) rfl (fun ls hl => ?_)
  refine lv_iconst (v := 1) hx hb dX0_ringLength_18 (by decide) ?_
  refine lv_istore_n (lv' := [(3, .int 1), (2, .int r7), (1, .int r6), (0, .ref a_t)]) hx hb dX0_ringLength_19 rfl hl (by decide) rfl (fun ls hl => ?_)
  refine lv_iconst (v := 0) hx hb dX0_ringLength_20 (by decide) ?_
  refine lv_istore (lv' := [(4, .int 0), (3, .int 1), (2, .int r7), (1, .int r6), (0, .ref a_t)]) hx hb dX0_ringLength_21 hl (by decide) rfl (fun ls hl => ?_)
  exact EX0_ringLength_23 fx qF h (lv_sub hl [4, 3, 2, 1, 0] rfl) hf
/-! X0_roundsToRing -/
abbrev wX0_roundsToRing (cI cJ cZ cS : ClassId) (a_t a_kinds a_costs a_terms a_known : Nat) (v_size : Int32) (v_list : Int32) (v_told : Int32) (v_kinds : Nat → Int32) (v_terms : Nat → Int64) (v_known : Nat → Int32) : va_W := [(a_t, .inr (0, [.int v_size, .int v_list, .int v_told, .ref a_kinds, .ref a_costs, .ref a_terms, .ref a_known])), (a_kinds, .inl (cI, 8, .inl v_kinds)), (a_terms, .inl (cJ, 32, .inr (.inl v_terms))), (a_known, .inl (cI, 256, .inl v_known))]
abbrev rX0_roundsToRing : Room := { frames := 6, cells := 0, slots := 0, locals := 135 }
def fX0_roundsToRing_21 (v_size : Int32) (v_list : Int32) (v_kinds : Nat → Int32) (v_terms : Nat → Int64) (ag21 : (Nat → Int32) → Int32 → Int32 → Int32 → Int32 → Option (Int32 × (Nat → Int32))) (v_known : Nat → Int32) (y2 : Int32) (y3 : Int32) (y4 : Int32) (y5 : Int32) : Option (Int32 × (Nat → Int32)) :=
  (if (256 : Int32) ≤ y5 then (
  some (y4, v_known))
  else (
  (if y2 = y3 then (
  some (y4, v_known))
  else (
  bR (fX0_comers v_size v_kinds v_terms v_known y2) (fun r3 k3 =>
  bR (fX0_comers v_size v_kinds v_terms k3 y3) (fun r4 k4 =>
  nm (y4 + 1) (fun u5 =>
  nm (y5 + 1) (fun u6 =>
  ag21 k4 r3 r4 u5 u6))))))))
set_option maxRecDepth 100000 in
set_option maxHeartbeats 4000000 in
theorem LX0_roundsToRing_21 {p : Program} {l : Launch} {e : Env} {s : State} {m : MethodId} {args : Array Value} {below : List Frame} {meth : Method} {c : Code} {D : va_G} {cI cJ cZ cS : ClassId} {tb : Nat} {A : Nat → Prop} {a_t a_kinds a_costs a_terms a_known : Nat} {v_size : Int32} {v_list : Int32} {v_told : Int32} {v_kinds : Nat → Int32} {v_terms : Nat → Int64} {rr : Int32} {kk' : (Nat → Int32)} (fx : q_Fx p s m args meth c cX0_roundsToRing 6 RX0 (some .int) D cI cJ cZ cS tb A) {ag21 : (Nat → Int32) → Int32 → Int32 → Int32 → Int32 → Option (Int32 × (Nat → Int32))} (hag21 : ∀ {v_known : Nat → Int32} {y2 : Int32} {y3 : Int32} {y4 : Int32} {y5 : Int32} {H : Heap} {locs : List Loc} {ls : Array Slot}, q_H D A s (wX0_roundsToRing cI cJ cZ cS a_t a_kinds a_costs a_terms a_known v_size v_list v_told v_kinds v_terms v_known) H locs → lv_has ls 6 [(0, .ref a_t), (2, .int y2), (3, .int y3), (4, .int y4), (5, .int y5)] → ag21 v_known y2 y3 y4 y5 = some (rr, kk') → W p l e rX0_roundsToRing s m args below meth c H locs 0 0 (MQ below (q_Ri D rr A ((fun k : (Nat → Int32) => (wX0_roundsToRing cI cJ cZ cS a_t a_kinds a_costs a_terms a_known v_size v_list v_told v_kinds v_terms k)) kk')) args s 0 0 A) (F0 m 21 ls [])) : ∀ {v_known : Nat → Int32} {y2 : Int32} {y3 : Int32} {y4 : Int32} {y5 : Int32} {H : Heap} {locs : List Loc} {ls : Array Slot}, q_H D A s (wX0_roundsToRing cI cJ cZ cS a_t a_kinds a_costs a_terms a_known v_size v_list v_told v_kinds v_terms v_known) H locs → lv_has ls 6 [(0, .ref a_t), (2, .int y2), (3, .int y3), (4, .int y4), (5, .int y5)] → fX0_roundsToRing_21 v_size v_list v_kinds v_terms ag21 v_known y2 y3 y4 y5 = some (rr, kk') → W p l e rX0_roundsToRing s m args below meth c H locs 0 0 (MQ below (q_Ri D rr A ((fun k : (Nat → Int32) => (wX0_roundsToRing cI cJ cZ cS a_t a_kinds a_costs a_terms a_known v_size v_list v_told v_kinds v_terms k)) kk')) args s 0 0 A) (F0 m 21 ls []) := by
  intro v_known y2 y3 y4 y5 H locs ls h hl hf
  have hx := fx.1
  have hb := fx.2.1
  unfold fX0_roundsToRing_21 at hf
  refine lv_iload hx hb dX0_roundsToRing_21 (lv_at hl 4 rfl) ?_
  refine lv_sipush (v := 256) hx hb dX0_roundsToRing_23 (by decide) ?_
  refine lv_icmp_ge (tgt := 55) hx hb dX0_roundsToRing_26 (by decide) (fun c1 => ?_) (fun c1 => ?_)
  · have hf := it_t c1 hf
    refine lv_iload hx hb dX0_roundsToRing_55 (lv_at hl 3 rfl) ?_
    exact q_reti (fun k : (Nat → Int32) => (wX0_roundsToRing cI cJ cZ cS a_t a_kinds a_costs a_terms a_known v_size v_list v_told v_kinds v_terms k)) fx hf h dX0_roundsToRing_57
  have hf := it_f c1 hf
  refine lv_iload_n hx hb dX0_roundsToRing_29 rfl (lv_at hl 1 rfl) ?_
  refine lv_iload_n hx hb dX0_roundsToRing_30 rfl (lv_at hl 2 rfl) ?_
  refine lv_icmp_eq (tgt := 55) hx hb dX0_roundsToRing_31 (by decide) (fun c2 => ?_) (fun c2 => ?_)
  · have hf := it_t c2 hf
    refine lv_iload hx hb dX0_roundsToRing_55 (lv_at hl 3 rfl) ?_
    exact q_reti (fun k : (Nat → Int32) => (wX0_roundsToRing cI cJ cZ cS a_t a_kinds a_costs a_terms a_known v_size v_list v_told v_kinds v_terms k)) fx hf h dX0_roundsToRing_57
  have hf := it_f c2 hf
  refine lv_aload_n hx hb dX0_roundsToRing_34 rfl (lv_at hl 0 rfl) ?_
  refine lv_iload_n hx hb dX0_roundsToRing_35 rfl (lv_at hl 1 rfl) ?_
  obtain ⟨r3, k3, hg, hf⟩ := bR_inv hf
  refine q_ci (rest := []) (ws' := (wX0_roundsToRing cI cJ cZ cS a_t a_kinds a_costs a_terms a_known v_size v_list v_told v_kinds v_terms k3)) (w1 := (wX0_comers cI cJ cZ cS a_t a_kinds a_costs a_terms a_known v_size v_list v_told v_kinds v_terms k3)) fx h [0, 1, 2, 3] rfl rfl rfl rfl (q_runV fx h hl.1 [0, 1, 2, 3] rfl rfl (tX0_comers l D cI cJ cZ cS tb a_t a_kinds a_costs a_terms a_known H.size v_size v_list v_told v_kinds v_terms v_known y2 r3 k3 hg) mvX0_comers k_362 ⟨rfl, rfl⟩ ⟨Nat.le_of_ble_eq_true rfl, Nat.le_of_ble_eq_true rfl⟩ rfl rfl rfl rfl (Nat.le_of_ble_eq_true rfl) dX0_roundsToRing_36 ⟨Nat.le_of_ble_eq_true rfl, Nat.le_of_ble_eq_true rfl⟩) (fun H locs h => ?_)
  refine lv_istore_n (lv' := [(2, .int r3), (0, .ref a_t), (3, .int y3), (4, .int y4), (5, .int y5)]) hx hb dX0_roundsToRing_39 rfl hl (by decide) rfl (fun ls hl => ?_)
  refine lv_aload_n hx hb dX0_roundsToRing_40 rfl (lv_at hl 1 rfl) ?_
  refine lv_iload_n hx hb dX0_roundsToRing_41 rfl (lv_at hl 2 rfl) ?_
  obtain ⟨r4, k4, hg, hf⟩ := bR_inv hf
  refine q_ci (rest := []) (ws' := (wX0_roundsToRing cI cJ cZ cS a_t a_kinds a_costs a_terms a_known v_size v_list v_told v_kinds v_terms k4)) (w1 := (wX0_comers cI cJ cZ cS a_t a_kinds a_costs a_terms a_known v_size v_list v_told v_kinds v_terms k4)) fx h [0, 1, 2, 3] rfl rfl rfl rfl (q_runV fx h hl.1 [0, 1, 2, 3] rfl rfl (tX0_comers l D cI cJ cZ cS tb a_t a_kinds a_costs a_terms a_known H.size v_size v_list v_told v_kinds v_terms k3 y3 r4 k4 hg) mvX0_comers k_362 ⟨rfl, rfl⟩ ⟨Nat.le_of_ble_eq_true rfl, Nat.le_of_ble_eq_true rfl⟩ rfl rfl rfl rfl (Nat.le_of_ble_eq_true rfl) dX0_roundsToRing_42 ⟨Nat.le_of_ble_eq_true rfl, Nat.le_of_ble_eq_true rfl⟩) (fun H locs h => ?_)
  refine lv_istore_n (lv' := [(3, .int r4), (2, .int r3), (0, .ref a_t), (4, .int y4), (5, .int y5)]) hx hb dX0_roundsToRing_45 rfl hl (by decide) rfl (fun ls hl => ?_)
  obtain ⟨u5, eu5, hf⟩ := nm_inv hf
  refine lv_iinc (v := u5) (lv' := [(4, .int u5), (3, .int r4), (2, .int r3), (0, .ref a_t), (5, .int y5)]) hx hb dX0_roundsToRing_46 hl (k := 3) rfl (by rw [eu5]; rfl) (by decide) rfl (fun ls hl => ?_)
  obtain ⟨u6, eu6, hf⟩ := nm_inv hf
  refine lv_iinc (v := u6) (lv' := [(5, .int u6), (4, .int u5), (3, .int r4), (2, .int r3), (0, .ref a_t)]) hx hb dX0_roundsToRing_49 hl (k := 4) rfl (by rw [eu6]; rfl) (by decide) rfl (fun ls hl => ?_)
  refine lv_goto (tgt := 21) hx hb dX0_roundsToRing_52 (by decide) ?_
  exact hag21 h (lv_sub hl [4, 3, 2, 1, 0] rfl) hf
set_option maxRecDepth 100000 in
theorem EX0_roundsToRing_21 {p : Program} {l : Launch} {e : Env} {s : State} {m : MethodId} {args : Array Value} {below : List Frame} {meth : Method} {c : Code} {D : va_G} {cI cJ cZ cS : ClassId} {tb : Nat} {A : Nat → Prop} {a_t a_kinds a_costs a_terms a_known : Nat} {v_size : Int32} {v_list : Int32} {v_told : Int32} {v_kinds : Nat → Int32} {v_terms : Nat → Int64} {rr : Int32} {kk' : (Nat → Int32)} (fx : q_Fx p s m args meth c cX0_roundsToRing 6 RX0 (some .int) D cI cJ cZ cS tb A) : ∀ (n : Nat), ∀ {v_known : Nat → Int32} {y2 : Int32} {y3 : Int32} {y4 : Int32} {y5 : Int32} {H : Heap} {locs : List Loc} {ls : Array Slot}, q_H D A s (wX0_roundsToRing cI cJ cZ cS a_t a_kinds a_costs a_terms a_known v_size v_list v_told v_kinds v_terms v_known) H locs → lv_has ls 6 [(0, .ref a_t), (2, .int y2), (3, .int y3), (4, .int y4), (5, .int y5)] → ll5 (fX0_roundsToRing_21 v_size v_list v_kinds v_terms) n v_known y2 y3 y4 y5 = some (rr, kk') → W p l e rX0_roundsToRing s m args below meth c H locs 0 0 (MQ below (q_Ri D rr A ((fun k : (Nat → Int32) => (wX0_roundsToRing cI cJ cZ cS a_t a_kinds a_costs a_terms a_known v_size v_list v_told v_kinds v_terms k)) kk')) args s 0 0 A) (F0 m 21 ls []) := by
  intro n
  induction n with
  | zero => intro v_known y2 y3 y4 y5 H locs ls h hl hf; exact (ll5_z hf).elim
  | succ n ih => intro v_known y2 y3 y4 y5 H locs ls h hl hf; exact LX0_roundsToRing_21 fx ih h hl (ll5_s hf)
def fX0_roundsToRing (v_size : Int32) (v_list : Int32) (v_kinds : Nat → Int32) (v_terms : Nat → Int64) (v_known : Nat → Int32) (x1 : Int32) : Option (Int32 × (Nat → Int32)) :=
  bR (fX0_behind v_size v_kinds v_terms v_known v_list x1) (fun r7 k7 =>
  ll5 (fX0_roundsToRing_21 v_size v_list v_kinds v_terms) qF k7 v_list r7 0 0)
set_option maxRecDepth 100000 in
set_option maxHeartbeats 4000000 in
theorem tX0_roundsToRing (l : Launch) (D : va_G) (cI cJ cZ cS : ClassId) (tb : Nat) (a_t a_kinds a_costs a_terms a_known : Nat) (sz : Nat) (v_size : Int32) (v_list : Int32) (v_told : Int32) (v_kinds : Nat → Int32) (v_terms : Nat → Int64) (v_known : Nat → Int32) (x1 : Int32) (rr : Int32) (kk' : (Nat → Int32)) (hf : fX0_roundsToRing v_size v_list v_kinds v_terms v_known x1 = some (rr, kk')) : Met l yX0_roundsToRing (Cond.code yX0_roundsToRing cX0_roundsToRing 6 (some .int) :: wA) rX0_roundsToRing (q_Pre D cI cJ cZ cS tb [.ref a_t, .int x1] sz (wX0_roundsToRing cI cJ cZ cS a_t a_kinds a_costs a_terms a_known v_size v_list v_told v_kinds v_terms v_known)) (q_Ri D rr (va_A (wX0_roundsToRing cI cJ cZ cS a_t a_kinds a_costs a_terms a_known v_size v_list v_told v_kinds v_terms v_known) sz) ((fun k : (Nat → Int32) => (wX0_roundsToRing cI cJ cZ cS a_t a_kinds a_costs a_terms a_known v_size v_list v_told v_kinds v_terms k)) kk')) 0 0 (va_A (wX0_roundsToRing cI cJ cZ cS a_t a_kinds a_costs a_terms a_known v_size v_list v_told v_kinds v_terms v_known) sz) := by
  refine q_enter (Qf := fun A => (q_Ri D rr A ((fun k : (Nat → Int32) => (wX0_roundsToRing cI cJ cZ cS a_t a_kinds a_costs a_terms a_known v_size v_list v_told v_kinds v_terms k)) kk'))) (by decide) rfl (Nat.le_of_ble_eq_true rfl) ?_
  intro p e s m below meth c A ls fx hname h hl
  have hx := fx.1
  have hb := fx.2.1
  have hl : lv_has ls 6 [(0, .ref a_t), (1, .int x1)] := hl
  generalize h9 : s.heap = H at h ⊢
  clear h9
  generalize h9 : ([] : List Loc) = locs at h ⊢
  clear h9
  unfold fX0_roundsToRing at hf
  refine lv_aload_n hx hb dX0_roundsToRing_0 rfl (lv_at hl 0 rfl) ?_
  refine q_get (v := .int v_list) fx inX0 h 0 rfl rfl 1 (by decide) k_85 rfl dX0_roundsToRing_1 ?_
  refine lv_istore_n (lv' := [(2, .int v_list), (0, .ref a_t), (1, .int x1)]) hx hb dX0_roundsToRing_4 rfl hl (by decide) rfl (fun ls hl => ?_)
  refine lv_aload_n hx hb dX0_roundsToRing_5 rfl (lv_at hl 1 rfl) ?_
  refine lv_aload_n hx hb dX0_roundsToRing_6 rfl (lv_at hl 1 rfl) ?_
  refine q_get (v := .int v_list) fx inX0 h 0 rfl rfl 1 (by decide) k_85 rfl dX0_roundsToRing_7 ?_
  refine lv_iload_n hx hb dX0_roundsToRing_10 rfl (lv_at hl 2 rfl) ?_
  obtain ⟨r7, k7, hg, hf⟩ := bR_inv hf
  refine q_ci (rest := []) (ws' := (wX0_roundsToRing cI cJ cZ cS a_t a_kinds a_costs a_terms a_known v_size v_list v_told v_kinds v_terms k7)) (w1 := (wX0_behind cI cJ cZ cS a_t a_kinds a_costs a_terms a_known v_size v_list v_told v_kinds v_terms k7)) fx h [0, 1, 2, 3] rfl rfl rfl rfl (q_runV fx h hl.1 [0, 1, 2, 3] rfl rfl (tX0_behind l D cI cJ cZ cS tb a_t a_kinds a_costs a_terms a_known H.size v_size v_list v_told v_kinds v_terms v_known v_list x1 r7 k7 hg) mvX0_behind k_411 ⟨rfl, rfl⟩ ⟨Nat.le_of_ble_eq_true rfl, Nat.le_of_ble_eq_true rfl⟩ rfl rfl rfl rfl (Nat.le_of_ble_eq_true rfl) dX0_roundsToRing_11 ⟨Nat.le_of_ble_eq_true rfl, Nat.le_of_ble_eq_true rfl⟩) (fun H locs h => ?_)
  refine lv_istore_n (lv' := [(3, .int r7), (2, .int v_list), (0, .ref a_t), (1, .int x1)]) hx hb dX0_roundsToRing_14 rfl hl (by decide) rfl (fun ls hl => ?_)
  refine lv_iconst (v := 0) hx hb dX0_roundsToRing_15 (by decide) ?_
  refine lv_istore (lv' := [(4, .int 0), (3, .int r7), (2, .int v_list), (0, .ref a_t), (1, .int x1)]) hx hb dX0_roundsToRing_16 hl (by decide) rfl (fun ls hl => ?_)
  refine lv_iconst (v := 0) hx hb dX0_roundsToRing_18 (by decide) ?_
  refine lv_istore (lv' := [(5, .int 0), (4, .int 0), (3, .int r7), (2, .int v_list), (0, .ref a_t), (1, .int x1)]) hx hb dX0_roundsToRing_19 hl (by decide) rfl (fun ls hl => ?_)
  exact EX0_roundsToRing_21 fx qF h (lv_sub hl [4, 3, 2, 1, 0] rfl) hf
/-! X4_ring -/
abbrev wX4_ring (cI cJ cZ cS : ClassId) (a_t a_party a_party_kinds a_party_costs a_party_terms a_party_known a_kept a_tape a_telephone a_sheets a_findings : Nat) (v_isKept : Int32) (v_party_size : Int32) (v_party_list : Int32) (v_party_told : Int32) (v_party_kinds : Nat → Int32) (v_party_terms : Nat → Int64) (v_party_known : Nat → Int32) (v_findings : Nat → Int32) : va_W := [(a_t, .inr (4, [.ref a_party, .ref a_kept, .int v_isKept, .ref a_tape, .ref a_telephone, .ref a_sheets, .ref a_findings])), (a_party, .inr (0, [.int v_party_size, .int v_party_list, .int v_party_told, .ref a_party_kinds, .ref a_party_costs, .ref a_party_terms, .ref a_party_known])), (a_party_kinds, .inl (cI, 8, .inl v_party_kinds)), (a_party_terms, .inl (cJ, 32, .inr (.inl v_party_terms))), (a_party_known, .inl (cI, 256, .inl v_party_known)), (a_findings, .inl (cI, 7, .inl v_findings))]
abbrev rX4_ring : Room := { frames := 7, cells := 0, slots := 0, locals := 160 }
def fX4_ring_16 (v_party_size : Int32) (v_party_list : Int32) (v_party_kinds : Nat → Int32) (v_party_terms : Nat → Int64) (v_party_known : Nat → Int32) (v_findings : Nat → Int32) (y1 : Int32) : Option (Int32 × (Nat → Int32) × (Nat → Int32)) :=
  bR (fX0_ringLength v_party_size v_party_list v_party_kinds v_party_terms v_party_known) (fun r1 k1 =>
  (if y1 = 1 then (
  some (r1, (k1, v_findings)))
  else (
  bR (fX0_roundsToRing v_party_size v_party_list v_party_kinds v_party_terms k1 r1) (fun r3 k3 =>
  some (r3, (k3, v_findings))))))
set_option maxRecDepth 100000 in
set_option maxHeartbeats 4000000 in
theorem LX4_ring_16 {p : Program} {l : Launch} {e : Env} {s : State} {m : MethodId} {args : Array Value} {below : List Frame} {meth : Method} {c : Code} {D : va_G} {cI cJ cZ cS : ClassId} {tb : Nat} {A : Nat → Prop} {a_t a_party a_party_kinds a_party_costs a_party_terms a_party_known a_kept a_tape a_telephone a_sheets a_findings : Nat} {v_isKept : Int32} {v_party_size : Int32} {v_party_list : Int32} {v_party_told : Int32} {v_party_kinds : Nat → Int32} {v_party_terms : Nat → Int64} {rr : Int32} {kk' : (Nat → Int32) × (Nat → Int32)} (fx : q_Fx p s m args meth c cX4_ring 3 RX4 (some .int) D cI cJ cZ cS tb A) : ∀ {v_party_known : Nat → Int32} {v_findings : Nat → Int32} {y1 : Int32} {H : Heap} {locs : List Loc} {ls : Array Slot}, q_H D A s (wX4_ring cI cJ cZ cS a_t a_party a_party_kinds a_party_costs a_party_terms a_party_known a_kept a_tape a_telephone a_sheets a_findings v_isKept v_party_size v_party_list v_party_told v_party_kinds v_party_terms v_party_known v_findings) H locs → lv_has ls 3 [(0, .ref a_t), (1, .int y1)] → fX4_ring_16 v_party_size v_party_list v_party_kinds v_party_terms v_party_known v_findings y1 = some (rr, kk') → W p l e rX4_ring s m args below meth c H locs 0 0 (MQ below (q_Ri D rr A ((fun k : (Nat → Int32) × (Nat → Int32) => (wX4_ring cI cJ cZ cS a_t a_party a_party_kinds a_party_costs a_party_terms a_party_known a_kept a_tape a_telephone a_sheets a_findings v_isKept v_party_size v_party_list v_party_told v_party_kinds v_party_terms k.1 k.2)) kk')) args s 0 0 A) (F0 m 16 ls []) := by
  intro v_party_known v_findings y1 H locs ls h hl hf
  have hx := fx.1
  have hb := fx.2.1
  unfold fX4_ring_16 at hf
  refine lv_aload_n hx hb dX4_ring_16 rfl (lv_at hl 0 rfl) ?_
  refine q_get (v := .ref a_party) fx inX4 h 0 rfl rfl 0 (by decide) k_174 rfl dX4_ring_17 ?_
  obtain ⟨r1, k1, hg, hf⟩ := bR_inv hf
  refine q_ci (rest := []) (ws' := (wX4_ring cI cJ cZ cS a_t a_party a_party_kinds a_party_costs a_party_terms a_party_known a_kept a_tape a_telephone a_sheets a_findings v_isKept v_party_size v_party_list v_party_told v_party_kinds v_party_terms k1 v_findings)) (w1 := (wX0_ringLength cI cJ cZ cS a_party a_party_kinds a_party_costs a_party_terms a_party_known v_party_size v_party_list v_party_told v_party_kinds v_party_terms k1)) fx h [1, 2, 3, 4] rfl rfl rfl rfl (q_runV fx h hl.1 [1, 2, 3, 4] rfl rfl (tX0_ringLength l D cI cJ cZ cS tb a_party a_party_kinds a_party_costs a_party_terms a_party_known H.size v_party_size v_party_list v_party_told v_party_kinds v_party_terms v_party_known r1 k1 hg) mvX0_ringLength k_407 ⟨rfl, rfl⟩ ⟨Nat.le_of_ble_eq_true rfl, Nat.le_of_ble_eq_true rfl⟩ rfl rfl rfl rfl (Nat.le_of_ble_eq_true rfl) dX4_ring_20 ⟨Nat.le_of_ble_eq_true rfl, Nat.le_of_ble_eq_true rfl⟩) (fun H locs h => ?_)
  refine lv_istore_n (lv' := [(2, .int r1), (0, .ref a_t), (1, .int y1)]) hx hb dX4_ring_23 rfl hl (by decide) rfl (fun ls hl => ?_)
  refine lv_iload_n hx hb dX4_ring_24 rfl (lv_at hl 2 rfl) ?_
  refine lv_iconst (v := 1) hx hb dX4_ring_25 (by decide) ?_
  refine lv_icmp_ne (tgt := 33) hx hb dX4_ring_26 (by decide) (fun c2 => ?_) (fun c2 => ?_)
  · have hf := it_f c2 hf
    refine lv_aload_n hx hb dX4_ring_33 rfl (lv_at hl 1 rfl) ?_
    refine q_get (v := .ref a_party) fx inX4 h 0 rfl rfl 0 (by decide) k_174 rfl dX4_ring_34 ?_
    refine lv_iload_n hx hb dX4_ring_37 rfl (lv_at hl 0 rfl) ?_
    obtain ⟨r3, k3, hg, hf⟩ := bR_inv hf
    refine q_ci (rest := []) (ws' := (wX4_ring cI cJ cZ cS a_t a_party a_party_kinds a_party_costs a_party_terms a_party_known a_kept a_tape a_telephone a_sheets a_findings v_isKept v_party_size v_party_list v_party_told v_party_kinds v_party_terms k3 v_findings)) (w1 := (wX0_roundsToRing cI cJ cZ cS a_party a_party_kinds a_party_costs a_party_terms a_party_known v_party_size v_party_list v_party_told v_party_kinds v_party_terms k3)) fx h [1, 2, 3, 4] rfl rfl rfl rfl (q_runV fx h hl.1 [1, 2, 3, 4] rfl rfl (tX0_roundsToRing l D cI cJ cZ cS tb a_party a_party_kinds a_party_costs a_party_terms a_party_known H.size v_party_size v_party_list v_party_told v_party_kinds v_party_terms k1 r1 r3 k3 hg) mvX0_roundsToRing k_412 ⟨rfl, rfl⟩ ⟨Nat.le_of_ble_eq_true rfl, Nat.le_of_ble_eq_true rfl⟩ rfl rfl rfl rfl (Nat.le_of_ble_eq_true rfl) dX4_ring_38 ⟨Nat.le_of_ble_eq_true rfl, Nat.le_of_ble_eq_true rfl⟩) (fun H locs h => ?_)
    exact q_reti (fun k : (Nat → Int32) × (Nat → Int32) => (wX4_ring cI cJ cZ cS a_t a_party a_party_kinds a_party_costs a_party_terms a_party_known a_kept a_tape a_telephone a_sheets a_findings v_isKept v_party_size v_party_list v_party_told v_party_kinds v_party_terms k.1 k.2)) fx hf h dX4_ring_41
  have hf := it_t c2 hf
  refine lv_iload_n hx hb dX4_ring_29 rfl (lv_at hl 0 rfl) ?_
  refine lv_goto (tgt := 41) hx hb dX4_ring_30 (by decide) ?_
  exact q_reti (fun k : (Nat → Int32) × (Nat → Int32) => (wX4_ring cI cJ cZ cS a_t a_party a_party_kinds a_party_costs a_party_terms a_party_known a_kept a_tape a_telephone a_sheets a_findings v_isKept v_party_size v_party_list v_party_told v_party_kinds v_party_terms k.1 k.2)) fx hf h dX4_ring_41
def fX4_ring (v_party_size : Int32) (v_party_list : Int32) (v_party_kinds : Nat → Int32) (v_party_terms : Nat → Int64) (v_party_known : Nat → Int32) (v_findings : Nat → Int32) (x1 : Int32) : Option (Int32 × (Nat → Int32) × (Nat → Int32)) :=
  (if x1 = 0 then (
  fX4_ring_16 v_party_size v_party_list v_party_kinds v_party_terms v_party_known v_findings x1)
  else (
  (if x1 = 1 then (
  fX4_ring_16 v_party_size v_party_list v_party_kinds v_party_terms v_party_known v_findings x1)
  else (
  bR (fX4_found v_findings (-1000000001)) (fun r6 k6 =>
  some (r6, (v_party_known, k6)))))))
set_option maxRecDepth 100000 in
set_option maxHeartbeats 4000000 in
theorem tX4_ring (l : Launch) (D : va_G) (cI cJ cZ cS : ClassId) (tb : Nat) (a_t a_party a_party_kinds a_party_costs a_party_terms a_party_known a_kept a_tape a_telephone a_sheets a_findings : Nat) (sz : Nat) (v_isKept : Int32) (v_party_size : Int32) (v_party_list : Int32) (v_party_told : Int32) (v_party_kinds : Nat → Int32) (v_party_terms : Nat → Int64) (v_party_known : Nat → Int32) (v_findings : Nat → Int32) (x1 : Int32) (rr : Int32) (kk' : (Nat → Int32) × (Nat → Int32)) (hf : fX4_ring v_party_size v_party_list v_party_kinds v_party_terms v_party_known v_findings x1 = some (rr, kk')) : Met l yX4_ring (Cond.code yX4_ring cX4_ring 3 (some .int) :: wA) rX4_ring (q_Pre D cI cJ cZ cS tb [.ref a_t, .int x1] sz (wX4_ring cI cJ cZ cS a_t a_party a_party_kinds a_party_costs a_party_terms a_party_known a_kept a_tape a_telephone a_sheets a_findings v_isKept v_party_size v_party_list v_party_told v_party_kinds v_party_terms v_party_known v_findings)) (q_Ri D rr (va_A (wX4_ring cI cJ cZ cS a_t a_party a_party_kinds a_party_costs a_party_terms a_party_known a_kept a_tape a_telephone a_sheets a_findings v_isKept v_party_size v_party_list v_party_told v_party_kinds v_party_terms v_party_known v_findings) sz) ((fun k : (Nat → Int32) × (Nat → Int32) => (wX4_ring cI cJ cZ cS a_t a_party a_party_kinds a_party_costs a_party_terms a_party_known a_kept a_tape a_telephone a_sheets a_findings v_isKept v_party_size v_party_list v_party_told v_party_kinds v_party_terms k.1 k.2)) kk')) 0 0 (va_A (wX4_ring cI cJ cZ cS a_t a_party a_party_kinds a_party_costs a_party_terms a_party_known a_kept a_tape a_telephone a_sheets a_findings v_isKept v_party_size v_party_list v_party_told v_party_kinds v_party_terms v_party_known v_findings) sz) := by
  refine q_enter (Qf := fun A => (q_Ri D rr A ((fun k : (Nat → Int32) × (Nat → Int32) => (wX4_ring cI cJ cZ cS a_t a_party a_party_kinds a_party_costs a_party_terms a_party_known a_kept a_tape a_telephone a_sheets a_findings v_isKept v_party_size v_party_list v_party_told v_party_kinds v_party_terms k.1 k.2)) kk'))) (by decide) rfl (Nat.le_of_ble_eq_true rfl) ?_
  intro p e s m below meth c A ls fx hname h hl
  have hx := fx.1
  have hb := fx.2.1
  have hl : lv_has ls 3 [(0, .ref a_t), (1, .int x1)] := hl
  generalize h9 : s.heap = H at h ⊢
  clear h9
  generalize h9 : ([] : List Loc) = locs at h ⊢
  clear h9
  unfold fX4_ring at hf
  refine lv_iload_n hx hb dX4_ring_0 rfl (lv_at hl 1 rfl) ?_
  refine lv_if_eq (tgt := 16) hx hb dX4_ring_1 (by decide) (fun c4 => ?_) (fun c4 => ?_)
  · have hf := it_t c4 hf
    exact LX4_ring_16 fx h (lv_sub hl [0, 1] rfl) hf
  have hf := it_f c4 hf
  refine lv_iload_n hx hb dX4_ring_4 rfl (lv_at hl 1 rfl) ?_
  refine lv_iconst (v := 1) hx hb dX4_ring_5 (by decide) ?_
  refine lv_icmp_eq (tgt := 16) hx hb dX4_ring_6 (by decide) (fun c5 => ?_) (fun c5 => ?_)
  · have hf := it_t c5 hf
    exact LX4_ring_16 fx h (lv_sub hl [0, 1] rfl) hf
  have hf := it_f c5 hf
  refine lv_aload_n hx hb dX4_ring_9 rfl (lv_at hl 0 rfl) ?_
  refine q_ldc fx k_206 dX4_ring_10 ?_
  obtain ⟨r6, k6, hg, hf⟩ := bR_inv hf
  refine q_ci (rest := []) (ws' := (wX4_ring cI cJ cZ cS a_t a_party a_party_kinds a_party_costs a_party_terms a_party_known a_kept a_tape a_telephone a_sheets a_findings v_isKept v_party_size v_party_list v_party_told v_party_kinds v_party_terms v_party_known k6)) (w1 := (wX4_found cI cJ cZ cS a_t a_party a_kept a_tape a_telephone a_sheets a_findings v_isKept k6)) fx h [0, 5] rfl rfl rfl rfl (q_runV fx h hl.1 [0, 5] rfl rfl (tX4_found l D cI cJ cZ cS tb a_t a_party a_kept a_tape a_telephone a_sheets a_findings H.size v_isKept v_findings (-1000000001) r6 k6 hg) mvX4_found k_207 ⟨rfl, rfl⟩ ⟨Nat.le_of_ble_eq_true rfl, Nat.le_of_ble_eq_true rfl⟩ rfl rfl rfl rfl (Nat.le_of_ble_eq_true rfl) dX4_ring_12 ⟨Nat.le_of_ble_eq_true rfl, Nat.le_of_ble_eq_true rfl⟩) (fun H locs h => ?_)
  exact q_reti (fun k : (Nat → Int32) × (Nat → Int32) => (wX4_ring cI cJ cZ cS a_t a_party a_party_kinds a_party_costs a_party_terms a_party_known a_kept a_tape a_telephone a_sheets a_findings v_isKept v_party_size v_party_list v_party_told v_party_kinds v_party_terms k.1 k.2)) fx hf h dX4_ring_15
/-! X3_callAll -/
abbrev wX3_callAll (cI cJ cZ cS : ClassId) (a_t a_queue a_callsTo a_firstCalled a_p1 a_p1_kinds a_p1_costs a_p1_terms a_p1_known : Nat) (v_queue : Nat → Int32) (v_callsTo : Nat → Int32) (v_firstCalled : Nat → Int32) (v_p1_size : Int32) (v_p1_list : Int32) (v_p1_told : Int32) (v_p1_kinds : Nat → Int32) (v_p1_terms : Nat → Int64) (v_p1_known : Nat → Int32) : va_W := [(a_t, .inr (3, [.ref a_queue, .ref a_callsTo, .ref a_firstCalled])), (a_queue, .inl (cI, 256, .inl v_queue)), (a_callsTo, .inl (cI, 256, .inl v_callsTo)), (a_firstCalled, .inl (cI, 256, .inl v_firstCalled)), (a_p1, .inr (0, [.int v_p1_size, .int v_p1_list, .int v_p1_told, .ref a_p1_kinds, .ref a_p1_costs, .ref a_p1_terms, .ref a_p1_known])), (a_p1_kinds, .inl (cI, 8, .inl v_p1_kinds)), (a_p1_terms, .inl (cJ, 32, .inr (.inl v_p1_terms))), (a_p1_known, .inl (cI, 256, .inl v_p1_known))]
abbrev rX3_callAll : Room := { frames := 5, cells := 0, slots := 0, locals := 112 }
def fX3_callAll_101 (v_p1_size : Int32) (v_p1_kinds : Nat → Int32) (v_p1_terms : Nat → Int64) (ag6 : (Nat → Int32) → (Nat → Int32) → (Nat → Int32) → (Nat → Int32) → Int32 → Int32 → Int32 → Option (Int32 × (Nat → Int32) × (Nat → Int32) × (Nat → Int32) × (Nat → Int32))) (v_queue : Nat → Int32) (v_callsTo : Nat → Int32) (v_firstCalled : Nat → Int32) (v_p1_known : Nat → Int32) (y2 : Int32) (y4 : Int32) (y5 : Int32) : Option (Int32 × (Nat → Int32) × (Nat → Int32) × (Nat → Int32) × (Nat → Int32)) :=
  nm (y5 + 1) (fun u1 =>
  ag6 v_queue v_callsTo v_firstCalled v_p1_known y2 y4 u1)
set_option maxRecDepth 100000 in
set_option maxHeartbeats 4000000 in
theorem LX3_callAll_101 {p : Program} {l : Launch} {e : Env} {s : State} {m : MethodId} {args : Array Value} {below : List Frame} {meth : Method} {c : Code} {D : va_G} {cI cJ cZ cS : ClassId} {tb : Nat} {A : Nat → Prop} {a_t a_queue a_callsTo a_firstCalled a_p1 a_p1_kinds a_p1_costs a_p1_terms a_p1_known : Nat} {v_p1_size : Int32} {v_p1_list : Int32} {v_p1_told : Int32} {v_p1_kinds : Nat → Int32} {v_p1_terms : Nat → Int64} {rr : Int32} {kk' : (Nat → Int32) × (Nat → Int32) × (Nat → Int32) × (Nat → Int32)} (fx : q_Fx p s m args meth c cX3_callAll 7 RX3 (some .int) D cI cJ cZ cS tb A) {ag6 : (Nat → Int32) → (Nat → Int32) → (Nat → Int32) → (Nat → Int32) → Int32 → Int32 → Int32 → Option (Int32 × (Nat → Int32) × (Nat → Int32) × (Nat → Int32) × (Nat → Int32))} (hag6 : ∀ {v_queue : Nat → Int32} {v_callsTo : Nat → Int32} {v_firstCalled : Nat → Int32} {v_p1_known : Nat → Int32} {y2 : Int32} {y4 : Int32} {y5 : Int32} {H : Heap} {locs : List Loc} {ls : Array Slot}, q_H D A s (wX3_callAll cI cJ cZ cS a_t a_queue a_callsTo a_firstCalled a_p1 a_p1_kinds a_p1_costs a_p1_terms a_p1_known v_queue v_callsTo v_firstCalled v_p1_size v_p1_list v_p1_told v_p1_kinds v_p1_terms v_p1_known) H locs → lv_has ls 7 [(0, .ref a_t), (1, .ref a_p1), (2, .int y2), (4, .int y4), (5, .int y5)] → ag6 v_queue v_callsTo v_firstCalled v_p1_known y2 y4 y5 = some (rr, kk') → W p l e rX3_callAll s m args below meth c H locs 0 0 (MQ below (q_Ri D rr A ((fun k : (Nat → Int32) × (Nat → Int32) × (Nat → Int32) × (Nat → Int32) => (wX3_callAll cI cJ cZ cS a_t a_queue a_callsTo a_firstCalled a_p1 a_p1_kinds a_p1_costs a_p1_terms a_p1_known k.1 k.2.1 k.2.2.1 v_p1_size v_p1_list v_p1_told v_p1_kinds v_p1_terms k.2.2.2)) kk')) args s 0 0 A) (F0 m 6 ls [])) : ∀ {v_queue : Nat → Int32} {v_callsTo : Nat → Int32} {v_firstCalled : Nat → Int32} {v_p1_known : Nat → Int32} {y2 : Int32} {y4 : Int32} {y5 : Int32} {H : Heap} {locs : List Loc} {ls : Array Slot}, q_H D A s (wX3_callAll cI cJ cZ cS a_t a_queue a_callsTo a_firstCalled a_p1 a_p1_kinds a_p1_costs a_p1_terms a_p1_known v_queue v_callsTo v_firstCalled v_p1_size v_p1_list v_p1_told v_p1_kinds v_p1_terms v_p1_known) H locs → lv_has ls 7 [(0, .ref a_t), (1, .ref a_p1), (2, .int y2), (4, .int y4), (5, .int y5)] → fX3_callAll_101 v_p1_size v_p1_kinds v_p1_terms ag6 v_queue v_callsTo v_firstCalled v_p1_known y2 y4 y5 = some (rr, kk') → W p l e rX3_callAll s m args below meth c H locs 0 0 (MQ below (q_Ri D rr A ((fun k : (Nat → Int32) × (Nat → Int32) × (Nat → Int32) × (Nat → Int32) => (wX3_callAll cI cJ cZ cS a_t a_queue a_callsTo a_firstCalled a_p1 a_p1_kinds a_p1_costs a_p1_terms a_p1_known k.1 k.2.1 k.2.2.1 v_p1_size v_p1_list v_p1_told v_p1_kinds v_p1_terms k.2.2.2)) kk')) args s 0 0 A) (F0 m 101 ls []) := by
  intro v_queue v_callsTo v_firstCalled v_p1_known y2 y4 y5 H locs ls h hl hf
  have hx := fx.1
  have hb := fx.2.1
  unfold fX3_callAll_101 at hf
  obtain ⟨u1, eu1, hf⟩ := nm_inv hf
  refine lv_iinc (v := u1) (lv' := [(5, .int u1), (0, .ref a_t), (1, .ref a_p1), (2, .int y2), (4, .int y4)]) hx hb dX3_callAll_101 hl (k := 4) rfl (by rw [eu1]; rfl) (by decide) rfl (fun ls hl => ?_)
  refine lv_goto (tgt := 6) hx hb dX3_callAll_104 (by decide) ?_
  exact hag6 h (lv_sub hl [1, 2, 3, 4, 0] rfl) hf
def fX3_callAll_88 (v_p1_size : Int32) (v_p1_kinds : Nat → Int32) (v_p1_terms : Nat → Int64) (ag6 : (Nat → Int32) → (Nat → Int32) → (Nat → Int32) → (Nat → Int32) → Int32 → Int32 → Int32 → Option (Int32 × (Nat → Int32) × (Nat → Int32) × (Nat → Int32) × (Nat → Int32))) (v_queue : Nat → Int32) (v_callsTo : Nat → Int32) (v_firstCalled : Nat → Int32) (v_p1_known : Nat → Int32) (s1 : Int32) (s2 : Int32) (y2 : Int32) (y4 : Int32) (y5 : Int32) (y6 : Int32) : Option (Int32 × (Nat → Int32) × (Nat → Int32) × (Nat → Int32) × (Nat → Int32)) :=
  gIn s1 256 (
  gIn y4 256 (
  nm (y4 + 1) (fun u4 =>
  fX3_callAll_101 v_p1_size v_p1_kinds v_p1_terms ag6 (upd v_queue y4.toNatClampNeg y6) v_callsTo (upd v_firstCalled s1.toNatClampNeg s2) v_p1_known y2 u4 y5)))
set_option maxRecDepth 100000 in
set_option maxHeartbeats 4000000 in
theorem LX3_callAll_88 {p : Program} {l : Launch} {e : Env} {s : State} {m : MethodId} {args : Array Value} {below : List Frame} {meth : Method} {c : Code} {D : va_G} {cI cJ cZ cS : ClassId} {tb : Nat} {A : Nat → Prop} {a_t a_queue a_callsTo a_firstCalled a_p1 a_p1_kinds a_p1_costs a_p1_terms a_p1_known : Nat} {v_p1_size : Int32} {v_p1_list : Int32} {v_p1_told : Int32} {v_p1_kinds : Nat → Int32} {v_p1_terms : Nat → Int64} {rr : Int32} {kk' : (Nat → Int32) × (Nat → Int32) × (Nat → Int32) × (Nat → Int32)} (fx : q_Fx p s m args meth c cX3_callAll 7 RX3 (some .int) D cI cJ cZ cS tb A) {ag6 : (Nat → Int32) → (Nat → Int32) → (Nat → Int32) → (Nat → Int32) → Int32 → Int32 → Int32 → Option (Int32 × (Nat → Int32) × (Nat → Int32) × (Nat → Int32) × (Nat → Int32))} (hag6 : ∀ {v_queue : Nat → Int32} {v_callsTo : Nat → Int32} {v_firstCalled : Nat → Int32} {v_p1_known : Nat → Int32} {y2 : Int32} {y4 : Int32} {y5 : Int32} {H : Heap} {locs : List Loc} {ls : Array Slot}, q_H D A s (wX3_callAll cI cJ cZ cS a_t a_queue a_callsTo a_firstCalled a_p1 a_p1_kinds a_p1_costs a_p1_terms a_p1_known v_queue v_callsTo v_firstCalled v_p1_size v_p1_list v_p1_told v_p1_kinds v_p1_terms v_p1_known) H locs → lv_has ls 7 [(0, .ref a_t), (1, .ref a_p1), (2, .int y2), (4, .int y4), (5, .int y5)] → ag6 v_queue v_callsTo v_firstCalled v_p1_known y2 y4 y5 = some (rr, kk') → W p l e rX3_callAll s m args below meth c H locs 0 0 (MQ below (q_Ri D rr A ((fun k : (Nat → Int32) × (Nat → Int32) × (Nat → Int32) × (Nat → Int32) => (wX3_callAll cI cJ cZ cS a_t a_queue a_callsTo a_firstCalled a_p1 a_p1_kinds a_p1_costs a_p1_terms a_p1_known k.1 k.2.1 k.2.2.1 v_p1_size v_p1_list v_p1_told v_p1_kinds v_p1_terms k.2.2.2)) kk')) args s 0 0 A) (F0 m 6 ls [])) : ∀ {v_queue : Nat → Int32} {v_callsTo : Nat → Int32} {v_firstCalled : Nat → Int32} {v_p1_known : Nat → Int32} {s1 : Int32} {s2 : Int32} {y2 : Int32} {y4 : Int32} {y5 : Int32} {y6 : Int32} {H : Heap} {locs : List Loc} {ls : Array Slot}, q_H D A s (wX3_callAll cI cJ cZ cS a_t a_queue a_callsTo a_firstCalled a_p1 a_p1_kinds a_p1_costs a_p1_terms a_p1_known v_queue v_callsTo v_firstCalled v_p1_size v_p1_list v_p1_told v_p1_kinds v_p1_terms v_p1_known) H locs → lv_has ls 7 [(0, .ref a_t), (1, .ref a_p1), (2, .int y2), (4, .int y4), (5, .int y5), (6, .int y6)] → fX3_callAll_88 v_p1_size v_p1_kinds v_p1_terms ag6 v_queue v_callsTo v_firstCalled v_p1_known s1 s2 y2 y4 y5 y6 = some (rr, kk') → W p l e rX3_callAll s m args below meth c H locs 0 0 (MQ below (q_Ri D rr A ((fun k : (Nat → Int32) × (Nat → Int32) × (Nat → Int32) × (Nat → Int32) => (wX3_callAll cI cJ cZ cS a_t a_queue a_callsTo a_firstCalled a_p1 a_p1_kinds a_p1_costs a_p1_terms a_p1_known k.1 k.2.1 k.2.2.1 v_p1_size v_p1_list v_p1_told v_p1_kinds v_p1_terms k.2.2.2)) kk')) args s 0 0 A) (F0 m 88 ls [.int s2, .int s1, .ref a_firstCalled]) := by
  intro v_queue v_callsTo v_firstCalled v_p1_known s1 s2 y2 y4 y5 y6 H locs ls h hl hf
  have hx := fx.1
  have hb := fx.2.1
  unfold fX3_callAll_88 at hf
  obtain ⟨i2, hf⟩ := gIn_inv hf
  refine q_iast (ws' := (wX3_callAll cI cJ cZ cS a_t a_queue a_callsTo a_firstCalled a_p1 a_p1_kinds a_p1_costs a_p1_terms a_p1_known v_queue v_callsTo (upd v_firstCalled s1.toNatClampNeg s2) v_p1_size v_p1_list v_p1_told v_p1_kinds v_p1_terms v_p1_known)) fx h 3 rfl i2 rfl dX3_callAll_88 (fun H locs h => ?_)
  refine lv_aload_n hx hb dX3_callAll_89 rfl (lv_at hl 0 rfl) ?_
  refine q_get (v := .ref a_queue) fx inX3 h 0 rfl rfl 0 (by decide) k_144 rfl dX3_callAll_90 ?_
  refine lv_iload hx hb dX3_callAll_93 (lv_at hl 3 rfl) ?_
  refine lv_iload hx hb dX3_callAll_95 (lv_at hl 5 rfl) ?_
  obtain ⟨i3, hf⟩ := gIn_inv hf
  refine q_iast (ws' := (wX3_callAll cI cJ cZ cS a_t a_queue a_callsTo a_firstCalled a_p1 a_p1_kinds a_p1_costs a_p1_terms a_p1_known (upd v_queue y4.toNatClampNeg y6) v_callsTo (upd v_firstCalled s1.toNatClampNeg s2) v_p1_size v_p1_list v_p1_told v_p1_kinds v_p1_terms v_p1_known)) fx h 1 rfl i3 rfl dX3_callAll_97 (fun H locs h => ?_)
  obtain ⟨u4, eu4, hf⟩ := nm_inv hf
  refine lv_iinc (v := u4) (lv' := [(4, .int u4), (0, .ref a_t), (1, .ref a_p1), (2, .int y2), (5, .int y5), (6, .int y6)]) hx hb dX3_callAll_98 hl (k := 3) rfl (by rw [eu4]; rfl) (by decide) rfl (fun ls hl => ?_)
  exact LX3_callAll_101 fx hag6 h (lv_sub hl [1, 2, 3, 0, 4] rfl) hf
def fX3_callAll_6 (v_p1_size : Int32) (v_p1_kinds : Nat → Int32) (v_p1_terms : Nat → Int64) (ag6 : (Nat → Int32) → (Nat → Int32) → (Nat → Int32) → (Nat → Int32) → Int32 → Int32 → Int32 → Option (Int32 × (Nat → Int32) × (Nat → Int32) × (Nat → Int32) × (Nat → Int32))) (v_queue : Nat → Int32) (v_callsTo : Nat → Int32) (v_firstCalled : Nat → Int32) (v_p1_known : Nat → Int32) (y2 : Int32) (y4 : Int32) (y5 : Int32) : Option (Int32 × (Nat → Int32) × (Nat → Int32) × (Nat → Int32) × (Nat → Int32)) :=
  (if v_p1_size ≤ y5 then (
  some (y4, (v_queue, v_callsTo, v_firstCalled, v_p1_known)))
  else (
  bR (fX0_called v_p1_size v_p1_kinds v_p1_terms v_p1_known y5 y2) (fun r6 k6 =>
  nm (r6 &&& 255) (fun u7 =>
  gIn u7 256 (
  (if (v_callsTo u7.toNatClampNeg) = (-1) then (
  (if (256 : Int32) ≤ y4 then (
  fX3_callAll_101 v_p1_size v_p1_kinds v_p1_terms ag6 v_queue v_callsTo v_firstCalled k6 y2 y4 y5)
  else (
  gIn y2 256 (
  gIn u7 256 (
  gIn y2 256 (
  (if ((upd v_callsTo u7.toNatClampNeg ((v_callsTo y2.toNatClampNeg) + 1)) y2.toNatClampNeg) = 0 then (
  fX3_callAll_88 v_p1_size v_p1_kinds v_p1_terms ag6 v_queue (upd v_callsTo u7.toNatClampNeg ((v_callsTo y2.toNatClampNeg) + 1)) v_firstCalled k6 u7 y5 y2 y4 y5 u7)
  else (
  gIn y2 256 (
  fX3_callAll_88 v_p1_size v_p1_kinds v_p1_terms ag6 v_queue (upd v_callsTo u7.toNatClampNeg ((v_callsTo y2.toNatClampNeg) + 1)) v_firstCalled k6 u7 (v_firstCalled y2.toNatClampNeg) y2 y4 y5 u7)))))))))
  else (
  fX3_callAll_101 v_p1_size v_p1_kinds v_p1_terms ag6 v_queue v_callsTo v_firstCalled k6 y2 y4 y5)))))))
set_option maxRecDepth 100000 in
set_option maxHeartbeats 4000000 in
theorem LX3_callAll_6 {p : Program} {l : Launch} {e : Env} {s : State} {m : MethodId} {args : Array Value} {below : List Frame} {meth : Method} {c : Code} {D : va_G} {cI cJ cZ cS : ClassId} {tb : Nat} {A : Nat → Prop} {a_t a_queue a_callsTo a_firstCalled a_p1 a_p1_kinds a_p1_costs a_p1_terms a_p1_known : Nat} {v_p1_size : Int32} {v_p1_list : Int32} {v_p1_told : Int32} {v_p1_kinds : Nat → Int32} {v_p1_terms : Nat → Int64} {rr : Int32} {kk' : (Nat → Int32) × (Nat → Int32) × (Nat → Int32) × (Nat → Int32)} (fx : q_Fx p s m args meth c cX3_callAll 7 RX3 (some .int) D cI cJ cZ cS tb A) {ag6 : (Nat → Int32) → (Nat → Int32) → (Nat → Int32) → (Nat → Int32) → Int32 → Int32 → Int32 → Option (Int32 × (Nat → Int32) × (Nat → Int32) × (Nat → Int32) × (Nat → Int32))} (hag6 : ∀ {v_queue : Nat → Int32} {v_callsTo : Nat → Int32} {v_firstCalled : Nat → Int32} {v_p1_known : Nat → Int32} {y2 : Int32} {y4 : Int32} {y5 : Int32} {H : Heap} {locs : List Loc} {ls : Array Slot}, q_H D A s (wX3_callAll cI cJ cZ cS a_t a_queue a_callsTo a_firstCalled a_p1 a_p1_kinds a_p1_costs a_p1_terms a_p1_known v_queue v_callsTo v_firstCalled v_p1_size v_p1_list v_p1_told v_p1_kinds v_p1_terms v_p1_known) H locs → lv_has ls 7 [(0, .ref a_t), (1, .ref a_p1), (2, .int y2), (4, .int y4), (5, .int y5)] → ag6 v_queue v_callsTo v_firstCalled v_p1_known y2 y4 y5 = some (rr, kk') → W p l e rX3_callAll s m args below meth c H locs 0 0 (MQ below (q_Ri D rr A ((fun k : (Nat → Int32) × (Nat → Int32) × (Nat → Int32) × (Nat → Int32) => (wX3_callAll cI cJ cZ cS a_t a_queue a_callsTo a_firstCalled a_p1 a_p1_kinds a_p1_costs a_p1_terms a_p1_known k.1 k.2.1 k.2.2.1 v_p1_size v_p1_list v_p1_told v_p1_kinds v_p1_terms k.2.2.2)) kk')) args s 0 0 A) (F0 m 6 ls [])) : ∀ {v_queue : Nat → Int32} {v_callsTo : Nat → Int32} {v_firstCalled : Nat → Int32} {v_p1_known : Nat → Int32} {y2 : Int32} {y4 : Int32} {y5 : Int32} {H : Heap} {locs : List Loc} {ls : Array Slot}, q_H D A s (wX3_callAll cI cJ cZ cS a_t a_queue a_callsTo a_firstCalled a_p1 a_p1_kinds a_p1_costs a_p1_terms a_p1_known v_queue v_callsTo v_firstCalled v_p1_size v_p1_list v_p1_told v_p1_kinds v_p1_terms v_p1_known) H locs → lv_has ls 7 [(0, .ref a_t), (1, .ref a_p1), (2, .int y2), (4, .int y4), (5, .int y5)] → fX3_callAll_6 v_p1_size v_p1_kinds v_p1_terms ag6 v_queue v_callsTo v_firstCalled v_p1_known y2 y4 y5 = some (rr, kk') → W p l e rX3_callAll s m args below meth c H locs 0 0 (MQ below (q_Ri D rr A ((fun k : (Nat → Int32) × (Nat → Int32) × (Nat → Int32) × (Nat → Int32) => (wX3_callAll cI cJ cZ cS a_t a_queue a_callsTo a_firstCalled a_p1 a_p1_kinds a_p1_costs a_p1_terms a_p1_known k.1 k.2.1 k.2.2.1 v_p1_size v_p1_list v_p1_told v_p1_kinds v_p1_terms k.2.2.2)) kk')) args s 0 0 A) (F0 m 6 ls []) := by
  intro v_queue v_callsTo v_firstCalled v_p1_known y2 y4 y5 H locs ls h hl hf
  have hx := fx.1
  have hb := fx.2.1
  unfold fX3_callAll_6 at hf
  refine lv_iload hx hb dX3_callAll_6 (lv_at hl 4 rfl) ?_
  refine lv_aload_n hx hb dX3_callAll_8 rfl (lv_at hl 1 rfl) ?_
  refine q_getN (v := .int v_p1_size) fx inX0 h 4 rfl rfl 0 (by decide) nf_1 rfl dX3_callAll_9 ?_
  refine lv_icmp_ge (tgt := 107) hx hb dX3_callAll_12 (by decide) (fun c5 => ?_) (fun c5 => ?_)
  · have hf := it_t c5 hf
    refine lv_iload hx hb dX3_callAll_107 (lv_at hl 3 rfl) ?_
    exact q_reti (fun k : (Nat → Int32) × (Nat → Int32) × (Nat → Int32) × (Nat → Int32) => (wX3_callAll cI cJ cZ cS a_t a_queue a_callsTo a_firstCalled a_p1 a_p1_kinds a_p1_costs a_p1_terms a_p1_known k.1 k.2.1 k.2.2.1 v_p1_size v_p1_list v_p1_told v_p1_kinds v_p1_terms k.2.2.2)) fx hf h dX3_callAll_109
  have hf := it_f c5 hf
  refine lv_aload_n hx hb dX3_callAll_15 rfl (lv_at hl 1 rfl) ?_
  refine lv_iload hx hb dX3_callAll_16 (lv_at hl 4 rfl) ?_
  refine lv_iload_n hx hb dX3_callAll_18 rfl (lv_at hl 2 rfl) ?_
  obtain ⟨r6, k6, hg, hf⟩ := bR_inv hf
  refine q_ci (rest := []) (ws' := (wX3_callAll cI cJ cZ cS a_t a_queue a_callsTo a_firstCalled a_p1 a_p1_kinds a_p1_costs a_p1_terms a_p1_known v_queue v_callsTo v_firstCalled v_p1_size v_p1_list v_p1_told v_p1_kinds v_p1_terms k6)) (w1 := (wX0_called cI cJ cZ cS a_p1 a_p1_kinds a_p1_costs a_p1_terms a_p1_known v_p1_size v_p1_list v_p1_told v_p1_kinds v_p1_terms k6)) fx h [4, 5, 6, 7] rfl rfl rfl rfl (q_runV fx h hl.1 [4, 5, 6, 7] rfl rfl (tX0_called l D cI cJ cZ cS tb a_p1 a_p1_kinds a_p1_costs a_p1_terms a_p1_known H.size v_p1_size v_p1_list v_p1_told v_p1_kinds v_p1_terms v_p1_known y5 y2 r6 k6 hg) mvX0_called k_430 ⟨rfl, rfl⟩ ⟨Nat.le_of_ble_eq_true rfl, Nat.le_of_ble_eq_true rfl⟩ rfl rfl rfl rfl (Nat.le_of_ble_eq_true rfl) dX3_callAll_19 ⟨Nat.le_of_ble_eq_true rfl, Nat.le_of_ble_eq_true rfl⟩) (fun H locs h => ?_)
  refine lv_sipush (v := 255) hx hb dX3_callAll_22 (by decide) ?_
  refine lv_iand hx hb dX3_callAll_25 ?_
  obtain ⟨u7, eu7, hf⟩ := nm_inv hf
  refine lv_eqi eu7 ?_
  refine lv_istore (lv' := [(6, .int u7), (0, .ref a_t), (1, .ref a_p1), (2, .int y2), (4, .int y4), (5, .int y5)]) hx hb dX3_callAll_26 hl (by decide) rfl (fun ls hl => ?_)
  refine lv_aload_n hx hb dX3_callAll_28 rfl (lv_at hl 1 rfl) ?_
  refine q_get (v := .ref a_callsTo) fx inX3 h 0 rfl rfl 1 (by decide) k_145 rfl dX3_callAll_29 ?_
  refine lv_iload hx hb dX3_callAll_32 (lv_at hl 0 rfl) ?_
  obtain ⟨i8, hf⟩ := gIn_inv hf
  refine q_iald fx h 2 rfl i8 dX3_callAll_34 ?_
  refine lv_iconst (v := -1) hx hb dX3_callAll_35 (by decide) ?_
  refine lv_icmp_ne (tgt := 101) hx hb dX3_callAll_36 (by decide) (fun c9 => ?_) (fun c9 => ?_)
  · have hf := it_f c9 hf
    exact LX3_callAll_101 fx hag6 h (lv_sub hl [1, 2, 3, 4, 5] rfl) hf
  have hf := it_t c9 hf
  refine lv_iload hx hb dX3_callAll_39 (lv_at hl 4 rfl) ?_
  refine lv_sipush (v := 256) hx hb dX3_callAll_41 (by decide) ?_
  refine lv_icmp_ge (tgt := 101) hx hb dX3_callAll_44 (by decide) (fun c10 => ?_) (fun c10 => ?_)
  · have hf := it_t c10 hf
    exact LX3_callAll_101 fx hag6 h (lv_sub hl [1, 2, 3, 4, 5] rfl) hf
  have hf := it_f c10 hf
  refine lv_aload_n hx hb dX3_callAll_47 rfl (lv_at hl 1 rfl) ?_
  refine q_get (v := .ref a_callsTo) fx inX3 h 0 rfl rfl 1 (by decide) k_145 rfl dX3_callAll_48 ?_
  refine lv_iload hx hb dX3_callAll_51 (lv_at hl 0 rfl) ?_
  refine lv_aload_n hx hb dX3_callAll_53 rfl (lv_at hl 1 rfl) ?_
  refine q_get (v := .ref a_callsTo) fx inX3 h 0 rfl rfl 1 (by decide) k_145 rfl dX3_callAll_54 ?_
  refine lv_iload_n hx hb dX3_callAll_57 rfl (lv_at hl 3 rfl) ?_
  obtain ⟨i11, hf⟩ := gIn_inv hf
  refine q_iald fx h 2 rfl i11 dX3_callAll_58 ?_
  refine lv_iconst (v := 1) hx hb dX3_callAll_59 (by decide) ?_
  refine lv_iadd hx hb dX3_callAll_60 ?_
  obtain ⟨i12, hf⟩ := gIn_inv hf
  refine q_iast (ws' := (wX3_callAll cI cJ cZ cS a_t a_queue a_callsTo a_firstCalled a_p1 a_p1_kinds a_p1_costs a_p1_terms a_p1_known v_queue (upd v_callsTo u7.toNatClampNeg ((v_callsTo y2.toNatClampNeg) + 1)) v_firstCalled v_p1_size v_p1_list v_p1_told v_p1_kinds v_p1_terms k6)) fx h 2 rfl i12 rfl dX3_callAll_61 (fun H locs h => ?_)
  refine lv_aload_n hx hb dX3_callAll_62 rfl (lv_at hl 1 rfl) ?_
  refine q_get (v := .ref a_firstCalled) fx inX3 h 0 rfl rfl 2 (by decide) k_146 rfl dX3_callAll_63 ?_
  refine lv_iload hx hb dX3_callAll_66 (lv_at hl 0 rfl) ?_
  refine lv_aload_n hx hb dX3_callAll_68 rfl (lv_at hl 1 rfl) ?_
  refine q_get (v := .ref a_callsTo) fx inX3 h 0 rfl rfl 1 (by decide) k_145 rfl dX3_callAll_69 ?_
  refine lv_iload_n hx hb dX3_callAll_72 rfl (lv_at hl 3 rfl) ?_
  obtain ⟨i13, hf⟩ := gIn_inv hf
  refine q_iald fx h 2 rfl i13 dX3_callAll_73 ?_
  refine lv_if_ne (tgt := 82) hx hb dX3_callAll_74 (by decide) (fun c14 => ?_) (fun c14 => ?_)
  · have hf := it_f c14 hf
    refine lv_aload_n hx hb dX3_callAll_82 rfl (lv_at hl 1 rfl) ?_
    refine q_get (v := .ref a_firstCalled) fx inX3 h 0 rfl rfl 2 (by decide) k_146 rfl dX3_callAll_83 ?_
    refine lv_iload_n hx hb dX3_callAll_86 rfl (lv_at hl 3 rfl) ?_
    obtain ⟨i15, hf⟩ := gIn_inv hf
    refine q_iald fx h 3 rfl i15 dX3_callAll_87 ?_
    exact LX3_callAll_88 fx hag6 h (lv_sub hl [1, 2, 3, 4, 5, 0] rfl) hf
  have hf := it_t c14 hf
  refine lv_iload hx hb dX3_callAll_77 (lv_at hl 5 rfl) ?_
  refine lv_goto (tgt := 88) hx hb dX3_callAll_79 (by decide) ?_
  exact LX3_callAll_88 fx hag6 h (lv_sub hl [1, 2, 3, 4, 5, 0] rfl) hf
set_option maxRecDepth 100000 in
theorem EX3_callAll_6 {p : Program} {l : Launch} {e : Env} {s : State} {m : MethodId} {args : Array Value} {below : List Frame} {meth : Method} {c : Code} {D : va_G} {cI cJ cZ cS : ClassId} {tb : Nat} {A : Nat → Prop} {a_t a_queue a_callsTo a_firstCalled a_p1 a_p1_kinds a_p1_costs a_p1_terms a_p1_known : Nat} {v_p1_size : Int32} {v_p1_list : Int32} {v_p1_told : Int32} {v_p1_kinds : Nat → Int32} {v_p1_terms : Nat → Int64} {rr : Int32} {kk' : (Nat → Int32) × (Nat → Int32) × (Nat → Int32) × (Nat → Int32)} (fx : q_Fx p s m args meth c cX3_callAll 7 RX3 (some .int) D cI cJ cZ cS tb A) : ∀ (n : Nat), ∀ {v_queue : Nat → Int32} {v_callsTo : Nat → Int32} {v_firstCalled : Nat → Int32} {v_p1_known : Nat → Int32} {y2 : Int32} {y4 : Int32} {y5 : Int32} {H : Heap} {locs : List Loc} {ls : Array Slot}, q_H D A s (wX3_callAll cI cJ cZ cS a_t a_queue a_callsTo a_firstCalled a_p1 a_p1_kinds a_p1_costs a_p1_terms a_p1_known v_queue v_callsTo v_firstCalled v_p1_size v_p1_list v_p1_told v_p1_kinds v_p1_terms v_p1_known) H locs → lv_has ls 7 [(0, .ref a_t), (1, .ref a_p1), (2, .int y2), (4, .int y4), (5, .int y5)] → ll7 (fX3_callAll_6 v_p1_size v_p1_kinds v_p1_terms) n v_queue v_callsTo v_firstCalled v_p1_known y2 y4 y5 = some (rr, kk') → W p l e rX3_callAll s m args below meth c H locs 0 0 (MQ below (q_Ri D rr A ((fun k : (Nat → Int32) × (Nat → Int32) × (Nat → Int32) × (Nat → Int32) => (wX3_callAll cI cJ cZ cS a_t a_queue a_callsTo a_firstCalled a_p1 a_p1_kinds a_p1_costs a_p1_terms a_p1_known k.1 k.2.1 k.2.2.1 v_p1_size v_p1_list v_p1_told v_p1_kinds v_p1_terms k.2.2.2)) kk')) args s 0 0 A) (F0 m 6 ls []) := by
  intro n
  induction n with
  | zero => intro v_queue v_callsTo v_firstCalled v_p1_known y2 y4 y5 H locs ls h hl hf; exact (ll7_z hf).elim
  | succ n ih => intro v_queue v_callsTo v_firstCalled v_p1_known y2 y4 y5 H locs ls h hl hf; exact LX3_callAll_6 fx ih h hl (ll7_s hf)
def fX3_callAll (v_queue : Nat → Int32) (v_callsTo : Nat → Int32) (v_firstCalled : Nat → Int32) (v_p1_size : Int32) (v_p1_kinds : Nat → Int32) (v_p1_terms : Nat → Int64) (v_p1_known : Nat → Int32) (x2 : Int32) (x3 : Int32) : Option (Int32 × (Nat → Int32) × (Nat → Int32) × (Nat → Int32) × (Nat → Int32)) :=
  ll7 (fX3_callAll_6 v_p1_size v_p1_kinds v_p1_terms) qF v_queue v_callsTo v_firstCalled v_p1_known x2 x3 0
set_option maxRecDepth 100000 in
set_option maxHeartbeats 4000000 in
theorem tX3_callAll (l : Launch) (D : va_G) (cI cJ cZ cS : ClassId) (tb : Nat) (a_t a_queue a_callsTo a_firstCalled a_p1 a_p1_kinds a_p1_costs a_p1_terms a_p1_known : Nat) (sz : Nat) (v_queue : Nat → Int32) (v_callsTo : Nat → Int32) (v_firstCalled : Nat → Int32) (v_p1_size : Int32) (v_p1_list : Int32) (v_p1_told : Int32) (v_p1_kinds : Nat → Int32) (v_p1_terms : Nat → Int64) (v_p1_known : Nat → Int32) (x2 : Int32) (x3 : Int32) (rr : Int32) (kk' : (Nat → Int32) × (Nat → Int32) × (Nat → Int32) × (Nat → Int32)) (hf : fX3_callAll v_queue v_callsTo v_firstCalled v_p1_size v_p1_kinds v_p1_terms v_p1_known x2 x3 = some (rr, kk')) : Met l yX3_callAll (Cond.code yX3_callAll cX3_callAll 7 (some .int) :: wA) rX3_callAll (q_Pre D cI cJ cZ cS tb [.ref a_t, .ref a_p1, .int x2, .int x3] sz (wX3_callAll cI cJ cZ cS a_t a_queue a_callsTo a_firstCalled a_p1 a_p1_kinds a_p1_costs a_p1_terms a_p1_known v_queue v_callsTo v_firstCalled v_p1_size v_p1_list v_p1_told v_p1_kinds v_p1_terms v_p1_known)) (q_Ri D rr (va_A (wX3_callAll cI cJ cZ cS a_t a_queue a_callsTo a_firstCalled a_p1 a_p1_kinds a_p1_costs a_p1_terms a_p1_known v_queue v_callsTo v_firstCalled v_p1_size v_p1_list v_p1_told v_p1_kinds v_p1_terms v_p1_known) sz) ((fun k : (Nat → Int32) × (Nat → Int32) × (Nat → Int32) × (Nat → Int32) => (wX3_callAll cI cJ cZ cS a_t a_queue a_callsTo a_firstCalled a_p1 a_p1_kinds a_p1_costs a_p1_terms a_p1_known k.1 k.2.1 k.2.2.1 v_p1_size v_p1_list v_p1_told v_p1_kinds v_p1_terms k.2.2.2)) kk')) 0 0 (va_A (wX3_callAll cI cJ cZ cS a_t a_queue a_callsTo a_firstCalled a_p1 a_p1_kinds a_p1_costs a_p1_terms a_p1_known v_queue v_callsTo v_firstCalled v_p1_size v_p1_list v_p1_told v_p1_kinds v_p1_terms v_p1_known) sz) := by
  refine q_enter (Qf := fun A => (q_Ri D rr A ((fun k : (Nat → Int32) × (Nat → Int32) × (Nat → Int32) × (Nat → Int32) => (wX3_callAll cI cJ cZ cS a_t a_queue a_callsTo a_firstCalled a_p1 a_p1_kinds a_p1_costs a_p1_terms a_p1_known k.1 k.2.1 k.2.2.1 v_p1_size v_p1_list v_p1_told v_p1_kinds v_p1_terms k.2.2.2)) kk'))) (by decide) rfl (Nat.le_of_ble_eq_true rfl) ?_
  intro p e s m below meth c A ls fx hname h hl
  have hx := fx.1
  have hb := fx.2.1
  have hl : lv_has ls 7 [(0, .ref a_t), (1, .ref a_p1), (2, .int x2), (3, .int x3)] := hl
  generalize h9 : s.heap = H at h ⊢
  clear h9
  generalize h9 : ([] : List Loc) = locs at h ⊢
  clear h9
  unfold fX3_callAll at hf
  refine lv_iload_n hx hb dX3_callAll_0 rfl (lv_at hl 3 rfl) ?_
  refine lv_istore (lv' := [(4, .int x3), (0, .ref a_t), (1, .ref a_p1), (2, .int x2), (3, .int x3)]) hx hb dX3_callAll_1 hl (by decide) rfl (fun ls hl => ?_)
  refine lv_iconst (v := 0) hx hb dX3_callAll_3 (by decide) ?_
  refine lv_istore (lv' := [(5, .int 0), (4, .int x3), (0, .ref a_t), (1, .ref a_p1), (2, .int x2), (3, .int x3)]) hx hb dX3_callAll_4 hl (by decide) rfl (fun ls hl => ?_)
  exact EX3_callAll_6 fx qF h (lv_sub hl [2, 3, 4, 1, 0] rfl) hf
/-! X3_nearestSettled -/
abbrev wX3_nearestSettled (cI cJ cZ cS : ClassId) (a_t a_queue a_callsTo a_firstCalled a_p1 a_p1_kinds a_p1_costs a_p1_terms a_p1_known : Nat) (v_queue : Nat → Int32) (v_callsTo : Nat → Int32) (v_firstCalled : Nat → Int32) (v_p1_size : Int32) (v_p1_list : Int32) (v_p1_told : Int32) (v_p1_kinds : Nat → Int32) (v_p1_terms : Nat → Int64) (v_p1_known : Nat → Int32) : va_W := [(a_t, .inr (3, [.ref a_queue, .ref a_callsTo, .ref a_firstCalled])), (a_queue, .inl (cI, 256, .inl v_queue)), (a_callsTo, .inl (cI, 256, .inl v_callsTo)), (a_firstCalled, .inl (cI, 256, .inl v_firstCalled)), (a_p1, .inr (0, [.int v_p1_size, .int v_p1_list, .int v_p1_told, .ref a_p1_kinds, .ref a_p1_costs, .ref a_p1_terms, .ref a_p1_known])), (a_p1_kinds, .inl (cI, 8, .inl v_p1_kinds)), (a_p1_terms, .inl (cJ, 32, .inr (.inl v_p1_terms))), (a_p1_known, .inl (cI, 256, .inl v_p1_known))]
abbrev rX3_nearestSettled : Room := { frames := 6, cells := 0, slots := 0, locals := 138 }
def fX3_nearestSettled_43 (v_p1_size : Int32) (v_p1_list : Int32) (v_p1_kinds : Nat → Int32) (v_p1_terms : Nat → Int64) (ag43 : (Nat → Int32) → (Nat → Int32) → (Nat → Int32) → (Nat → Int32) → Int32 → Int32 → Option (Int32 × (Nat → Int32) × (Nat → Int32) × (Nat → Int32) × (Nat → Int32))) (v_queue : Nat → Int32) (v_callsTo : Nat → Int32) (v_firstCalled : Nat → Int32) (v_p1_known : Nat → Int32) (y3 : Int32) (y4 : Int32) : Option (Int32 × (Nat → Int32) × (Nat → Int32) × (Nat → Int32) × (Nat → Int32)) :=
  (if y3 ≤ y4 then (
  some ((-1), (v_queue, v_callsTo, v_firstCalled, v_p1_known)))
  else (
  (if (256 : Int32) ≤ y4 then (
  some ((-1), (v_queue, v_callsTo, v_firstCalled, v_p1_known)))
  else (
  gIn y4 256 (
  bR (fX0_isSettled v_p1_size v_p1_kinds v_p1_terms v_p1_known (v_queue y4.toNatClampNeg)) (fun r4 k4 =>
  (if r4 = 0 then (
  gIn y4 256 (
  bR (fX3_callAll v_queue v_callsTo v_firstCalled v_p1_size v_p1_kinds v_p1_terms k4 (v_queue y4.toNatClampNeg) y3) (fun r7 k7 =>
  nm (y4 + 1) (fun u8 =>
  ag43 k7.1 k7.2.1 k7.2.2.1 k7.2.2.2 r7 u8))))
  else (
  gIn y4 256 (
  some (v_queue y4.toNatClampNeg, (v_queue, v_callsTo, v_firstCalled, k4)))))))))))
set_option maxRecDepth 100000 in
set_option maxHeartbeats 4000000 in
theorem LX3_nearestSettled_43 {p : Program} {l : Launch} {e : Env} {s : State} {m : MethodId} {args : Array Value} {below : List Frame} {meth : Method} {c : Code} {D : va_G} {cI cJ cZ cS : ClassId} {tb : Nat} {A : Nat → Prop} {a_t a_queue a_callsTo a_firstCalled a_p1 a_p1_kinds a_p1_costs a_p1_terms a_p1_known : Nat} {v_p1_size : Int32} {v_p1_list : Int32} {v_p1_told : Int32} {v_p1_kinds : Nat → Int32} {v_p1_terms : Nat → Int64} {rr : Int32} {kk' : (Nat → Int32) × (Nat → Int32) × (Nat → Int32) × (Nat → Int32)} (fx : q_Fx p s m args meth c cX3_nearestSettled 5 RX3 (some .int) D cI cJ cZ cS tb A) {ag43 : (Nat → Int32) → (Nat → Int32) → (Nat → Int32) → (Nat → Int32) → Int32 → Int32 → Option (Int32 × (Nat → Int32) × (Nat → Int32) × (Nat → Int32) × (Nat → Int32))} (hag43 : ∀ {v_queue : Nat → Int32} {v_callsTo : Nat → Int32} {v_firstCalled : Nat → Int32} {v_p1_known : Nat → Int32} {y3 : Int32} {y4 : Int32} {H : Heap} {locs : List Loc} {ls : Array Slot}, q_H D A s (wX3_nearestSettled cI cJ cZ cS a_t a_queue a_callsTo a_firstCalled a_p1 a_p1_kinds a_p1_costs a_p1_terms a_p1_known v_queue v_callsTo v_firstCalled v_p1_size v_p1_list v_p1_told v_p1_kinds v_p1_terms v_p1_known) H locs → lv_has ls 5 [(0, .ref a_t), (1, .ref a_p1), (3, .int y3), (4, .int y4)] → ag43 v_queue v_callsTo v_firstCalled v_p1_known y3 y4 = some (rr, kk') → W p l e rX3_nearestSettled s m args below meth c H locs 0 0 (MQ below (q_Ri D rr A ((fun k : (Nat → Int32) × (Nat → Int32) × (Nat → Int32) × (Nat → Int32) => (wX3_nearestSettled cI cJ cZ cS a_t a_queue a_callsTo a_firstCalled a_p1 a_p1_kinds a_p1_costs a_p1_terms a_p1_known k.1 k.2.1 k.2.2.1 v_p1_size v_p1_list v_p1_told v_p1_kinds v_p1_terms k.2.2.2)) kk')) args s 0 0 A) (F0 m 43 ls [])) : ∀ {v_queue : Nat → Int32} {v_callsTo : Nat → Int32} {v_firstCalled : Nat → Int32} {v_p1_known : Nat → Int32} {y3 : Int32} {y4 : Int32} {H : Heap} {locs : List Loc} {ls : Array Slot}, q_H D A s (wX3_nearestSettled cI cJ cZ cS a_t a_queue a_callsTo a_firstCalled a_p1 a_p1_kinds a_p1_costs a_p1_terms a_p1_known v_queue v_callsTo v_firstCalled v_p1_size v_p1_list v_p1_told v_p1_kinds v_p1_terms v_p1_known) H locs → lv_has ls 5 [(0, .ref a_t), (1, .ref a_p1), (3, .int y3), (4, .int y4)] → fX3_nearestSettled_43 v_p1_size v_p1_list v_p1_kinds v_p1_terms ag43 v_queue v_callsTo v_firstCalled v_p1_known y3 y4 = some (rr, kk') → W p l e rX3_nearestSettled s m args below meth c H locs 0 0 (MQ below (q_Ri D rr A ((fun k : (Nat → Int32) × (Nat → Int32) × (Nat → Int32) × (Nat → Int32) => (wX3_nearestSettled cI cJ cZ cS a_t a_queue a_callsTo a_firstCalled a_p1 a_p1_kinds a_p1_costs a_p1_terms a_p1_known k.1 k.2.1 k.2.2.1 v_p1_size v_p1_list v_p1_told v_p1_kinds v_p1_terms k.2.2.2)) kk')) args s 0 0 A) (F0 m 43 ls []) := by
  intro v_queue v_callsTo v_firstCalled v_p1_known y3 y4 H locs ls h hl hf
  have hx := fx.1
  have hb := fx.2.1
  unfold fX3_nearestSettled_43 at hf
  refine lv_iload hx hb dX3_nearestSettled_43 (lv_at hl 3 rfl) ?_
  refine lv_iload_n hx hb dX3_nearestSettled_45 rfl (lv_at hl 2 rfl) ?_
  refine lv_icmp_ge (tgt := 99) hx hb dX3_nearestSettled_46 (by decide) (fun c1 => ?_) (fun c1 => ?_)
  · have hf := it_t c1 hf
    refine lv_iconst (v := -1) hx hb dX3_nearestSettled_99 (by decide) ?_
    exact q_reti (fun k : (Nat → Int32) × (Nat → Int32) × (Nat → Int32) × (Nat → Int32) => (wX3_nearestSettled cI cJ cZ cS a_t a_queue a_callsTo a_firstCalled a_p1 a_p1_kinds a_p1_costs a_p1_terms a_p1_known k.1 k.2.1 k.2.2.1 v_p1_size v_p1_list v_p1_told v_p1_kinds v_p1_terms k.2.2.2)) fx hf h dX3_nearestSettled_100
  have hf := it_f c1 hf
  refine lv_iload hx hb dX3_nearestSettled_49 (lv_at hl 3 rfl) ?_
  refine lv_sipush (v := 256) hx hb dX3_nearestSettled_51 (by decide) ?_
  refine lv_icmp_ge (tgt := 99) hx hb dX3_nearestSettled_54 (by decide) (fun c2 => ?_) (fun c2 => ?_)
  · have hf := it_t c2 hf
    refine lv_iconst (v := -1) hx hb dX3_nearestSettled_99 (by decide) ?_
    exact q_reti (fun k : (Nat → Int32) × (Nat → Int32) × (Nat → Int32) × (Nat → Int32) => (wX3_nearestSettled cI cJ cZ cS a_t a_queue a_callsTo a_firstCalled a_p1 a_p1_kinds a_p1_costs a_p1_terms a_p1_known k.1 k.2.1 k.2.2.1 v_p1_size v_p1_list v_p1_told v_p1_kinds v_p1_terms k.2.2.2)) fx hf h dX3_nearestSettled_100
  have hf := it_f c2 hf
  refine lv_aload_n hx hb dX3_nearestSettled_57 rfl (lv_at hl 1 rfl) ?_
  refine lv_aload_n hx hb dX3_nearestSettled_58 rfl (lv_at hl 0 rfl) ?_
  refine q_get (v := .ref a_queue) fx inX3 h 0 rfl rfl 0 (by decide) k_144 rfl dX3_nearestSettled_59 ?_
  refine lv_iload hx hb dX3_nearestSettled_62 (lv_at hl 3 rfl) ?_
  obtain ⟨i3, hf⟩ := gIn_inv hf
  refine q_iald fx h 1 rfl i3 dX3_nearestSettled_64 ?_
  obtain ⟨r4, k4, hg, hf⟩ := bR_inv hf
  refine q_ci (rest := []) (ws' := (wX3_nearestSettled cI cJ cZ cS a_t a_queue a_callsTo a_firstCalled a_p1 a_p1_kinds a_p1_costs a_p1_terms a_p1_known v_queue v_callsTo v_firstCalled v_p1_size v_p1_list v_p1_told v_p1_kinds v_p1_terms k4)) (w1 := (wX0_isSettled cI cJ cZ cS a_p1 a_p1_kinds a_p1_costs a_p1_terms a_p1_known v_p1_size v_p1_list v_p1_told v_p1_kinds v_p1_terms k4)) fx h [4, 5, 6, 7] rfl rfl rfl rfl (q_runV fx h hl.1 [4, 5, 6, 7] rfl rfl (tX0_isSettled l D cI cJ cZ cS tb a_p1 a_p1_kinds a_p1_costs a_p1_terms a_p1_known H.size v_p1_size v_p1_list v_p1_told v_p1_kinds v_p1_terms v_p1_known (v_queue y4.toNatClampNeg) r4 k4 hg) mvX0_isSettled k_425 ⟨rfl, rfl⟩ ⟨Nat.le_of_ble_eq_true rfl, Nat.le_of_ble_eq_true rfl⟩ rfl rfl rfl rfl (Nat.le_of_ble_eq_true rfl) dX3_nearestSettled_65 ⟨Nat.le_of_ble_eq_true rfl, Nat.le_of_ble_eq_true rfl⟩) (fun H locs h => ?_)
  refine lv_if_eq (tgt := 79) hx hb dX3_nearestSettled_68 (by decide) (fun c5 => ?_) (fun c5 => ?_)
  · have hf := it_t c5 hf
    refine lv_aload_n hx hb dX3_nearestSettled_79 rfl (lv_at hl 0 rfl) ?_
    refine lv_aload_n hx hb dX3_nearestSettled_80 rfl (lv_at hl 1 rfl) ?_
    refine lv_aload_n hx hb dX3_nearestSettled_81 rfl (lv_at hl 0 rfl) ?_
    refine q_get (v := .ref a_queue) fx inX3 h 0 rfl rfl 0 (by decide) k_144 rfl dX3_nearestSettled_82 ?_
    refine lv_iload hx hb dX3_nearestSettled_85 (lv_at hl 3 rfl) ?_
    obtain ⟨i6, hf⟩ := gIn_inv hf
    refine q_iald fx h 1 rfl i6 dX3_nearestSettled_87 ?_
    refine lv_iload_n hx hb dX3_nearestSettled_88 rfl (lv_at hl 2 rfl) ?_
    obtain ⟨r7, k7, hg, hf⟩ := bR_inv hf
    refine q_ci (rest := []) (ws' := (wX3_nearestSettled cI cJ cZ cS a_t a_queue a_callsTo a_firstCalled a_p1 a_p1_kinds a_p1_costs a_p1_terms a_p1_known k7.1 k7.2.1 k7.2.2.1 v_p1_size v_p1_list v_p1_told v_p1_kinds v_p1_terms k7.2.2.2)) (w1 := (wX3_callAll cI cJ cZ cS a_t a_queue a_callsTo a_firstCalled a_p1 a_p1_kinds a_p1_costs a_p1_terms a_p1_known k7.1 k7.2.1 k7.2.2.1 v_p1_size v_p1_list v_p1_told v_p1_kinds v_p1_terms k7.2.2.2)) fx h [0, 1, 2, 3, 4, 5, 6, 7] rfl rfl rfl rfl (q_runV fx h hl.1 [0, 1, 2, 3, 4, 5, 6, 7] rfl rfl (tX3_callAll l D cI cJ cZ cS tb a_t a_queue a_callsTo a_firstCalled a_p1 a_p1_kinds a_p1_costs a_p1_terms a_p1_known H.size v_queue v_callsTo v_firstCalled v_p1_size v_p1_list v_p1_told v_p1_kinds v_p1_terms k4 (v_queue y4.toNatClampNeg) y3 r7 k7 hg) mvX3_callAll k_426 ⟨rfl, rfl⟩ ⟨Nat.le_of_ble_eq_true rfl, Nat.le_of_ble_eq_true rfl⟩ rfl rfl rfl rfl (Nat.le_of_ble_eq_true rfl) dX3_nearestSettled_89 ⟨Nat.le_of_ble_eq_true rfl, Nat.le_of_ble_eq_true rfl⟩) (fun H locs h => ?_)
    refine lv_istore_n (lv' := [(3, .int r7), (0, .ref a_t), (1, .ref a_p1), (4, .int y4)]) hx hb dX3_nearestSettled_92 rfl hl (by decide) rfl (fun ls hl => ?_)
    obtain ⟨u8, eu8, hf⟩ := nm_inv hf
    refine lv_iinc (v := u8) (lv' := [(4, .int u8), (3, .int r7), (0, .ref a_t), (1, .ref a_p1)]) hx hb dX3_nearestSettled_93 hl (k := 3) rfl (by rw [eu8]; rfl) (by decide) rfl (fun ls hl => ?_)
    refine lv_goto (tgt := 43) hx hb dX3_nearestSettled_96 (by decide) ?_
    exact hag43 h (lv_sub hl [2, 3, 1, 0] rfl) hf
  have hf := it_f c5 hf
  refine lv_aload_n hx hb dX3_nearestSettled_71 rfl (lv_at hl 0 rfl) ?_
  refine q_get (v := .ref a_queue) fx inX3 h 0 rfl rfl 0 (by decide) k_144 rfl dX3_nearestSettled_72 ?_
  refine lv_iload hx hb dX3_nearestSettled_75 (lv_at hl 3 rfl) ?_
  obtain ⟨i9, hf⟩ := gIn_inv hf
  refine q_iald fx h 1 rfl i9 dX3_nearestSettled_77 ?_
  exact q_reti (fun k : (Nat → Int32) × (Nat → Int32) × (Nat → Int32) × (Nat → Int32) => (wX3_nearestSettled cI cJ cZ cS a_t a_queue a_callsTo a_firstCalled a_p1 a_p1_kinds a_p1_costs a_p1_terms a_p1_known k.1 k.2.1 k.2.2.1 v_p1_size v_p1_list v_p1_told v_p1_kinds v_p1_terms k.2.2.2)) fx hf h dX3_nearestSettled_78
set_option maxRecDepth 100000 in
theorem EX3_nearestSettled_43 {p : Program} {l : Launch} {e : Env} {s : State} {m : MethodId} {args : Array Value} {below : List Frame} {meth : Method} {c : Code} {D : va_G} {cI cJ cZ cS : ClassId} {tb : Nat} {A : Nat → Prop} {a_t a_queue a_callsTo a_firstCalled a_p1 a_p1_kinds a_p1_costs a_p1_terms a_p1_known : Nat} {v_p1_size : Int32} {v_p1_list : Int32} {v_p1_told : Int32} {v_p1_kinds : Nat → Int32} {v_p1_terms : Nat → Int64} {rr : Int32} {kk' : (Nat → Int32) × (Nat → Int32) × (Nat → Int32) × (Nat → Int32)} (fx : q_Fx p s m args meth c cX3_nearestSettled 5 RX3 (some .int) D cI cJ cZ cS tb A) : ∀ (n : Nat), ∀ {v_queue : Nat → Int32} {v_callsTo : Nat → Int32} {v_firstCalled : Nat → Int32} {v_p1_known : Nat → Int32} {y3 : Int32} {y4 : Int32} {H : Heap} {locs : List Loc} {ls : Array Slot}, q_H D A s (wX3_nearestSettled cI cJ cZ cS a_t a_queue a_callsTo a_firstCalled a_p1 a_p1_kinds a_p1_costs a_p1_terms a_p1_known v_queue v_callsTo v_firstCalled v_p1_size v_p1_list v_p1_told v_p1_kinds v_p1_terms v_p1_known) H locs → lv_has ls 5 [(0, .ref a_t), (1, .ref a_p1), (3, .int y3), (4, .int y4)] → ll6 (fX3_nearestSettled_43 v_p1_size v_p1_list v_p1_kinds v_p1_terms) n v_queue v_callsTo v_firstCalled v_p1_known y3 y4 = some (rr, kk') → W p l e rX3_nearestSettled s m args below meth c H locs 0 0 (MQ below (q_Ri D rr A ((fun k : (Nat → Int32) × (Nat → Int32) × (Nat → Int32) × (Nat → Int32) => (wX3_nearestSettled cI cJ cZ cS a_t a_queue a_callsTo a_firstCalled a_p1 a_p1_kinds a_p1_costs a_p1_terms a_p1_known k.1 k.2.1 k.2.2.1 v_p1_size v_p1_list v_p1_told v_p1_kinds v_p1_terms k.2.2.2)) kk')) args s 0 0 A) (F0 m 43 ls []) := by
  intro n
  induction n with
  | zero => intro v_queue v_callsTo v_firstCalled v_p1_known y3 y4 H locs ls h hl hf; exact (ll6_z hf).elim
  | succ n ih => intro v_queue v_callsTo v_firstCalled v_p1_known y3 y4 H locs ls h hl hf; exact LX3_nearestSettled_43 fx ih h hl (ll6_s hf)
def fX3_nearestSettled (v_queue : Nat → Int32) (v_callsTo : Nat → Int32) (v_firstCalled : Nat → Int32) (v_p1_size : Int32) (v_p1_list : Int32) (v_p1_kinds : Nat → Int32) (v_p1_terms : Nat → Int64) (v_p1_known : Nat → Int32) : Option (Int32 × (Nat → Int32) × (Nat → Int32) × (Nat → Int32) × (Nat → Int32)) :=
  bV (fJ7_fill_53178 256 v_callsTo (-1)) (fun k10 =>
  nm (v_p1_list &&& 255) (fun u11 =>
  gIn u11 256 (
  gIn u11 256 (
  ll6 (fX3_nearestSettled_43 v_p1_size v_p1_list v_p1_kinds v_p1_terms) qF (upd v_queue 0 u11) (upd k10 u11.toNatClampNeg 0) (upd v_firstCalled u11.toNatClampNeg (-1)) v_p1_known 1 0))))
set_option maxRecDepth 100000 in
set_option maxHeartbeats 4000000 in
theorem tX3_nearestSettled (l : Launch) (D : va_G) (cI cJ cZ cS : ClassId) (tb : Nat) (a_t a_queue a_callsTo a_firstCalled a_p1 a_p1_kinds a_p1_costs a_p1_terms a_p1_known : Nat) (sz : Nat) (v_queue : Nat → Int32) (v_callsTo : Nat → Int32) (v_firstCalled : Nat → Int32) (v_p1_size : Int32) (v_p1_list : Int32) (v_p1_told : Int32) (v_p1_kinds : Nat → Int32) (v_p1_terms : Nat → Int64) (v_p1_known : Nat → Int32) (rr : Int32) (kk' : (Nat → Int32) × (Nat → Int32) × (Nat → Int32) × (Nat → Int32)) (hf : fX3_nearestSettled v_queue v_callsTo v_firstCalled v_p1_size v_p1_list v_p1_kinds v_p1_terms v_p1_known = some (rr, kk')) : Met l yX3_nearestSettled (Cond.code yX3_nearestSettled cX3_nearestSettled 5 (some .int) :: wA) rX3_nearestSettled (q_Pre D cI cJ cZ cS tb [.ref a_t, .ref a_p1] sz (wX3_nearestSettled cI cJ cZ cS a_t a_queue a_callsTo a_firstCalled a_p1 a_p1_kinds a_p1_costs a_p1_terms a_p1_known v_queue v_callsTo v_firstCalled v_p1_size v_p1_list v_p1_told v_p1_kinds v_p1_terms v_p1_known)) (q_Ri D rr (va_A (wX3_nearestSettled cI cJ cZ cS a_t a_queue a_callsTo a_firstCalled a_p1 a_p1_kinds a_p1_costs a_p1_terms a_p1_known v_queue v_callsTo v_firstCalled v_p1_size v_p1_list v_p1_told v_p1_kinds v_p1_terms v_p1_known) sz) ((fun k : (Nat → Int32) × (Nat → Int32) × (Nat → Int32) × (Nat → Int32) => (wX3_nearestSettled cI cJ cZ cS a_t a_queue a_callsTo a_firstCalled a_p1 a_p1_kinds a_p1_costs a_p1_terms a_p1_known k.1 k.2.1 k.2.2.1 v_p1_size v_p1_list v_p1_told v_p1_kinds v_p1_terms k.2.2.2)) kk')) 0 0 (va_A (wX3_nearestSettled cI cJ cZ cS a_t a_queue a_callsTo a_firstCalled a_p1 a_p1_kinds a_p1_costs a_p1_terms a_p1_known v_queue v_callsTo v_firstCalled v_p1_size v_p1_list v_p1_told v_p1_kinds v_p1_terms v_p1_known) sz) := by
  refine q_enter (Qf := fun A => (q_Ri D rr A ((fun k : (Nat → Int32) × (Nat → Int32) × (Nat → Int32) × (Nat → Int32) => (wX3_nearestSettled cI cJ cZ cS a_t a_queue a_callsTo a_firstCalled a_p1 a_p1_kinds a_p1_costs a_p1_terms a_p1_known k.1 k.2.1 k.2.2.1 v_p1_size v_p1_list v_p1_told v_p1_kinds v_p1_terms k.2.2.2)) kk'))) (by decide) rfl (Nat.le_of_ble_eq_true rfl) ?_
  intro p e s m below meth c A ls fx hname h hl
  have hx := fx.1
  have hb := fx.2.1
  have hl : lv_has ls 5 [(0, .ref a_t), (1, .ref a_p1)] := hl
  generalize h9 : s.heap = H at h ⊢
  clear h9
  generalize h9 : ([] : List Loc) = locs at h ⊢
  clear h9
  unfold fX3_nearestSettled at hf
  refine lv_aload_n hx hb dX3_nearestSettled_0 rfl (lv_at hl 0 rfl) ?_
  refine q_get (v := .ref a_callsTo) fx inX3 h 0 rfl rfl 1 (by decide) k_145 rfl dX3_nearestSettled_1 ?_
  refine lv_iconst (v := -1) hx hb dX3_nearestSettled_4 (by decide) ?_
  obtain ⟨k10, hg, hf⟩ := bV_inv hf
  refine q_cv (rest := []) (ws' := (wX3_nearestSettled cI cJ cZ cS a_t a_queue a_callsTo a_firstCalled a_p1 a_p1_kinds a_p1_costs a_p1_terms a_p1_known v_queue k10 v_firstCalled v_p1_size v_p1_list v_p1_told v_p1_kinds v_p1_terms v_p1_known)) (w1 := (wJ7_fill_53178 cI cJ cZ cS 256 a_callsTo k10)) fx h [2] rfl rfl rfl rfl (q_runS fx h hl.1 [2] rfl rfl (tJ7_fill_53178 l D cI cJ cZ cS tb 256 a_callsTo H.size v_callsTo (-1) k10 hg) msJ7_fill_53178 k_424 ⟨rfl, rfl⟩ ⟨Nat.le_of_ble_eq_true rfl, Nat.le_of_ble_eq_true rfl⟩ rfl rfl (Nat.le_of_ble_eq_true rfl) dX3_nearestSettled_5 ⟨Nat.le_of_ble_eq_true rfl, Nat.le_of_ble_eq_true rfl⟩) (fun H locs h => ?_)
  refine lv_aload_n hx hb dX3_nearestSettled_8 rfl (lv_at hl 1 rfl) ?_
  refine q_getN (v := .int v_p1_list) fx inX0 h 4 rfl rfl 1 (by decide) nf_2 rfl dX3_nearestSettled_9 ?_
  refine lv_sipush (v := 255) hx hb dX3_nearestSettled_12 (by decide) ?_
  refine lv_iand hx hb dX3_nearestSettled_15 ?_
  obtain ⟨u11, eu11, hf⟩ := nm_inv hf
  refine lv_eqi eu11 ?_
  refine lv_istore_n (lv' := [(2, .int u11), (0, .ref a_t), (1, .ref a_p1)]) hx hb dX3_nearestSettled_16 rfl hl (by decide) rfl (fun ls hl => ?_)
  refine lv_aload_n hx hb dX3_nearestSettled_17 rfl (lv_at hl 1 rfl) ?_
  refine q_get (v := .ref a_queue) fx inX3 h 0 rfl rfl 0 (by decide) k_144 rfl dX3_nearestSettled_18 ?_
  refine lv_iconst (v := 0) hx hb dX3_nearestSettled_21 (by decide) ?_
  refine lv_iload_n hx hb dX3_nearestSettled_22 rfl (lv_at hl 0 rfl) ?_
  refine q_iastK (ws' := (wX3_nearestSettled cI cJ cZ cS a_t a_queue a_callsTo a_firstCalled a_p1 a_p1_kinds a_p1_costs a_p1_terms a_p1_known (upd v_queue 0 u11) k10 v_firstCalled v_p1_size v_p1_list v_p1_told v_p1_kinds v_p1_terms v_p1_known)) fx h 1 rfl 0 (vinK (by decide)) (by decide) rfl dX3_nearestSettled_23 (fun H locs h => ?_)
  refine lv_aload_n hx hb dX3_nearestSettled_24 rfl (lv_at hl 1 rfl) ?_
  refine q_get (v := .ref a_callsTo) fx inX3 h 0 rfl rfl 1 (by decide) k_145 rfl dX3_nearestSettled_25 ?_
  refine lv_iload_n hx hb dX3_nearestSettled_28 rfl (lv_at hl 0 rfl) ?_
  refine lv_iconst (v := 0) hx hb dX3_nearestSettled_29 (by decide) ?_
  obtain ⟨i12, hf⟩ := gIn_inv hf
  refine q_iast (ws' := (wX3_nearestSettled cI cJ cZ cS a_t a_queue a_callsTo a_firstCalled a_p1 a_p1_kinds a_p1_costs a_p1_terms a_p1_known (upd v_queue 0 u11) (upd k10 u11.toNatClampNeg 0) v_firstCalled v_p1_size v_p1_list v_p1_told v_p1_kinds v_p1_terms v_p1_known)) fx h 2 rfl i12 rfl dX3_nearestSettled_30 (fun H locs h => ?_)
  refine lv_aload_n hx hb dX3_nearestSettled_31 rfl (lv_at hl 1 rfl) ?_
  refine q_get (v := .ref a_firstCalled) fx inX3 h 0 rfl rfl 2 (by decide) k_146 rfl dX3_nearestSettled_32 ?_
  refine lv_iload_n hx hb dX3_nearestSettled_35 rfl (lv_at hl 0 rfl) ?_
  refine lv_iconst (v := -1) hx hb dX3_nearestSettled_36 (by decide) ?_
  obtain ⟨i13, hf⟩ := gIn_inv hf
  refine q_iast (ws' := (wX3_nearestSettled cI cJ cZ cS a_t a_queue a_callsTo a_firstCalled a_p1 a_p1_kinds a_p1_costs a_p1_terms a_p1_known (upd v_queue 0 u11) (upd k10 u11.toNatClampNeg 0) (upd v_firstCalled u11.toNatClampNeg (-1)) v_p1_size v_p1_list v_p1_told v_p1_kinds v_p1_terms v_p1_known)) fx h 3 rfl i13 rfl dX3_nearestSettled_37 (fun H locs h => ?_)
  refine lv_iconst (v := 1) hx hb dX3_nearestSettled_38 (by decide) ?_
  refine lv_istore_n (lv' := [(3, .int 1), (2, .int u11), (0, .ref a_t), (1, .ref a_p1)]) hx hb dX3_nearestSettled_39 rfl hl (by decide) rfl (fun ls hl => ?_)
  refine lv_iconst (v := 0) hx hb dX3_nearestSettled_40 (by decide) ?_
  refine lv_istore (lv' := [(4, .int 0), (3, .int 1), (2, .int u11), (0, .ref a_t), (1, .ref a_p1)]) hx hb dX3_nearestSettled_41 hl (by decide) rfl (fun ls hl => ?_)
  exact EX3_nearestSettled_43 fx qF h (lv_sub hl [3, 4, 1, 0] rfl) hf
/-! X3_callsTo -/
abbrev wX3_callsTo (cI cJ cZ cS : ClassId) (a_t a_queue a_callsTo a_firstCalled : Nat) (v_callsTo : Nat → Int32) : va_W := [(a_t, .inr (3, [.ref a_queue, .ref a_callsTo, .ref a_firstCalled])), (a_callsTo, .inl (cI, 256, .inl v_callsTo))]
abbrev rX3_callsTo : Room := { frames := 0, cells := 0, slots := 0, locals := 0 }
def fX3_callsTo (v_callsTo : Nat → Int32) (x1 : Int32) : Option (Int32 × Unit) :=
  gIn (x1 &&& 255) 256 (
  some (v_callsTo (x1 &&& 255).toNatClampNeg, ()))
set_option maxRecDepth 100000 in
set_option maxHeartbeats 4000000 in
theorem tX3_callsTo (l : Launch) (D : va_G) (cI cJ cZ cS : ClassId) (tb : Nat) (a_t a_queue a_callsTo a_firstCalled : Nat) (sz : Nat) (v_callsTo : Nat → Int32) (x1 : Int32) (rr : Int32) (kk' : Unit) (hf : fX3_callsTo v_callsTo x1 = some (rr, kk')) : Met l yX3_callsTo (Cond.code yX3_callsTo cX3_callsTo 2 (some .int) :: wA) rX3_callsTo (q_Pre D cI cJ cZ cS tb [.ref a_t, .int x1] sz (wX3_callsTo cI cJ cZ cS a_t a_queue a_callsTo a_firstCalled v_callsTo)) (q_Ri D rr (va_A (wX3_callsTo cI cJ cZ cS a_t a_queue a_callsTo a_firstCalled v_callsTo) sz) ((fun k : Unit => (wX3_callsTo cI cJ cZ cS a_t a_queue a_callsTo a_firstCalled v_callsTo)) kk')) 0 0 (va_A (wX3_callsTo cI cJ cZ cS a_t a_queue a_callsTo a_firstCalled v_callsTo) sz) := by
  refine q_enter (Qf := fun A => (q_Ri D rr A ((fun k : Unit => (wX3_callsTo cI cJ cZ cS a_t a_queue a_callsTo a_firstCalled v_callsTo)) kk'))) (by decide) rfl (Nat.le_of_ble_eq_true rfl) ?_
  intro p e s m below meth c A ls fx hname h hl
  have hx := fx.1
  have hb := fx.2.1
  have hl : lv_has ls 2 [(0, .ref a_t), (1, .int x1)] := hl
  generalize h9 : s.heap = H at h ⊢
  clear h9
  generalize h9 : ([] : List Loc) = locs at h ⊢
  clear h9
  unfold fX3_callsTo at hf
  refine lv_aload_n hx hb dX3_callsTo_0 rfl (lv_at hl 0 rfl) ?_
  refine q_get (v := .ref a_callsTo) fx inX3 h 0 rfl rfl 1 (by decide) k_145 rfl dX3_callsTo_1 ?_
  refine lv_iload_n hx hb dX3_callsTo_4 rfl (lv_at hl 1 rfl) ?_
  refine lv_sipush (v := 255) hx hb dX3_callsTo_5 (by decide) ?_
  refine lv_iand hx hb dX3_callsTo_8 ?_
  obtain ⟨i1, hf⟩ := gIn_inv hf
  refine q_iald fx h 1 rfl i1 dX3_callsTo_9 ?_
  exact q_reti (fun k : Unit => (wX3_callsTo cI cJ cZ cS a_t a_queue a_callsTo a_firstCalled v_callsTo)) fx hf h dX3_callsTo_10
/-! X4_fewest -/
abbrev wX4_fewest (cI cJ cZ cS : ClassId) (a_t a_party a_party_kinds a_party_costs a_party_terms a_party_known a_kept a_tape a_telephone a_telephone_queue a_telephone_callsTo a_telephone_firstCalled a_sheets a_findings : Nat) (v_isKept : Int32) (v_party_size : Int32) (v_party_list : Int32) (v_party_told : Int32) (v_party_kinds : Nat → Int32) (v_party_terms : Nat → Int64) (v_party_known : Nat → Int32) (v_telephone_queue : Nat → Int32) (v_telephone_callsTo : Nat → Int32) (v_telephone_firstCalled : Nat → Int32) (v_findings : Nat → Int32) : va_W := [(a_t, .inr (4, [.ref a_party, .ref a_kept, .int v_isKept, .ref a_tape, .ref a_telephone, .ref a_sheets, .ref a_findings])), (a_party, .inr (0, [.int v_party_size, .int v_party_list, .int v_party_told, .ref a_party_kinds, .ref a_party_costs, .ref a_party_terms, .ref a_party_known])), (a_party_kinds, .inl (cI, 8, .inl v_party_kinds)), (a_party_terms, .inl (cJ, 32, .inr (.inl v_party_terms))), (a_party_known, .inl (cI, 256, .inl v_party_known)), (a_telephone, .inr (3, [.ref a_telephone_queue, .ref a_telephone_callsTo, .ref a_telephone_firstCalled])), (a_telephone_queue, .inl (cI, 256, .inl v_telephone_queue)), (a_telephone_callsTo, .inl (cI, 256, .inl v_telephone_callsTo)), (a_telephone_firstCalled, .inl (cI, 256, .inl v_telephone_firstCalled)), (a_findings, .inl (cI, 7, .inl v_findings))]
abbrev rX4_fewest : Room := { frames := 7, cells := 0, slots := 0, locals := 162 }
def fX4_fewest (v_party_size : Int32) (v_party_list : Int32) (v_party_kinds : Nat → Int32) (v_party_terms : Nat → Int64) (v_party_known : Nat → Int32) (v_telephone_queue : Nat → Int32) (v_telephone_callsTo : Nat → Int32) (v_telephone_firstCalled : Nat → Int32) (v_findings : Nat → Int32) : Option (Int32 × (Nat → Int32) × (Nat → Int32) × (Nat → Int32) × (Nat → Int32) × (Nat → Int32)) :=
  bR (fX3_nearestSettled v_telephone_queue v_telephone_callsTo v_telephone_firstCalled v_party_size v_party_list v_party_kinds v_party_terms v_party_known) (fun r1 k1 =>
  (if (0 : Int32) ≤ r1 then (
  bR (fX3_callsTo k1.2.1 r1) (fun r3 k3 =>
  some (r3, (k1.2.2.2, k1.1, k1.2.1, k1.2.2.1, v_findings))))
  else (
  bR (fX4_found v_findings (-1000000004)) (fun r4 k4 =>
  some (r4, (k1.2.2.2, k1.1, k1.2.1, k1.2.2.1, k4))))))
set_option maxRecDepth 100000 in
set_option maxHeartbeats 4000000 in
theorem tX4_fewest (l : Launch) (D : va_G) (cI cJ cZ cS : ClassId) (tb : Nat) (a_t a_party a_party_kinds a_party_costs a_party_terms a_party_known a_kept a_tape a_telephone a_telephone_queue a_telephone_callsTo a_telephone_firstCalled a_sheets a_findings : Nat) (sz : Nat) (v_isKept : Int32) (v_party_size : Int32) (v_party_list : Int32) (v_party_told : Int32) (v_party_kinds : Nat → Int32) (v_party_terms : Nat → Int64) (v_party_known : Nat → Int32) (v_telephone_queue : Nat → Int32) (v_telephone_callsTo : Nat → Int32) (v_telephone_firstCalled : Nat → Int32) (v_findings : Nat → Int32) (rr : Int32) (kk' : (Nat → Int32) × (Nat → Int32) × (Nat → Int32) × (Nat → Int32) × (Nat → Int32)) (hf : fX4_fewest v_party_size v_party_list v_party_kinds v_party_terms v_party_known v_telephone_queue v_telephone_callsTo v_telephone_firstCalled v_findings = some (rr, kk')) : Met l yX4_fewest (Cond.code yX4_fewest cX4_fewest 2 (some .int) :: wA) rX4_fewest (q_Pre D cI cJ cZ cS tb [.ref a_t] sz (wX4_fewest cI cJ cZ cS a_t a_party a_party_kinds a_party_costs a_party_terms a_party_known a_kept a_tape a_telephone a_telephone_queue a_telephone_callsTo a_telephone_firstCalled a_sheets a_findings v_isKept v_party_size v_party_list v_party_told v_party_kinds v_party_terms v_party_known v_telephone_queue v_telephone_callsTo v_telephone_firstCalled v_findings)) (q_Ri D rr (va_A (wX4_fewest cI cJ cZ cS a_t a_party a_party_kinds a_party_costs a_party_terms a_party_known a_kept a_tape a_telephone a_telephone_queue a_telephone_callsTo a_telephone_firstCalled a_sheets a_findings v_isKept v_party_size v_party_list v_party_told v_party_kinds v_party_terms v_party_known v_telephone_queue v_telephone_callsTo v_telephone_firstCalled v_findings) sz) ((fun k : (Nat → Int32) × (Nat → Int32) × (Nat → Int32) × (Nat → Int32) × (Nat → Int32) => (wX4_fewest cI cJ cZ cS a_t a_party a_party_kinds a_party_costs a_party_terms a_party_known a_kept a_tape a_telephone a_telephone_queue a_telephone_callsTo a_telephone_firstCalled a_sheets a_findings v_isKept v_party_size v_party_list v_party_told v_party_kinds v_party_terms k.1 k.2.1 k.2.2.1 k.2.2.2.1 k.2.2.2.2)) kk')) 0 0 (va_A (wX4_fewest cI cJ cZ cS a_t a_party a_party_kinds a_party_costs a_party_terms a_party_known a_kept a_tape a_telephone a_telephone_queue a_telephone_callsTo a_telephone_firstCalled a_sheets a_findings v_isKept v_party_size v_party_list v_party_told v_party_kinds v_party_terms v_party_known v_telephone_queue v_telephone_callsTo v_telephone_firstCalled v_findings) sz) := by
  refine q_enter (Qf := fun A => (q_Ri D rr A ((fun k : (Nat → Int32) × (Nat → Int32) × (Nat → Int32) × (Nat → Int32) × (Nat → Int32) => (wX4_fewest cI cJ cZ cS a_t a_party a_party_kinds a_party_costs a_party_terms a_party_known a_kept a_tape a_telephone a_telephone_queue a_telephone_callsTo a_telephone_firstCalled a_sheets a_findings v_isKept v_party_size v_party_list v_party_told v_party_kinds v_party_terms k.1 k.2.1 k.2.2.1 k.2.2.2.1 k.2.2.2.2)) kk'))) (by decide) rfl (Nat.le_of_ble_eq_true rfl) ?_
  intro p e s m below meth c A ls fx hname h hl
  have hx := fx.1
  have hb := fx.2.1
  have hl : lv_has ls 2 [(0, .ref a_t)] := hl
  generalize h9 : s.heap = H at h ⊢
  clear h9
  generalize h9 : ([] : List Loc) = locs at h ⊢
  clear h9
  unfold fX4_fewest at hf
  refine lv_aload_n hx hb dX4_fewest_0 rfl (lv_at hl 0 rfl) ?_
  refine q_get (v := .ref a_telephone) fx inX4 h 0 rfl rfl 4 (by decide) k_178 rfl dX4_fewest_1 ?_
  refine lv_aload_n hx hb dX4_fewest_4 rfl (lv_at hl 0 rfl) ?_
  refine q_get (v := .ref a_party) fx inX4 h 0 rfl rfl 0 (by decide) k_174 rfl dX4_fewest_5 ?_
  obtain ⟨r1, k1, hg, hf⟩ := bR_inv hf
  refine q_ci (rest := []) (ws' := (wX4_fewest cI cJ cZ cS a_t a_party a_party_kinds a_party_costs a_party_terms a_party_known a_kept a_tape a_telephone a_telephone_queue a_telephone_callsTo a_telephone_firstCalled a_sheets a_findings v_isKept v_party_size v_party_list v_party_told v_party_kinds v_party_terms k1.2.2.2 k1.1 k1.2.1 k1.2.2.1 v_findings)) (w1 := (wX3_nearestSettled cI cJ cZ cS a_telephone a_telephone_queue a_telephone_callsTo a_telephone_firstCalled a_party a_party_kinds a_party_costs a_party_terms a_party_known k1.1 k1.2.1 k1.2.2.1 v_party_size v_party_list v_party_told v_party_kinds v_party_terms k1.2.2.2)) fx h [5, 6, 7, 8, 1, 2, 3, 4] rfl rfl rfl rfl (q_runV fx h hl.1 [5, 6, 7, 8, 1, 2, 3, 4] rfl rfl (tX3_nearestSettled l D cI cJ cZ cS tb a_telephone a_telephone_queue a_telephone_callsTo a_telephone_firstCalled a_party a_party_kinds a_party_costs a_party_terms a_party_known H.size v_telephone_queue v_telephone_callsTo v_telephone_firstCalled v_party_size v_party_list v_party_told v_party_kinds v_party_terms v_party_known r1 k1 hg) mvX3_nearestSettled k_420 ⟨rfl, rfl⟩ ⟨Nat.le_of_ble_eq_true rfl, Nat.le_of_ble_eq_true rfl⟩ rfl rfl rfl rfl (Nat.le_of_ble_eq_true rfl) dX4_fewest_8 ⟨Nat.le_of_ble_eq_true rfl, Nat.le_of_ble_eq_true rfl⟩) (fun H locs h => ?_)
  refine lv_istore_n (lv' := [(1, .int r1), (0, .ref a_t)]) hx hb dX4_fewest_11 rfl hl (by decide) rfl (fun ls hl => ?_)
  refine lv_iload_n hx hb dX4_fewest_12 rfl (lv_at hl 0 rfl) ?_
  refine lv_if_ge (tgt := 25) hx hb dX4_fewest_13 (by decide) (fun c2 => ?_) (fun c2 => ?_)
  · have hf := it_t c2 hf
    refine lv_aload_n hx hb dX4_fewest_25 rfl (lv_at hl 1 rfl) ?_
    refine q_get (v := .ref a_telephone) fx inX4 h 0 rfl rfl 4 (by decide) k_178 rfl dX4_fewest_26 ?_
    refine lv_iload_n hx hb dX4_fewest_29 rfl (lv_at hl 0 rfl) ?_
    obtain ⟨r3, k3, hg, hf⟩ := bR_inv hf
    refine q_ci (rest := []) (ws' := (wX4_fewest cI cJ cZ cS a_t a_party a_party_kinds a_party_costs a_party_terms a_party_known a_kept a_tape a_telephone a_telephone_queue a_telephone_callsTo a_telephone_firstCalled a_sheets a_findings v_isKept v_party_size v_party_list v_party_told v_party_kinds v_party_terms k1.2.2.2 k1.1 k1.2.1 k1.2.2.1 v_findings)) (w1 := (wX3_callsTo cI cJ cZ cS a_telephone a_telephone_queue a_telephone_callsTo a_telephone_firstCalled k1.2.1)) fx h [5, 7] rfl rfl rfl rfl (q_runV fx h hl.1 [5, 7] rfl rfl (tX3_callsTo l D cI cJ cZ cS tb a_telephone a_telephone_queue a_telephone_callsTo a_telephone_firstCalled H.size k1.2.1 r1 r3 k3 hg) mvX3_callsTo k_431 ⟨rfl, rfl⟩ ⟨Nat.le_of_ble_eq_true rfl, Nat.le_of_ble_eq_true rfl⟩ rfl rfl rfl rfl (Nat.le_of_ble_eq_true rfl) dX4_fewest_30 ⟨Nat.le_of_ble_eq_true rfl, Nat.le_of_ble_eq_true rfl⟩) (fun H locs h => ?_)
    exact q_reti (fun k : (Nat → Int32) × (Nat → Int32) × (Nat → Int32) × (Nat → Int32) × (Nat → Int32) => (wX4_fewest cI cJ cZ cS a_t a_party a_party_kinds a_party_costs a_party_terms a_party_known a_kept a_tape a_telephone a_telephone_queue a_telephone_callsTo a_telephone_firstCalled a_sheets a_findings v_isKept v_party_size v_party_list v_party_told v_party_kinds v_party_terms k.1 k.2.1 k.2.2.1 k.2.2.2.1 k.2.2.2.2)) fx hf h dX4_fewest_33
  have hf := it_f c2 hf
  refine lv_aload_n hx hb dX4_fewest_16 rfl (lv_at hl 1 rfl) ?_
  refine q_ldc fx k_402 dX4_fewest_17 ?_
  obtain ⟨r4, k4, hg, hf⟩ := bR_inv hf
  refine q_ci (rest := []) (ws' := (wX4_fewest cI cJ cZ cS a_t a_party a_party_kinds a_party_costs a_party_terms a_party_known a_kept a_tape a_telephone a_telephone_queue a_telephone_callsTo a_telephone_firstCalled a_sheets a_findings v_isKept v_party_size v_party_list v_party_told v_party_kinds v_party_terms k1.2.2.2 k1.1 k1.2.1 k1.2.2.1 k4)) (w1 := (wX4_found cI cJ cZ cS a_t a_party a_kept a_tape a_telephone a_sheets a_findings v_isKept k4)) fx h [0, 9] rfl rfl rfl rfl (q_runV fx h hl.1 [0, 9] rfl rfl (tX4_found l D cI cJ cZ cS tb a_t a_party a_kept a_tape a_telephone a_sheets a_findings H.size v_isKept v_findings (-1000000004) r4 k4 hg) mvX4_found k_207 ⟨rfl, rfl⟩ ⟨Nat.le_of_ble_eq_true rfl, Nat.le_of_ble_eq_true rfl⟩ rfl rfl rfl rfl (Nat.le_of_ble_eq_true rfl) dX4_fewest_19 ⟨Nat.le_of_ble_eq_true rfl, Nat.le_of_ble_eq_true rfl⟩) (fun H locs h => ?_)
  refine lv_goto (tgt := 33) hx hb dX4_fewest_22 (by decide) ?_
  exact q_reti (fun k : (Nat → Int32) × (Nat → Int32) × (Nat → Int32) × (Nat → Int32) × (Nat → Int32) => (wX4_fewest cI cJ cZ cS a_t a_party a_party_kinds a_party_costs a_party_terms a_party_known a_kept a_tape a_telephone a_telephone_queue a_telephone_callsTo a_telephone_firstCalled a_sheets a_findings v_isKept v_party_size v_party_list v_party_told v_party_kinds v_party_terms k.1 k.2.1 k.2.2.1 k.2.2.2.1 k.2.2.2.2)) fx hf h dX4_fewest_33
/-! X3_firstCalledTo -/
abbrev wX3_firstCalledTo (cI cJ cZ cS : ClassId) (a_t a_queue a_callsTo a_firstCalled : Nat) (v_firstCalled : Nat → Int32) : va_W := [(a_t, .inr (3, [.ref a_queue, .ref a_callsTo, .ref a_firstCalled])), (a_firstCalled, .inl (cI, 256, .inl v_firstCalled))]
abbrev rX3_firstCalledTo : Room := { frames := 0, cells := 0, slots := 0, locals := 0 }
def fX3_firstCalledTo (v_firstCalled : Nat → Int32) (x1 : Int32) : Option (Int32 × Unit) :=
  gIn (x1 &&& 255) 256 (
  some (v_firstCalled (x1 &&& 255).toNatClampNeg, ()))
set_option maxRecDepth 100000 in
set_option maxHeartbeats 4000000 in
theorem tX3_firstCalledTo (l : Launch) (D : va_G) (cI cJ cZ cS : ClassId) (tb : Nat) (a_t a_queue a_callsTo a_firstCalled : Nat) (sz : Nat) (v_firstCalled : Nat → Int32) (x1 : Int32) (rr : Int32) (kk' : Unit) (hf : fX3_firstCalledTo v_firstCalled x1 = some (rr, kk')) : Met l yX3_firstCalledTo (Cond.code yX3_firstCalledTo cX3_firstCalledTo 2 (some .int) :: wA) rX3_firstCalledTo (q_Pre D cI cJ cZ cS tb [.ref a_t, .int x1] sz (wX3_firstCalledTo cI cJ cZ cS a_t a_queue a_callsTo a_firstCalled v_firstCalled)) (q_Ri D rr (va_A (wX3_firstCalledTo cI cJ cZ cS a_t a_queue a_callsTo a_firstCalled v_firstCalled) sz) ((fun k : Unit => (wX3_firstCalledTo cI cJ cZ cS a_t a_queue a_callsTo a_firstCalled v_firstCalled)) kk')) 0 0 (va_A (wX3_firstCalledTo cI cJ cZ cS a_t a_queue a_callsTo a_firstCalled v_firstCalled) sz) := by
  refine q_enter (Qf := fun A => (q_Ri D rr A ((fun k : Unit => (wX3_firstCalledTo cI cJ cZ cS a_t a_queue a_callsTo a_firstCalled v_firstCalled)) kk'))) (by decide) rfl (Nat.le_of_ble_eq_true rfl) ?_
  intro p e s m below meth c A ls fx hname h hl
  have hx := fx.1
  have hb := fx.2.1
  have hl : lv_has ls 2 [(0, .ref a_t), (1, .int x1)] := hl
  generalize h9 : s.heap = H at h ⊢
  clear h9
  generalize h9 : ([] : List Loc) = locs at h ⊢
  clear h9
  unfold fX3_firstCalledTo at hf
  refine lv_aload_n hx hb dX3_firstCalledTo_0 rfl (lv_at hl 0 rfl) ?_
  refine q_get (v := .ref a_firstCalled) fx inX3 h 0 rfl rfl 2 (by decide) k_146 rfl dX3_firstCalledTo_1 ?_
  refine lv_iload_n hx hb dX3_firstCalledTo_4 rfl (lv_at hl 1 rfl) ?_
  refine lv_sipush (v := 255) hx hb dX3_firstCalledTo_5 (by decide) ?_
  refine lv_iand hx hb dX3_firstCalledTo_8 ?_
  obtain ⟨i1, hf⟩ := gIn_inv hf
  refine q_iald fx h 1 rfl i1 dX3_firstCalledTo_9 ?_
  exact q_reti (fun k : Unit => (wX3_firstCalledTo cI cJ cZ cS a_t a_queue a_callsTo a_firstCalled v_firstCalled)) fx hf h dX3_firstCalledTo_10
/-! X4_first -/
abbrev wX4_first (cI cJ cZ cS : ClassId) (a_t a_party a_party_kinds a_party_costs a_party_terms a_party_known a_kept a_tape a_telephone a_telephone_queue a_telephone_callsTo a_telephone_firstCalled a_sheets a_findings : Nat) (v_isKept : Int32) (v_party_size : Int32) (v_party_list : Int32) (v_party_told : Int32) (v_party_kinds : Nat → Int32) (v_party_terms : Nat → Int64) (v_party_known : Nat → Int32) (v_telephone_queue : Nat → Int32) (v_telephone_callsTo : Nat → Int32) (v_telephone_firstCalled : Nat → Int32) (v_findings : Nat → Int32) : va_W := [(a_t, .inr (4, [.ref a_party, .ref a_kept, .int v_isKept, .ref a_tape, .ref a_telephone, .ref a_sheets, .ref a_findings])), (a_party, .inr (0, [.int v_party_size, .int v_party_list, .int v_party_told, .ref a_party_kinds, .ref a_party_costs, .ref a_party_terms, .ref a_party_known])), (a_party_kinds, .inl (cI, 8, .inl v_party_kinds)), (a_party_terms, .inl (cJ, 32, .inr (.inl v_party_terms))), (a_party_known, .inl (cI, 256, .inl v_party_known)), (a_telephone, .inr (3, [.ref a_telephone_queue, .ref a_telephone_callsTo, .ref a_telephone_firstCalled])), (a_telephone_queue, .inl (cI, 256, .inl v_telephone_queue)), (a_telephone_callsTo, .inl (cI, 256, .inl v_telephone_callsTo)), (a_telephone_firstCalled, .inl (cI, 256, .inl v_telephone_firstCalled)), (a_findings, .inl (cI, 7, .inl v_findings))]
abbrev rX4_first : Room := { frames := 7, cells := 0, slots := 0, locals := 162 }
def fX4_first_28 (v_party_size : Int32) (v_party_list : Int32) (v_party_kinds : Nat → Int32) (v_party_terms : Nat → Int64) (v_party_known : Nat → Int32) (v_telephone_queue : Nat → Int32) (v_telephone_callsTo : Nat → Int32) (v_telephone_firstCalled : Nat → Int32) (v_findings : Nat → Int32) (s0 : Int32) : Option (Int32 × (Nat → Int32) × (Nat → Int32) × (Nat → Int32) × (Nat → Int32) × (Nat → Int32)) :=
  (if (0 : Int32) ≤ s0 then (
  some (s0, (v_party_known, v_telephone_queue, v_telephone_callsTo, v_telephone_firstCalled, v_findings)))
  else (
  bR (fX4_found v_findings (-1000000004)) (fun r2 k2 =>
  some (r2, (v_party_known, v_telephone_queue, v_telephone_callsTo, v_telephone_firstCalled, k2)))))
set_option maxRecDepth 100000 in
set_option maxHeartbeats 4000000 in
theorem LX4_first_28 {p : Program} {l : Launch} {e : Env} {s : State} {m : MethodId} {args : Array Value} {below : List Frame} {meth : Method} {c : Code} {D : va_G} {cI cJ cZ cS : ClassId} {tb : Nat} {A : Nat → Prop} {a_t a_party a_party_kinds a_party_costs a_party_terms a_party_known a_kept a_tape a_telephone a_telephone_queue a_telephone_callsTo a_telephone_firstCalled a_sheets a_findings : Nat} {v_isKept : Int32} {v_party_size : Int32} {v_party_list : Int32} {v_party_told : Int32} {v_party_kinds : Nat → Int32} {v_party_terms : Nat → Int64} {rr : Int32} {kk' : (Nat → Int32) × (Nat → Int32) × (Nat → Int32) × (Nat → Int32) × (Nat → Int32)} (fx : q_Fx p s m args meth c cX4_first 3 RX4 (some .int) D cI cJ cZ cS tb A) : ∀ {v_party_known : Nat → Int32} {v_telephone_queue : Nat → Int32} {v_telephone_callsTo : Nat → Int32} {v_telephone_firstCalled : Nat → Int32} {v_findings : Nat → Int32} {s0 : Int32} {H : Heap} {locs : List Loc} {ls : Array Slot}, q_H D A s (wX4_first cI cJ cZ cS a_t a_party a_party_kinds a_party_costs a_party_terms a_party_known a_kept a_tape a_telephone a_telephone_queue a_telephone_callsTo a_telephone_firstCalled a_sheets a_findings v_isKept v_party_size v_party_list v_party_told v_party_kinds v_party_terms v_party_known v_telephone_queue v_telephone_callsTo v_telephone_firstCalled v_findings) H locs → lv_has ls 3 [(0, .ref a_t)] → fX4_first_28 v_party_size v_party_list v_party_kinds v_party_terms v_party_known v_telephone_queue v_telephone_callsTo v_telephone_firstCalled v_findings s0 = some (rr, kk') → W p l e rX4_first s m args below meth c H locs 0 0 (MQ below (q_Ri D rr A ((fun k : (Nat → Int32) × (Nat → Int32) × (Nat → Int32) × (Nat → Int32) × (Nat → Int32) => (wX4_first cI cJ cZ cS a_t a_party a_party_kinds a_party_costs a_party_terms a_party_known a_kept a_tape a_telephone a_telephone_queue a_telephone_callsTo a_telephone_firstCalled a_sheets a_findings v_isKept v_party_size v_party_list v_party_told v_party_kinds v_party_terms k.1 k.2.1 k.2.2.1 k.2.2.2.1 k.2.2.2.2)) kk')) args s 0 0 A) (F0 m 28 ls [.int s0]) := by
  intro v_party_known v_telephone_queue v_telephone_callsTo v_telephone_firstCalled v_findings s0 H locs ls h hl hf
  have hx := fx.1
  have hb := fx.2.1
  unfold fX4_first_28 at hf
  refine lv_istore_n (lv' := [(2, .int s0), (0, .ref a_t)]) hx hb dX4_first_28 rfl hl (by decide) rfl (fun ls hl => ?_)
  refine lv_iload_n hx hb dX4_first_29 rfl (lv_at hl 0 rfl) ?_
  refine lv_if_ge (tgt := 42) hx hb dX4_first_30 (by decide) (fun c1 => ?_) (fun c1 => ?_)
  · have hf := it_t c1 hf
    refine lv_iload_n hx hb dX4_first_42 rfl (lv_at hl 0 rfl) ?_
    exact q_reti (fun k : (Nat → Int32) × (Nat → Int32) × (Nat → Int32) × (Nat → Int32) × (Nat → Int32) => (wX4_first cI cJ cZ cS a_t a_party a_party_kinds a_party_costs a_party_terms a_party_known a_kept a_tape a_telephone a_telephone_queue a_telephone_callsTo a_telephone_firstCalled a_sheets a_findings v_isKept v_party_size v_party_list v_party_told v_party_kinds v_party_terms k.1 k.2.1 k.2.2.1 k.2.2.2.1 k.2.2.2.2)) fx hf h dX4_first_43
  have hf := it_f c1 hf
  refine lv_aload_n hx hb dX4_first_33 rfl (lv_at hl 1 rfl) ?_
  refine q_ldc fx k_402 dX4_first_34 ?_
  obtain ⟨r2, k2, hg, hf⟩ := bR_inv hf
  refine q_ci (rest := []) (ws' := (wX4_first cI cJ cZ cS a_t a_party a_party_kinds a_party_costs a_party_terms a_party_known a_kept a_tape a_telephone a_telephone_queue a_telephone_callsTo a_telephone_firstCalled a_sheets a_findings v_isKept v_party_size v_party_list v_party_told v_party_kinds v_party_terms v_party_known v_telephone_queue v_telephone_callsTo v_telephone_firstCalled k2)) (w1 := (wX4_found cI cJ cZ cS a_t a_party a_kept a_tape a_telephone a_sheets a_findings v_isKept k2)) fx h [0, 9] rfl rfl rfl rfl (q_runV fx h hl.1 [0, 9] rfl rfl (tX4_found l D cI cJ cZ cS tb a_t a_party a_kept a_tape a_telephone a_sheets a_findings H.size v_isKept v_findings (-1000000004) r2 k2 hg) mvX4_found k_207 ⟨rfl, rfl⟩ ⟨Nat.le_of_ble_eq_true rfl, Nat.le_of_ble_eq_true rfl⟩ rfl rfl rfl rfl (Nat.le_of_ble_eq_true rfl) dX4_first_36 ⟨Nat.le_of_ble_eq_true rfl, Nat.le_of_ble_eq_true rfl⟩) (fun H locs h => ?_)
  refine lv_goto (tgt := 43) hx hb dX4_first_39 (by decide) ?_
  exact q_reti (fun k : (Nat → Int32) × (Nat → Int32) × (Nat → Int32) × (Nat → Int32) × (Nat → Int32) => (wX4_first cI cJ cZ cS a_t a_party a_party_kinds a_party_costs a_party_terms a_party_known a_kept a_tape a_telephone a_telephone_queue a_telephone_callsTo a_telephone_firstCalled a_sheets a_findings v_isKept v_party_size v_party_list v_party_told v_party_kinds v_party_terms k.1 k.2.1 k.2.2.1 k.2.2.2.1 k.2.2.2.2)) fx hf h dX4_first_43
def fX4_first (v_party_size : Int32) (v_party_list : Int32) (v_party_kinds : Nat → Int32) (v_party_terms : Nat → Int64) (v_party_known : Nat → Int32) (v_telephone_queue : Nat → Int32) (v_telephone_callsTo : Nat → Int32) (v_telephone_firstCalled : Nat → Int32) (v_findings : Nat → Int32) : Option (Int32 × (Nat → Int32) × (Nat → Int32) × (Nat → Int32) × (Nat → Int32) × (Nat → Int32)) :=
  bR (fX3_nearestSettled v_telephone_queue v_telephone_callsTo v_telephone_firstCalled v_party_size v_party_list v_party_kinds v_party_terms v_party_known) (fun r3 k3 =>
  (if (0 : Int32) ≤ r3 then (
  bR (fX3_firstCalledTo k3.2.2.1 r3) (fun r5 k5 =>
  fX4_first_28 v_party_size v_party_list v_party_kinds v_party_terms k3.2.2.2 k3.1 k3.2.1 k3.2.2.1 v_findings r5))
  else (
  fX4_first_28 v_party_size v_party_list v_party_kinds v_party_terms k3.2.2.2 k3.1 k3.2.1 k3.2.2.1 v_findings (-1))))
set_option maxRecDepth 100000 in
set_option maxHeartbeats 4000000 in
theorem tX4_first (l : Launch) (D : va_G) (cI cJ cZ cS : ClassId) (tb : Nat) (a_t a_party a_party_kinds a_party_costs a_party_terms a_party_known a_kept a_tape a_telephone a_telephone_queue a_telephone_callsTo a_telephone_firstCalled a_sheets a_findings : Nat) (sz : Nat) (v_isKept : Int32) (v_party_size : Int32) (v_party_list : Int32) (v_party_told : Int32) (v_party_kinds : Nat → Int32) (v_party_terms : Nat → Int64) (v_party_known : Nat → Int32) (v_telephone_queue : Nat → Int32) (v_telephone_callsTo : Nat → Int32) (v_telephone_firstCalled : Nat → Int32) (v_findings : Nat → Int32) (rr : Int32) (kk' : (Nat → Int32) × (Nat → Int32) × (Nat → Int32) × (Nat → Int32) × (Nat → Int32)) (hf : fX4_first v_party_size v_party_list v_party_kinds v_party_terms v_party_known v_telephone_queue v_telephone_callsTo v_telephone_firstCalled v_findings = some (rr, kk')) : Met l yX4_first (Cond.code yX4_first cX4_first 3 (some .int) :: wA) rX4_first (q_Pre D cI cJ cZ cS tb [.ref a_t] sz (wX4_first cI cJ cZ cS a_t a_party a_party_kinds a_party_costs a_party_terms a_party_known a_kept a_tape a_telephone a_telephone_queue a_telephone_callsTo a_telephone_firstCalled a_sheets a_findings v_isKept v_party_size v_party_list v_party_told v_party_kinds v_party_terms v_party_known v_telephone_queue v_telephone_callsTo v_telephone_firstCalled v_findings)) (q_Ri D rr (va_A (wX4_first cI cJ cZ cS a_t a_party a_party_kinds a_party_costs a_party_terms a_party_known a_kept a_tape a_telephone a_telephone_queue a_telephone_callsTo a_telephone_firstCalled a_sheets a_findings v_isKept v_party_size v_party_list v_party_told v_party_kinds v_party_terms v_party_known v_telephone_queue v_telephone_callsTo v_telephone_firstCalled v_findings) sz) ((fun k : (Nat → Int32) × (Nat → Int32) × (Nat → Int32) × (Nat → Int32) × (Nat → Int32) => (wX4_first cI cJ cZ cS a_t a_party a_party_kinds a_party_costs a_party_terms a_party_known a_kept a_tape a_telephone a_telephone_queue a_telephone_callsTo a_telephone_firstCalled a_sheets a_findings v_isKept v_party_size v_party_list v_party_told v_party_kinds v_party_terms k.1 k.2.1 k.2.2.1 k.2.2.2.1 k.2.2.2.2)) kk')) 0 0 (va_A (wX4_first cI cJ cZ cS a_t a_party a_party_kinds a_party_costs a_party_terms a_party_known a_kept a_tape a_telephone a_telephone_queue a_telephone_callsTo a_telephone_firstCalled a_sheets a_findings v_isKept v_party_size v_party_list v_party_told v_party_kinds v_party_terms v_party_known v_telephone_queue v_telephone_callsTo v_telephone_firstCalled v_findings) sz) := by
  refine q_enter (Qf := fun A => (q_Ri D rr A ((fun k : (Nat → Int32) × (Nat → Int32) × (Nat → Int32) × (Nat → Int32) × (Nat → Int32) => (wX4_first cI cJ cZ cS a_t a_party a_party_kinds a_party_costs a_party_terms a_party_known a_kept a_tape a_telephone a_telephone_queue a_telephone_callsTo a_telephone_firstCalled a_sheets a_findings v_isKept v_party_size v_party_list v_party_told v_party_kinds v_party_terms k.1 k.2.1 k.2.2.1 k.2.2.2.1 k.2.2.2.2)) kk'))) (by decide) rfl (Nat.le_of_ble_eq_true rfl) ?_
  intro p e s m below meth c A ls fx hname h hl
  have hx := fx.1
  have hb := fx.2.1
  have hl : lv_has ls 3 [(0, .ref a_t)] := hl
  generalize h9 : s.heap = H at h ⊢
  clear h9
  generalize h9 : ([] : List Loc) = locs at h ⊢
  clear h9
  unfold fX4_first at hf
  refine lv_aload_n hx hb dX4_first_0 rfl (lv_at hl 0 rfl) ?_
  refine q_get (v := .ref a_telephone) fx inX4 h 0 rfl rfl 4 (by decide) k_178 rfl dX4_first_1 ?_
  refine lv_aload_n hx hb dX4_first_4 rfl (lv_at hl 0 rfl) ?_
  refine q_get (v := .ref a_party) fx inX4 h 0 rfl rfl 0 (by decide) k_174 rfl dX4_first_5 ?_
  obtain ⟨r3, k3, hg, hf⟩ := bR_inv hf
  refine q_ci (rest := []) (ws' := (wX4_first cI cJ cZ cS a_t a_party a_party_kinds a_party_costs a_party_terms a_party_known a_kept a_tape a_telephone a_telephone_queue a_telephone_callsTo a_telephone_firstCalled a_sheets a_findings v_isKept v_party_size v_party_list v_party_told v_party_kinds v_party_terms k3.2.2.2 k3.1 k3.2.1 k3.2.2.1 v_findings)) (w1 := (wX3_nearestSettled cI cJ cZ cS a_telephone a_telephone_queue a_telephone_callsTo a_telephone_firstCalled a_party a_party_kinds a_party_costs a_party_terms a_party_known k3.1 k3.2.1 k3.2.2.1 v_party_size v_party_list v_party_told v_party_kinds v_party_terms k3.2.2.2)) fx h [5, 6, 7, 8, 1, 2, 3, 4] rfl rfl rfl rfl (q_runV fx h hl.1 [5, 6, 7, 8, 1, 2, 3, 4] rfl rfl (tX3_nearestSettled l D cI cJ cZ cS tb a_telephone a_telephone_queue a_telephone_callsTo a_telephone_firstCalled a_party a_party_kinds a_party_costs a_party_terms a_party_known H.size v_telephone_queue v_telephone_callsTo v_telephone_firstCalled v_party_size v_party_list v_party_told v_party_kinds v_party_terms v_party_known r3 k3 hg) mvX3_nearestSettled k_420 ⟨rfl, rfl⟩ ⟨Nat.le_of_ble_eq_true rfl, Nat.le_of_ble_eq_true rfl⟩ rfl rfl rfl rfl (Nat.le_of_ble_eq_true rfl) dX4_first_8 ⟨Nat.le_of_ble_eq_true rfl, Nat.le_of_ble_eq_true rfl⟩) (fun H locs h => ?_)
  refine lv_istore_n (lv' := [(1, .int r3), (0, .ref a_t)]) hx hb dX4_first_11 rfl hl (by decide) rfl (fun ls hl => ?_)
  refine lv_iload_n hx hb dX4_first_12 rfl (lv_at hl 0 rfl) ?_
  refine lv_if_ge (tgt := 20) hx hb dX4_first_13 (by decide) (fun c4 => ?_) (fun c4 => ?_)
  · have hf := it_t c4 hf
    refine lv_aload_n hx hb dX4_first_20 rfl (lv_at hl 1 rfl) ?_
    refine q_get (v := .ref a_telephone) fx inX4 h 0 rfl rfl 4 (by decide) k_178 rfl dX4_first_21 ?_
    refine lv_iload_n hx hb dX4_first_24 rfl (lv_at hl 0 rfl) ?_
    obtain ⟨r5, k5, hg, hf⟩ := bR_inv hf
    refine q_ci (rest := []) (ws' := (wX4_first cI cJ cZ cS a_t a_party a_party_kinds a_party_costs a_party_terms a_party_known a_kept a_tape a_telephone a_telephone_queue a_telephone_callsTo a_telephone_firstCalled a_sheets a_findings v_isKept v_party_size v_party_list v_party_told v_party_kinds v_party_terms k3.2.2.2 k3.1 k3.2.1 k3.2.2.1 v_findings)) (w1 := (wX3_firstCalledTo cI cJ cZ cS a_telephone a_telephone_queue a_telephone_callsTo a_telephone_firstCalled k3.2.2.1)) fx h [5, 8] rfl rfl rfl rfl (q_runV fx h hl.1 [5, 8] rfl rfl (tX3_firstCalledTo l D cI cJ cZ cS tb a_telephone a_telephone_queue a_telephone_callsTo a_telephone_firstCalled H.size k3.2.2.1 r3 r5 k5 hg) mvX3_firstCalledTo k_439 ⟨rfl, rfl⟩ ⟨Nat.le_of_ble_eq_true rfl, Nat.le_of_ble_eq_true rfl⟩ rfl rfl rfl rfl (Nat.le_of_ble_eq_true rfl) dX4_first_25 ⟨Nat.le_of_ble_eq_true rfl, Nat.le_of_ble_eq_true rfl⟩) (fun H locs h => ?_)
    exact LX4_first_28 fx h (lv_sub hl [1] rfl) hf
  have hf := it_f c4 hf
  refine lv_iconst (v := -1) hx hb dX4_first_16 (by decide) ?_
  refine lv_goto (tgt := 28) hx hb dX4_first_17 (by decide) ?_
  exact LX4_first_28 fx h (lv_sub hl [1] rfl) hf
