section
set_option maxRecDepth 100000 in
set_option maxHeartbeats 4000000 in
theorem law_loop {p : Program} {l : Launch} {e : Env} {s : State} {m : MethodId} {below : List Frame} {meth : Method} {c : Code} {D : va_G} {cI cJ cZ cS : ClassId} {tb b L : Nat} {xs : Nat → Int32} (fx : q_Fx p s m #[Value.ref b] meth c cL_law 4 RL ret D cI cJ cZ cS tb (fun q => s.heap.size ≤ q)) (hX : va_X b L xs s s.heap) (hbl : b < s.heap.size) (hL : L ≤ 3072) (hlocks : meth.locks = false) {I : Nat → LT} (hS : ∀ j, 6 * j + 6 ≤ L → S_all (I j) (I (j + 1))) {a_p1 a_p1_party a_p1_party_kinds a_p1_party_costs a_p1_party_terms a_p1_party_known a_p1_kept a_p1_kept_kinds a_p1_kept_costs a_p1_kept_terms a_p1_kept_known a_p1_tape a_p1_tape_bytes a_p1_telephone a_p1_telephone_queue a_p1_telephone_callsTo a_p1_telephone_firstCalled a_p1_sheets a_p1_sheets0 a_p1_sheets0_numbers a_p1_sheets1 a_p1_sheets1_numbers a_p1_sheets2 a_p1_sheets2_numbers a_p1_sheets3 a_p1_sheets3_numbers a_p1_findings a_p2 a_p2_s a_p2_keptS a_p2_statuses a_p2_pile a_p2_tape a_p2_steps a_p2_wish a_p2_mark a_p2_bitsOf a_p2_sizeOf a_p2_number a_p2_moved : Nat} : ∀ (n j : Nat), 6 * j ≤ L + 5 → L + 6 ≤ 6 * j + n → ∀ (v_p1_isKept : Int32) (v_p1_party_size : Int32) (v_p1_party_list : Int32) (v_p1_party_told : Int32) (v_p1_party_kinds : Nat → Int32) (v_p1_party_costs : Nat → Int32) (v_p1_party_terms : Nat → Int64) (v_p1_party_known : Nat → Int32) (v_p1_kept_size : Int32) (v_p1_kept_list : Int32) (v_p1_kept_told : Int32) (v_p1_kept_kinds : Nat → Int32) (v_p1_kept_costs : Nat → Int32) (v_p1_kept_terms : Nat → Int64) (v_p1_kept_known : Nat → Int32) (v_p1_tape_length : Int32) (v_p1_tape_place : Int32) (v_p1_tape_fault : Int32) (v_p1_tape_teller : Int32) (v_p1_tape_word : Int32) (v_p1_tape_bytes : Nat → Int32) (v_p1_telephone_queue : Nat → Int32) (v_p1_telephone_callsTo : Nat → Int32) (v_p1_telephone_firstCalled : Nat → Int32) (v_p1_sheets0_bits : Int32) (v_p1_sheets0_size : Int32) (v_p1_sheets0_numbers : Nat → Int64) (v_p1_sheets1_bits : Int32) (v_p1_sheets1_size : Int32) (v_p1_sheets1_numbers : Nat → Int64) (v_p1_sheets2_bits : Int32) (v_p1_sheets2_size : Int32) (v_p1_sheets2_numbers : Nat → Int64) (v_p1_sheets3_bits : Int32) (v_p1_sheets3_size : Int32) (v_p1_sheets3_numbers : Nat → Int64) (v_p1_findings : Nat → Int32) (v_p2_isKept : Int32) (v_p2_taped : Int32) (v_p2_at : Int32) (v_p2_fault : Int32) (v_p2_laid : Int32) (v_p2_open : Int32) (v_p2_s : Nat → Int32) (v_p2_keptS : Nat → Int32) (v_p2_statuses : Nat → Int32) (v_p2_pile : Nat → Int32) (v_p2_tape : Nat → Int32) (v_p2_steps : Nat → Int32) (v_p2_wish : Nat → Int32) (v_p2_mark : Nat → Int32) (v_p2_bitsOf : Nat → Int32) (v_p2_sizeOf : Nat → Int32) (v_p2_number : Nat → Int64) (v_p2_moved : Nat → Int64) (H : Heap) (locs : List Loc) (ls : Array Slot), I j v_p1_isKept v_p1_party_size v_p1_party_list v_p1_party_told v_p1_party_kinds v_p1_party_costs v_p1_party_terms v_p1_party_known v_p1_kept_size v_p1_kept_list v_p1_kept_told v_p1_kept_kinds v_p1_kept_costs v_p1_kept_terms v_p1_kept_known v_p1_tape_length v_p1_tape_place v_p1_tape_fault v_p1_tape_teller v_p1_tape_word v_p1_tape_bytes v_p1_telephone_queue v_p1_telephone_callsTo v_p1_telephone_firstCalled v_p1_sheets0_bits v_p1_sheets0_size v_p1_sheets0_numbers v_p1_sheets1_bits v_p1_sheets1_size v_p1_sheets1_numbers v_p1_sheets2_bits v_p1_sheets2_size v_p1_sheets2_numbers v_p1_sheets3_bits v_p1_sheets3_size v_p1_sheets3_numbers v_p1_findings v_p2_isKept v_p2_taped v_p2_at v_p2_fault v_p2_laid v_p2_open v_p2_s v_p2_keptS v_p2_statuses v_p2_pile v_p2_tape v_p2_steps v_p2_wish v_p2_mark v_p2_bitsOf v_p2_sizeOf v_p2_number v_p2_moved → q_H D (fun q => s.heap.size ≤ q) s (wL cI cJ cZ cS a_p1 a_p1_party a_p1_party_kinds a_p1_party_costs a_p1_party_terms a_p1_party_known a_p1_kept a_p1_kept_kinds a_p1_kept_costs a_p1_kept_terms a_p1_kept_known a_p1_tape a_p1_tape_bytes a_p1_telephone a_p1_telephone_queue a_p1_telephone_callsTo a_p1_telephone_firstCalled a_p1_sheets a_p1_sheets0 a_p1_sheets0_numbers a_p1_sheets1 a_p1_sheets1_numbers a_p1_sheets2 a_p1_sheets2_numbers a_p1_sheets3 a_p1_sheets3_numbers a_p1_findings a_p2 a_p2_s a_p2_keptS a_p2_statuses a_p2_pile a_p2_tape a_p2_steps a_p2_wish a_p2_mark a_p2_bitsOf a_p2_sizeOf a_p2_number a_p2_moved v_p1_isKept v_p1_party_size v_p1_party_list v_p1_party_told v_p1_party_kinds v_p1_party_costs v_p1_party_terms v_p1_party_known v_p1_kept_size v_p1_kept_list v_p1_kept_told v_p1_kept_kinds v_p1_kept_costs v_p1_kept_terms v_p1_kept_known v_p1_tape_length v_p1_tape_place v_p1_tape_fault v_p1_tape_teller v_p1_tape_word v_p1_tape_bytes v_p1_telephone_queue v_p1_telephone_callsTo v_p1_telephone_firstCalled v_p1_sheets0_bits v_p1_sheets0_size v_p1_sheets0_numbers v_p1_sheets1_bits v_p1_sheets1_size v_p1_sheets1_numbers v_p1_sheets2_bits v_p1_sheets2_size v_p1_sheets2_numbers v_p1_sheets3_bits v_p1_sheets3_size v_p1_sheets3_numbers v_p1_findings v_p2_isKept v_p2_taped v_p2_at v_p2_fault v_p2_laid v_p2_open v_p2_s v_p2_keptS v_p2_statuses v_p2_pile v_p2_tape v_p2_steps v_p2_wish v_p2_mark v_p2_bitsOf v_p2_sizeOf v_p2_number v_p2_moved) H locs → lv_has ls 4 [(0, .ref b), (1, .ref a_p1), (2, .ref a_p2), (3, .int (nI (6 * j)))] → W p l e room_1 s m #[Value.ref b] below meth c H locs 40 3658 (lw_Z below #[Value.ref b] s) (F0 m 18 ls []) := by
  have hx := fx.1
  have hb := fx.2.1
  have hL : L ≤ 3072 := Nat.le_trans hL (Nat.le_of_ble_eq_true rfl)
  have hbA : ¬ (fun q : Nat => s.heap.size ≤ q) b := Nat.not_le.mpr hbl
  intro n
  induction n with
  | zero => intro j h1 h2; exact absurd h2 (by omega)
  | succ n ih =>
    intro j hj1 hj2 v_p1_isKept v_p1_party_size v_p1_party_list v_p1_party_told v_p1_party_kinds v_p1_party_costs v_p1_party_terms v_p1_party_known v_p1_kept_size v_p1_kept_list v_p1_kept_told v_p1_kept_kinds v_p1_kept_costs v_p1_kept_terms v_p1_kept_known v_p1_tape_length v_p1_tape_place v_p1_tape_fault v_p1_tape_teller v_p1_tape_word v_p1_tape_bytes v_p1_telephone_queue v_p1_telephone_callsTo v_p1_telephone_firstCalled v_p1_sheets0_bits v_p1_sheets0_size v_p1_sheets0_numbers v_p1_sheets1_bits v_p1_sheets1_size v_p1_sheets1_numbers v_p1_sheets2_bits v_p1_sheets2_size v_p1_sheets2_numbers v_p1_sheets3_bits v_p1_sheets3_size v_p1_sheets3_numbers v_p1_findings v_p2_isKept v_p2_taped v_p2_at v_p2_fault v_p2_laid v_p2_open v_p2_s v_p2_keptS v_p2_statuses v_p2_pile v_p2_tape v_p2_steps v_p2_wish v_p2_mark v_p2_bitsOf v_p2_sizeOf v_p2_number v_p2_moved H locs ls hI h hl
    refine lv_iload_n hx hb dL_law_18 rfl (lv_at hl 3 rfl) ?_
    refine lv_aload_n hx hb dL_law_19 rfl (lv_at hl 0 rfl) ?_
    refine va_slen hx hb hX hbl hbA h.2.2 dL_law_20 ?_
    refine lv_bipush (v := 6) hx hb dL_law_21 (by decide) ?_
    refine lv_isub hx hb dL_law_23 ?_
    refine lv_icmp_gt (tgt := 1288) hx hb dL_law_24 (by decide) (fun c1 => ?_) (fun c1 => ?_)
    · refine lv_iconst (v := 1) hx hb dL_law_1288 (by decide) ?_
      refine va_forget (fun q hq => h.2.2.2.2 q hq) ?_
      refine W.widen (k := 600000) (n := 7302250) (Nat.le_of_ble_eq_true rfl) (Nat.le_of_ble_eq_true rfl) ?_
      exact lw_ret hx hb fx.2.2.2.2.2.1 hlocks dL_law_1289
    have hj := lc_more hL c1 (by omega)
    obtain ⟨hS0, hSa⟩ := hS j hj
    refine lv_aload_n hx hb dL_law_27 rfl (lv_at hl 0 rfl) ?_
    refine lv_iload_n hx hb dL_law_28 rfl (lv_at hl 3 rfl) ?_
    refine va_sld hx hb hX hbl hbA h.2.2 (sld_in hj hL (k := 0) (by decide) (nI_p0 _)) dL_law_29 ?_
    refine lv_bipush (v := 63) hx hb dL_law_30 (by decide) ?_
    refine lv_iand hx hb dL_law_32 ?_
    have K : ∀ (v_p1_isKept : Int32) (v_p1_party_size : Int32) (v_p1_party_list : Int32) (v_p1_party_told : Int32) (v_p1_party_kinds : Nat → Int32) (v_p1_party_costs : Nat → Int32) (v_p1_party_terms : Nat → Int64) (v_p1_party_known : Nat → Int32) (v_p1_kept_size : Int32) (v_p1_kept_list : Int32) (v_p1_kept_told : Int32) (v_p1_kept_kinds : Nat → Int32) (v_p1_kept_costs : Nat → Int32) (v_p1_kept_terms : Nat → Int64) (v_p1_kept_known : Nat → Int32) (v_p1_tape_length : Int32) (v_p1_tape_place : Int32) (v_p1_tape_fault : Int32) (v_p1_tape_teller : Int32) (v_p1_tape_word : Int32) (v_p1_tape_bytes : Nat → Int32) (v_p1_telephone_queue : Nat → Int32) (v_p1_telephone_callsTo : Nat → Int32) (v_p1_telephone_firstCalled : Nat → Int32) (v_p1_sheets0_bits : Int32) (v_p1_sheets0_size : Int32) (v_p1_sheets0_numbers : Nat → Int64) (v_p1_sheets1_bits : Int32) (v_p1_sheets1_size : Int32) (v_p1_sheets1_numbers : Nat → Int64) (v_p1_sheets2_bits : Int32) (v_p1_sheets2_size : Int32) (v_p1_sheets2_numbers : Nat → Int64) (v_p1_sheets3_bits : Int32) (v_p1_sheets3_size : Int32) (v_p1_sheets3_numbers : Nat → Int64) (v_p1_findings : Nat → Int32) (v_p2_isKept : Int32) (v_p2_taped : Int32) (v_p2_at : Int32) (v_p2_fault : Int32) (v_p2_laid : Int32) (v_p2_open : Int32) (v_p2_s : Nat → Int32) (v_p2_keptS : Nat → Int32) (v_p2_statuses : Nat → Int32) (v_p2_pile : Nat → Int32) (v_p2_tape : Nat → Int32) (v_p2_steps : Nat → Int32) (v_p2_wish : Nat → Int32) (v_p2_mark : Nat → Int32) (v_p2_bitsOf : Nat → Int32) (v_p2_sizeOf : Nat → Int32) (v_p2_number : Nat → Int64) (v_p2_moved : Nat → Int64) (H : Heap) (locs : List Loc) (ls : Array Slot), I (j + 1) v_p1_isKept v_p1_party_size v_p1_party_list v_p1_party_told v_p1_party_kinds v_p1_party_costs v_p1_party_terms v_p1_party_known v_p1_kept_size v_p1_kept_list v_p1_kept_told v_p1_kept_kinds v_p1_kept_costs v_p1_kept_terms v_p1_kept_known v_p1_tape_length v_p1_tape_place v_p1_tape_fault v_p1_tape_teller v_p1_tape_word v_p1_tape_bytes v_p1_telephone_queue v_p1_telephone_callsTo v_p1_telephone_firstCalled v_p1_sheets0_bits v_p1_sheets0_size v_p1_sheets0_numbers v_p1_sheets1_bits v_p1_sheets1_size v_p1_sheets1_numbers v_p1_sheets2_bits v_p1_sheets2_size v_p1_sheets2_numbers v_p1_sheets3_bits v_p1_sheets3_size v_p1_sheets3_numbers v_p1_findings v_p2_isKept v_p2_taped v_p2_at v_p2_fault v_p2_laid v_p2_open v_p2_s v_p2_keptS v_p2_statuses v_p2_pile v_p2_tape v_p2_steps v_p2_wish v_p2_mark v_p2_bitsOf v_p2_sizeOf v_p2_number v_p2_moved → q_H D (fun q => s.heap.size ≤ q) s (wL cI cJ cZ cS a_p1 a_p1_party a_p1_party_kinds a_p1_party_costs a_p1_party_terms a_p1_party_known a_p1_kept a_p1_kept_kinds a_p1_kept_costs a_p1_kept_terms a_p1_kept_known a_p1_tape a_p1_tape_bytes a_p1_telephone a_p1_telephone_queue a_p1_telephone_callsTo a_p1_telephone_firstCalled a_p1_sheets a_p1_sheets0 a_p1_sheets0_numbers a_p1_sheets1 a_p1_sheets1_numbers a_p1_sheets2 a_p1_sheets2_numbers a_p1_sheets3 a_p1_sheets3_numbers a_p1_findings a_p2 a_p2_s a_p2_keptS a_p2_statuses a_p2_pile a_p2_tape a_p2_steps a_p2_wish a_p2_mark a_p2_bitsOf a_p2_sizeOf a_p2_number a_p2_moved v_p1_isKept v_p1_party_size v_p1_party_list v_p1_party_told v_p1_party_kinds v_p1_party_costs v_p1_party_terms v_p1_party_known v_p1_kept_size v_p1_kept_list v_p1_kept_told v_p1_kept_kinds v_p1_kept_costs v_p1_kept_terms v_p1_kept_known v_p1_tape_length v_p1_tape_place v_p1_tape_fault v_p1_tape_teller v_p1_tape_word v_p1_tape_bytes v_p1_telephone_queue v_p1_telephone_callsTo v_p1_telephone_firstCalled v_p1_sheets0_bits v_p1_sheets0_size v_p1_sheets0_numbers v_p1_sheets1_bits v_p1_sheets1_size v_p1_sheets1_numbers v_p1_sheets2_bits v_p1_sheets2_size v_p1_sheets2_numbers v_p1_sheets3_bits v_p1_sheets3_size v_p1_sheets3_numbers v_p1_findings v_p2_isKept v_p2_taped v_p2_at v_p2_fault v_p2_laid v_p2_open v_p2_s v_p2_keptS v_p2_statuses v_p2_pile v_p2_tape v_p2_steps v_p2_wish v_p2_mark v_p2_bitsOf v_p2_sizeOf v_p2_number v_p2_moved) H locs → lv_has ls 4 [(0, .ref b), (1, .ref a_p1), (2, .ref a_p2), (3, .int (nI (6 * j)))] → W p l e room_1 s m #[Value.ref b] below meth c H locs 40 3658 (lw_Z below #[Value.ref b] s) (F0 m 1282 ls []) := by
      intro v_p1_isKept v_p1_party_size v_p1_party_list v_p1_party_told v_p1_party_kinds v_p1_party_costs v_p1_party_terms v_p1_party_known v_p1_kept_size v_p1_kept_list v_p1_kept_told v_p1_kept_kinds v_p1_kept_costs v_p1_kept_terms v_p1_kept_known v_p1_tape_length v_p1_tape_place v_p1_tape_fault v_p1_tape_teller v_p1_tape_word v_p1_tape_bytes v_p1_telephone_queue v_p1_telephone_callsTo v_p1_telephone_firstCalled v_p1_sheets0_bits v_p1_sheets0_size v_p1_sheets0_numbers v_p1_sheets1_bits v_p1_sheets1_size v_p1_sheets1_numbers v_p1_sheets2_bits v_p1_sheets2_size v_p1_sheets2_numbers v_p1_sheets3_bits v_p1_sheets3_size v_p1_sheets3_numbers v_p1_findings v_p2_isKept v_p2_taped v_p2_at v_p2_fault v_p2_laid v_p2_open v_p2_s v_p2_keptS v_p2_statuses v_p2_pile v_p2_tape v_p2_steps v_p2_wish v_p2_mark v_p2_bitsOf v_p2_sizeOf v_p2_number v_p2_moved H locs ls hI h hl
      refine lv_iinc (v := nI (6 * (j + 1))) (lv' := [(3, .int (nI (6 * (j + 1)))), (0, .ref b), (1, .ref a_p1), (2, .ref a_p2)]) hx hb dL_law_1282 hl (k := 3) rfl (nI_p6 j) (by decide) rfl (fun ls hl => ?_)
      refine lv_goto (tgt := 18) hx hb dL_law_1285 (by decide) ?_
      exact ih (j + 1) (by omega) (by omega) v_p1_isKept v_p1_party_size v_p1_party_list v_p1_party_told v_p1_party_kinds v_p1_party_costs v_p1_party_terms v_p1_party_known v_p1_kept_size v_p1_kept_list v_p1_kept_told v_p1_kept_kinds v_p1_kept_costs v_p1_kept_terms v_p1_kept_known v_p1_tape_length v_p1_tape_place v_p1_tape_fault v_p1_tape_teller v_p1_tape_word v_p1_tape_bytes v_p1_telephone_queue v_p1_telephone_callsTo v_p1_telephone_firstCalled v_p1_sheets0_bits v_p1_sheets0_size v_p1_sheets0_numbers v_p1_sheets1_bits v_p1_sheets1_size v_p1_sheets1_numbers v_p1_sheets2_bits v_p1_sheets2_size v_p1_sheets2_numbers v_p1_sheets3_bits v_p1_sheets3_size v_p1_sheets3_numbers v_p1_findings v_p2_isKept v_p2_taped v_p2_at v_p2_fault v_p2_laid v_p2_open v_p2_s v_p2_keptS v_p2_statuses v_p2_pile v_p2_tape v_p2_steps v_p2_wish v_p2_mark v_p2_bitsOf v_p2_sizeOf v_p2_number v_p2_moved H locs ls hI h (lv_sub hl [1, 2, 3, 0] rfl)
    generalize xs (nI (6 * j)).toNatClampNeg &&& 63 = x
    by_cases hs : x.toInt < 0 ∨ 41 < x.toInt
    · refine lv_tableOut (tgt := 1282) hx hb dL_law_33 hs (by decide) ?_
      exact K v_p1_isKept v_p1_party_size v_p1_party_list v_p1_party_told v_p1_party_kinds v_p1_party_costs v_p1_party_terms v_p1_party_known v_p1_kept_size v_p1_kept_list v_p1_kept_told v_p1_kept_kinds v_p1_kept_costs v_p1_kept_terms v_p1_kept_known v_p1_tape_length v_p1_tape_place v_p1_tape_fault v_p1_tape_teller v_p1_tape_word v_p1_tape_bytes v_p1_telephone_queue v_p1_telephone_callsTo v_p1_telephone_firstCalled v_p1_sheets0_bits v_p1_sheets0_size v_p1_sheets0_numbers v_p1_sheets1_bits v_p1_sheets1_size v_p1_sheets1_numbers v_p1_sheets2_bits v_p1_sheets2_size v_p1_sheets2_numbers v_p1_sheets3_bits v_p1_sheets3_size v_p1_sheets3_numbers v_p1_findings v_p2_isKept v_p2_taped v_p2_at v_p2_fault v_p2_laid v_p2_open v_p2_s v_p2_keptS v_p2_statuses v_p2_pile v_p2_tape v_p2_steps v_p2_wish v_p2_mark v_p2_bitsOf v_p2_sizeOf v_p2_number v_p2_moved H locs ls (hS0 v_p1_isKept v_p1_party_size v_p1_party_list v_p1_party_told v_p1_party_kinds v_p1_party_costs v_p1_party_terms v_p1_party_known v_p1_kept_size v_p1_kept_list v_p1_kept_told v_p1_kept_kinds v_p1_kept_costs v_p1_kept_terms v_p1_kept_known v_p1_tape_length v_p1_tape_place v_p1_tape_fault v_p1_tape_teller v_p1_tape_word v_p1_tape_bytes v_p1_telephone_queue v_p1_telephone_callsTo v_p1_telephone_firstCalled v_p1_sheets0_bits v_p1_sheets0_size v_p1_sheets0_numbers v_p1_sheets1_bits v_p1_sheets1_size v_p1_sheets1_numbers v_p1_sheets2_bits v_p1_sheets2_size v_p1_sheets2_numbers v_p1_sheets3_bits v_p1_sheets3_size v_p1_sheets3_numbers v_p1_findings v_p2_isKept v_p2_taped v_p2_at v_p2_fault v_p2_laid v_p2_open v_p2_s v_p2_keptS v_p2_statuses v_p2_pile v_p2_tape v_p2_steps v_p2_wish v_p2_mark v_p2_bitsOf v_p2_sizeOf v_p2_number v_p2_moved hI) h hl
    have hs := not_or.mp hs
    obtain ⟨k, hk, ek⟩ := sw_ex (n := 42) (by decide) (by decide) hs.1 hs.2
    match k, hk, ek with
    | 0, _, ek =>
      refine lv_tableIn (off := 183) (tgt := 216) hx hb dL_law_33 hs.1 hs.2 (by rw [ek]; rfl) (by decide) ?_
      exact Lc_0 fx hX hbl hj hL hSa.1 hI K h hl
    | 1, _, ek =>
      refine lv_tableIn (off := 216) (tgt := 249) hx hb dL_law_33 hs.1 hs.2 (by rw [ek]; rfl) (by decide) ?_
      exact Lc_1 fx hX hbl hj hL hSa.2.1 hI K h hl
    | 2, _, ek =>
      refine lv_tableIn (off := 249) (tgt := 282) hx hb dL_law_33 hs.1 hs.2 (by rw [ek]; rfl) (by decide) ?_
      exact Lc_2 fx hX hbl hj hL hSa.2.2.1 hI K h hl
    | 3, _, ek =>
      refine lv_tableIn (off := 282) (tgt := 315) hx hb dL_law_33 hs.1 hs.2 (by rw [ek]; rfl) (by decide) ?_
      exact Lc_3 fx hX hbl hj hL hSa.2.2.2.1 hI K h hl
    | 4, _, ek =>
      refine lv_tableIn (off := 315) (tgt := 348) hx hb dL_law_33 hs.1 hs.2 (by rw [ek]; rfl) (by decide) ?_
      exact Lc_4 fx hX hbl hj hL hSa.2.2.2.2.1 hI K h hl
    | 5, _, ek =>
      refine lv_tableIn (off := 348) (tgt := 381) hx hb dL_law_33 hs.1 hs.2 (by rw [ek]; rfl) (by decide) ?_
      exact Lc_5 fx hX hbl hj hL hSa.2.2.2.2.2.1 hI K h hl
    | 6, _, ek =>
      refine lv_tableIn (off := 371) (tgt := 404) hx hb dL_law_33 hs.1 hs.2 (by rw [ek]; rfl) (by decide) ?_
      exact Lc_6 fx hX hbl hj hL hSa.2.2.2.2.2.2.1 hI K h hl
    | 7, _, ek =>
      refine lv_tableIn (off := 404) (tgt := 437) hx hb dL_law_33 hs.1 hs.2 (by rw [ek]; rfl) (by decide) ?_
      exact Lc_7 fx hX hbl hj hL hSa.2.2.2.2.2.2.2.1 hI K h hl
    | 8, _, ek =>
      refine lv_tableIn (off := 417) (tgt := 450) hx hb dL_law_33 hs.1 hs.2 (by rw [ek]; rfl) (by decide) ?_
      exact Lc_8 fx hX hbl hj hL hSa.2.2.2.2.2.2.2.2.1 hI K h hl
    | 9, _, ek =>
      refine lv_tableIn (off := 440) (tgt := 473) hx hb dL_law_33 hs.1 hs.2 (by rw [ek]; rfl) (by decide) ?_
      exact Lc_9 fx hX hbl hj hL hSa.2.2.2.2.2.2.2.2.2.1 hI K h hl
    | 10, _, ek =>
      refine lv_tableIn (off := 463) (tgt := 496) hx hb dL_law_33 hs.1 hs.2 (by rw [ek]; rfl) (by decide) ?_
      exact Lc_10 fx hX hbl hj hL hSa.2.2.2.2.2.2.2.2.2.2.1 hI K h hl
    | 11, _, ek =>
      refine lv_tableIn (off := 486) (tgt := 519) hx hb dL_law_33 hs.1 hs.2 (by rw [ek]; rfl) (by decide) ?_
      exact Lc_11 fx hX hbl hj hL hSa.2.2.2.2.2.2.2.2.2.2.2.1 hI K h hl
    | 12, _, ek =>
      refine lv_tableIn (off := 509) (tgt := 542) hx hb dL_law_33 hs.1 hs.2 (by rw [ek]; rfl) (by decide) ?_
      exact Lc_12 fx hX hbl hj hL hSa.2.2.2.2.2.2.2.2.2.2.2.2.1 hI K h hl
    | 13, _, ek =>
      refine lv_tableIn (off := 532) (tgt := 565) hx hb dL_law_33 hs.1 hs.2 (by rw [ek]; rfl) (by decide) ?_
      exact Lc_13 fx hX hbl hj hL hSa.2.2.2.2.2.2.2.2.2.2.2.2.2.1 hI K h hl
    | 14, _, ek =>
      refine lv_tableIn (off := 555) (tgt := 588) hx hb dL_law_33 hs.1 hs.2 (by rw [ek]; rfl) (by decide) ?_
      exact Lc_14 fx hX hbl hj hL hSa.2.2.2.2.2.2.2.2.2.2.2.2.2.2.1 hI K h hl
    | 15, _, ek =>
      refine lv_tableIn (off := 568) (tgt := 601) hx hb dL_law_33 hs.1 hs.2 (by rw [ek]; rfl) (by decide) ?_
      exact Lc_15 fx hX hbl hj hL hSa.2.2.2.2.2.2.2.2.2.2.2.2.2.2.2.1 hI K h hl
    | 16, _, ek =>
      refine lv_tableIn (off := 591) (tgt := 624) hx hb dL_law_33 hs.1 hs.2 (by rw [ek]; rfl) (by decide) ?_
      exact Lc_16 fx hX hbl hj hL hSa.2.2.2.2.2.2.2.2.2.2.2.2.2.2.2.2.1 hI K h hl
    | 17, _, ek =>
      refine lv_tableIn (off := 604) (tgt := 637) hx hb dL_law_33 hs.1 hs.2 (by rw [ek]; rfl) (by decide) ?_
      exact Lc_17 fx hX hbl hj hL hSa.2.2.2.2.2.2.2.2.2.2.2.2.2.2.2.2.2.1 hI K h hl
    | 18, _, ek =>
      refine lv_tableIn (off := 617) (tgt := 650) hx hb dL_law_33 hs.1 hs.2 (by rw [ek]; rfl) (by decide) ?_
      exact Lc_18 fx hX hbl hj hL hSa.2.2.2.2.2.2.2.2.2.2.2.2.2.2.2.2.2.2.1 hI K h hl
    | 19, _, ek =>
      refine lv_tableIn (off := 630) (tgt := 663) hx hb dL_law_33 hs.1 hs.2 (by rw [ek]; rfl) (by decide) ?_
      exact Lc_19 fx hX hbl hj hL hSa.2.2.2.2.2.2.2.2.2.2.2.2.2.2.2.2.2.2.2.1 hI K h hl
    | 20, _, ek =>
      refine lv_tableIn (off := 653) (tgt := 686) hx hb dL_law_33 hs.1 hs.2 (by rw [ek]; rfl) (by decide) ?_
      exact Lc_20 fx hX hbl hj hL hSa.2.2.2.2.2.2.2.2.2.2.2.2.2.2.2.2.2.2.2.2.1 hI K h hl
    | 21, _, ek =>
      refine lv_tableIn (off := 676) (tgt := 709) hx hb dL_law_33 hs.1 hs.2 (by rw [ek]; rfl) (by decide) ?_
      exact Lc_21 fx hX hbl hj hL hSa.2.2.2.2.2.2.2.2.2.2.2.2.2.2.2.2.2.2.2.2.2.1 hI K h hl
    | 22, _, ek =>
      refine lv_tableIn (off := 689) (tgt := 722) hx hb dL_law_33 hs.1 hs.2 (by rw [ek]; rfl) (by decide) ?_
      exact Lc_22 fx hX hbl hj hL hSa.2.2.2.2.2.2.2.2.2.2.2.2.2.2.2.2.2.2.2.2.2.2.1 hI K h hl
    | 23, _, ek =>
      refine lv_tableIn (off := 722) (tgt := 755) hx hb dL_law_33 hs.1 hs.2 (by rw [ek]; rfl) (by decide) ?_
      exact Lc_23 fx hX hbl hj hL hSa.2.2.2.2.2.2.2.2.2.2.2.2.2.2.2.2.2.2.2.2.2.2.2.1 hI K h hl
    | 24, _, ek =>
      refine lv_tableIn (off := 745) (tgt := 778) hx hb dL_law_33 hs.1 hs.2 (by rw [ek]; rfl) (by decide) ?_
      exact Lc_24 fx hX hbl hj hL hSa.2.2.2.2.2.2.2.2.2.2.2.2.2.2.2.2.2.2.2.2.2.2.2.2.1 hI K h hl
    | 25, _, ek =>
      refine lv_tableIn (off := 768) (tgt := 801) hx hb dL_law_33 hs.1 hs.2 (by rw [ek]; rfl) (by decide) ?_
      exact Lc_25 fx hX hbl hj hL hSa.2.2.2.2.2.2.2.2.2.2.2.2.2.2.2.2.2.2.2.2.2.2.2.2.2.1 hI K h hl
    | 26, _, ek =>
      refine lv_tableIn (off := 791) (tgt := 824) hx hb dL_law_33 hs.1 hs.2 (by rw [ek]; rfl) (by decide) ?_
      exact Lc_26 fx hX hbl hj hL hSa.2.2.2.2.2.2.2.2.2.2.2.2.2.2.2.2.2.2.2.2.2.2.2.2.2.2.1 hI K h hl
    | 27, _, ek =>
      refine lv_tableIn (off := 804) (tgt := 837) hx hb dL_law_33 hs.1 hs.2 (by rw [ek]; rfl) (by decide) ?_
      exact Lc_27 fx hX hbl hj hL hSa.2.2.2.2.2.2.2.2.2.2.2.2.2.2.2.2.2.2.2.2.2.2.2.2.2.2.2.1 hI K h hl
    | 28, _, ek =>
      refine lv_tableIn (off := 837) (tgt := 870) hx hb dL_law_33 hs.1 hs.2 (by rw [ek]; rfl) (by decide) ?_
      exact Lc_28 fx hX hbl hj hL hSa.2.2.2.2.2.2.2.2.2.2.2.2.2.2.2.2.2.2.2.2.2.2.2.2.2.2.2.2.1 hI K h hl
    | 29, _, ek =>
      refine lv_tableIn (off := 870) (tgt := 903) hx hb dL_law_33 hs.1 hs.2 (by rw [ek]; rfl) (by decide) ?_
      exact Lc_29 fx hX hbl hj hL hSa.2.2.2.2.2.2.2.2.2.2.2.2.2.2.2.2.2.2.2.2.2.2.2.2.2.2.2.2.2.1 hI K h hl
    | 30, _, ek =>
      refine lv_tableIn (off := 893) (tgt := 926) hx hb dL_law_33 hs.1 hs.2 (by rw [ek]; rfl) (by decide) ?_
      exact Lc_30 fx hX hbl hj hL hSa.2.2.2.2.2.2.2.2.2.2.2.2.2.2.2.2.2.2.2.2.2.2.2.2.2.2.2.2.2.2.1 hI K h hl
    | 31, _, ek =>
      refine lv_tableIn (off := 916) (tgt := 949) hx hb dL_law_33 hs.1 hs.2 (by rw [ek]; rfl) (by decide) ?_
      exact Lc_31 fx hX hbl hj hL hSa.2.2.2.2.2.2.2.2.2.2.2.2.2.2.2.2.2.2.2.2.2.2.2.2.2.2.2.2.2.2.2.1 hI K h hl
    | 32, _, ek =>
      refine lv_tableIn (off := 959) (tgt := 992) hx hb dL_law_33 hs.1 hs.2 (by rw [ek]; rfl) (by decide) ?_
      exact Lc_32 fx hX hbl hj hL hSa.2.2.2.2.2.2.2.2.2.2.2.2.2.2.2.2.2.2.2.2.2.2.2.2.2.2.2.2.2.2.2.2.1 hI K h hl
    | 33, _, ek =>
      refine lv_tableIn (off := 1032) (tgt := 1065) hx hb dL_law_33 hs.1 hs.2 (by rw [ek]; rfl) (by decide) ?_
      exact Lc_33 fx hX hbl hj hL hSa.2.2.2.2.2.2.2.2.2.2.2.2.2.2.2.2.2.2.2.2.2.2.2.2.2.2.2.2.2.2.2.2.2.1 hI K h hl
    | 34, _, ek =>
      refine lv_tableIn (off := 1095) (tgt := 1128) hx hb dL_law_33 hs.1 hs.2 (by rw [ek]; rfl) (by decide) ?_
      exact Lc_34 fx hX hbl hj hL hSa.2.2.2.2.2.2.2.2.2.2.2.2.2.2.2.2.2.2.2.2.2.2.2.2.2.2.2.2.2.2.2.2.2.2.1 hI K h hl
    | 35, _, ek =>
      refine lv_tableIn (off := 1118) (tgt := 1151) hx hb dL_law_33 hs.1 hs.2 (by rw [ek]; rfl) (by decide) ?_
      exact Lc_35 fx hX hbl hj hL hSa.2.2.2.2.2.2.2.2.2.2.2.2.2.2.2.2.2.2.2.2.2.2.2.2.2.2.2.2.2.2.2.2.2.2.2.1 hI K h hl
    | 36, _, ek =>
      refine lv_tableIn (off := 1141) (tgt := 1174) hx hb dL_law_33 hs.1 hs.2 (by rw [ek]; rfl) (by decide) ?_
      exact Lc_36 fx hX hbl hj hL hSa.2.2.2.2.2.2.2.2.2.2.2.2.2.2.2.2.2.2.2.2.2.2.2.2.2.2.2.2.2.2.2.2.2.2.2.2.1 hI K h hl
    | 37, _, ek =>
      refine lv_tableIn (off := 1164) (tgt := 1197) hx hb dL_law_33 hs.1 hs.2 (by rw [ek]; rfl) (by decide) ?_
      exact Lc_37 fx hX hbl hj hL hSa.2.2.2.2.2.2.2.2.2.2.2.2.2.2.2.2.2.2.2.2.2.2.2.2.2.2.2.2.2.2.2.2.2.2.2.2.2.1 hI K h hl
    | 38, _, ek =>
      refine lv_tableIn (off := 1177) (tgt := 1210) hx hb dL_law_33 hs.1 hs.2 (by rw [ek]; rfl) (by decide) ?_
      exact Lc_38 fx hX hbl hj hL hSa.2.2.2.2.2.2.2.2.2.2.2.2.2.2.2.2.2.2.2.2.2.2.2.2.2.2.2.2.2.2.2.2.2.2.2.2.2.2.1 hI K h hl
    | 39, _, ek =>
      refine lv_tableIn (off := 1190) (tgt := 1223) hx hb dL_law_33 hs.1 hs.2 (by rw [ek]; rfl) (by decide) ?_
      exact Lc_39 fx hX hbl hj hL hSa.2.2.2.2.2.2.2.2.2.2.2.2.2.2.2.2.2.2.2.2.2.2.2.2.2.2.2.2.2.2.2.2.2.2.2.2.2.2.2.1 hI K h hl
    | 40, _, ek =>
      refine lv_tableIn (off := 1203) (tgt := 1236) hx hb dL_law_33 hs.1 hs.2 (by rw [ek]; rfl) (by decide) ?_
      exact Lc_40 fx hX hbl hj hL hSa.2.2.2.2.2.2.2.2.2.2.2.2.2.2.2.2.2.2.2.2.2.2.2.2.2.2.2.2.2.2.2.2.2.2.2.2.2.2.2.2.1 hI K h hl
    | 41, _, ek =>
      refine lv_tableIn (off := 1226) (tgt := 1259) hx hb dL_law_33 hs.1 hs.2 (by rw [ek]; rfl) (by decide) ?_
      exact Lc_41 fx hX hbl hj hL hSa.2.2.2.2.2.2.2.2.2.2.2.2.2.2.2.2.2.2.2.2.2.2.2.2.2.2.2.2.2.2.2.2.2.2.2.2.2.2.2.2.2 hI K h hl
    | k + 42, hk, _ => exact absurd hk (by omega)
end
section
/-! the steps of this law -/
abbrev IV : Nat → LT := fun _ => IVr
theorem RA_0 : RA 0 0 0 (fun _ => 0) (fun _ => 0) (fillF 32 (-1) (fun _ => 0)) (fun _ => 0) 0 0 (fun _ => 0) (fun _ => 0) (fun _ _ => true) :=
  ⟨⟨by omega, rfl, fun g h => absurd h (by omega), fun g h => absurd h (by omega)⟩, ⟨by omega, rfl, fun g h => absurd h (by omega), fun g h => absurd h (by omega)⟩, ⟨by decide, rfl, rfl⟩, fun g h => absurd h (by omega), ⟨0, by decide, rfl, fun g h => absurd h (by omega)⟩, fun j _ h => if_pos h⟩
theorem R1_0 (i : Nat) : R1 0 0 (fun _ => 0) (fun _ => 0) (fun _ => 0) (fun _ => 0) i := ⟨rfl, Or.inl rfl, ⟨0, by omega, rfl, rfl⟩, fun _ _ => rfl⟩
theorem IV_0 : IV 0 0 0 0 0 (fun _ => 0) (fun _ => 0) (fillF 32 (-1) (fun _ => 0)) (fillF 256 (-1) (fun _ => 0)) 0 0 0 (fun _ => 0) (fun _ => 0) (fillF 32 (-1) (fun _ => 0)) (fillF 256 (-1) (fun _ => 0)) 0 0 (-1) 0 0 (fun _ => 0) (fun _ => 0) (fun _ => 0) (fun _ => 0) 0 0 (fun _ => 0) 0 0 (fun _ => 0) 0 0 (fun _ => 0) 0 0 (fun _ => 0) (fun _ => 0) 0 0 0 0 0 0 (fun _ => 0) (fun _ => 0) (fun _ => 0) (fun _ => 0) (fun _ => 0) (fun _ => 0) (fun _ => 0) (fun _ => 0) (fun _ => 0) (fun _ => 0) (fun _ => 0) (fun _ => 0) := ⟨⟨0, 0, fun _ => 0, fun _ => 0, fun _ _ => true, RA_0, KV_new _⟩, ⟨0, 0, fun _ => 0, fun _ => 0, fun _ _ => true, RA_0⟩, rfl, ⟨0, by omega, rfl, rfl, fun j hj => absurd hj (by omega)⟩, ⟨R1_0 0, R1_0 1, R1_0 2, R1_0 3⟩, fun _ _ => rfl⟩
theorem steps {L B : Nat} (_ : L ≤ B) : ∀ j, 6 * j + 6 ≤ L → S_all (IV j) (IV (j + 1)) := fun _ _ => ⟨fun _ _ _ _ _ _ _ _ _ _ _ _ _ _ _ _ _ _ _ _ _ _ _ _ _ _ _ _ _ _ _ _ _ _ _ _ _ _ _ _ _ _ _ _ _ _ _ _ _ _ _ _ _ _ _ h => h, st_guest, st_of, st_cost, st_turn, st_as, st_term, st_feed, st_wipe, st_list, st_now, st_call, st_calls, st_rounds, st_on, st_when, st_ring, st_fewest, st_first, st_settled, st_ith, st_sure, st_basin, st_odds, st_last, st_buys, st_price, st_spoils, st_invites, st_against, st_minds, st_kind, st_sheet, st_write, st_copy, st_lays, st_book, st0_read, st_image, st_undo, st_tear, st_count, st_status⟩
end
