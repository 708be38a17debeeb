/-! the invariant and its steps -/
abbrev IVr : LT := fun v_p1_isKept v_p1_party_size v_p1_party_list v_p1_party_told v_p1_party_kinds v_p1_party_costs v_p1_party_terms v_p1_party_known v_p1_kept_size v_p1_kept_list v_p1_kept_told v_p1_kept_kinds v_p1_kept_costs v_p1_kept_terms _ v_p1_tape_length _ _ _ _ v_p1_tape_bytes _ _ _ v_p1_sheets0_bits v_p1_sheets0_size v_p1_sheets0_numbers v_p1_sheets1_bits v_p1_sheets1_size v_p1_sheets1_numbers v_p1_sheets2_bits v_p1_sheets2_size v_p1_sheets2_numbers v_p1_sheets3_bits v_p1_sheets3_size v_p1_sheets3_numbers v_p1_findings v_p2_isKept v_p2_taped _ _ _ _ v_p2_s v_p2_keptS v_p2_statuses _ v_p2_tape _ _ _ v_p2_bitsOf v_p2_sizeOf v_p2_number _ => (∃ (n l : Nat) (kd cc : Nat → Nat) (Hh : Nat → Nat → Bool), RA v_p1_party_size v_p1_party_list v_p1_party_told v_p1_party_kinds v_p1_party_costs v_p1_party_terms v_p2_s n l kd cc Hh ∧ KV n kd Hh v_p1_party_known) ∧ (∃ (n l : Nat) (kd cc : Nat → Nat) (Hh : Nat → Nat → Bool), RA v_p1_kept_size v_p1_kept_list v_p1_kept_told v_p1_kept_kinds v_p1_kept_costs v_p1_kept_terms v_p2_keptS n l kd cc Hh) ∧ v_p1_isKept = v_p2_isKept ∧ (∃ t, RT v_p1_tape_length v_p1_tape_bytes v_p2_taped v_p2_tape t) ∧ RS v_p1_sheets0_bits v_p1_sheets0_size v_p1_sheets0_numbers v_p1_sheets1_bits v_p1_sheets1_size v_p1_sheets1_numbers v_p1_sheets2_bits v_p1_sheets2_size v_p1_sheets2_numbers v_p1_sheets3_bits v_p1_sheets3_size v_p1_sheets3_numbers v_p2_bitsOf v_p2_sizeOf v_p2_number ∧ FS v_p1_findings v_p2_statuses
theorem Both.step {α κ1 κ2 : Type} {o1 : Option (α × κ1)} {o2 : Option (α × κ2)} {Q P : κ1 → κ2 → Prop} (h : Both o1 o2 Q) (hP : ∀ k1 k2, Q k1 k2 → P k1 k2) : ∃ r1 k1 r2 k2, o1 = some (r1, k1) ∧ o2 = some (r2, k2) ∧ r1 = r2 ∧ P k1 k2 := by
  obtain ⟨r, k1, k2, e1, e2, h⟩ := h
  exact ⟨r, k1, r, k2, e1, e2, rfl, hP k1 k2 h⟩
theorem ex4_step {α κ1 κ2 : Type} {o1 : Option (α × κ1)} {o2 : Option (α × κ2)} {Q P : κ1 → κ2 → Prop} (h : ∃ r1 k1 r2 k2, o1 = some (r1, k1) ∧ o2 = some (r2, k2) ∧ Q k1 k2) (hP : ∀ k1 k2, Q k1 k2 → P k1 k2) : ∃ r1 k1 r2 k2, o1 = some (r1, k1) ∧ o2 = some (r2, k2) ∧ P k1 k2 := by
  obtain ⟨r1, k1, r2, k2, e1, e2, h⟩ := h
  exact ⟨r1, k1, r2, k2, e1, e2, hP k1 k2 h⟩
theorem st_guest : S_guest IVr IVr := by
  intro v_p1_isKept v_p1_party_size v_p1_party_list v_p1_party_told v_p1_party_kinds v_p1_party_costs v_p1_party_terms v_p1_party_known v_p1_kept_size v_p1_kept_list v_p1_kept_told v_p1_kept_kinds v_p1_kept_costs v_p1_kept_terms v_p1_kept_known v_p1_tape_length v_p1_tape_place v_p1_tape_fault v_p1_tape_teller v_p1_tape_word v_p1_tape_bytes v_p1_telephone_queue v_p1_telephone_callsTo v_p1_telephone_firstCalled v_p1_sheets0_bits v_p1_sheets0_size v_p1_sheets0_numbers v_p1_sheets1_bits v_p1_sheets1_size v_p1_sheets1_numbers v_p1_sheets2_bits v_p1_sheets2_size v_p1_sheets2_numbers v_p1_sheets3_bits v_p1_sheets3_size v_p1_sheets3_numbers v_p1_findings v_p2_isKept v_p2_taped v_p2_at v_p2_fault v_p2_laid v_p2_open v_p2_s v_p2_keptS v_p2_statuses v_p2_pile v_p2_tape v_p2_steps v_p2_wish v_p2_mark v_p2_bitsOf v_p2_sizeOf v_p2_number v_p2_moved x1 x2 hI
  obtain ⟨⟨n, l, kd, cc, Hh, R, K⟩, R2, ik, T, H, F⟩ := hI
  refine Both.step (op_guest R K F x1 x2) (fun k1 k2 h => ?_)
  obtain ⟨⟨n, kd, cc, Hh, R, K⟩, F⟩ := h
  exact ⟨⟨n, l, kd, cc, Hh, R, K⟩, R2, ik, T, H, F⟩
theorem st_of : S_of IVr IVr := by
  intro v_p1_isKept v_p1_party_size v_p1_party_list v_p1_party_told v_p1_party_kinds v_p1_party_costs v_p1_party_terms v_p1_party_known v_p1_kept_size v_p1_kept_list v_p1_kept_told v_p1_kept_kinds v_p1_kept_costs v_p1_kept_terms v_p1_kept_known v_p1_tape_length v_p1_tape_place v_p1_tape_fault v_p1_tape_teller v_p1_tape_word v_p1_tape_bytes v_p1_telephone_queue v_p1_telephone_callsTo v_p1_telephone_firstCalled v_p1_sheets0_bits v_p1_sheets0_size v_p1_sheets0_numbers v_p1_sheets1_bits v_p1_sheets1_size v_p1_sheets1_numbers v_p1_sheets2_bits v_p1_sheets2_size v_p1_sheets2_numbers v_p1_sheets3_bits v_p1_sheets3_size v_p1_sheets3_numbers v_p1_findings v_p2_isKept v_p2_taped v_p2_at v_p2_fault v_p2_laid v_p2_open v_p2_s v_p2_keptS v_p2_statuses v_p2_pile v_p2_tape v_p2_steps v_p2_wish v_p2_mark v_p2_bitsOf v_p2_sizeOf v_p2_number v_p2_moved x1 x2 hI
  obtain ⟨⟨n, l, kd, cc, Hh, R, K⟩, R2, ik, T, H, F⟩ := hI
  refine Both.step (op_of R K F x1 x2) (fun k1 k2 h => ?_)
  obtain ⟨K, F⟩ := h
  exact ⟨⟨n, l, kd, cc, Hh, R, K⟩, R2, ik, T, H, F⟩
theorem st_cost : S_cost IVr IVr := by
  intro v_p1_isKept v_p1_party_size v_p1_party_list v_p1_party_told v_p1_party_kinds v_p1_party_costs v_p1_party_terms v_p1_party_known v_p1_kept_size v_p1_kept_list v_p1_kept_told v_p1_kept_kinds v_p1_kept_costs v_p1_kept_terms v_p1_kept_known v_p1_tape_length v_p1_tape_place v_p1_tape_fault v_p1_tape_teller v_p1_tape_word v_p1_tape_bytes v_p1_telephone_queue v_p1_telephone_callsTo v_p1_telephone_firstCalled v_p1_sheets0_bits v_p1_sheets0_size v_p1_sheets0_numbers v_p1_sheets1_bits v_p1_sheets1_size v_p1_sheets1_numbers v_p1_sheets2_bits v_p1_sheets2_size v_p1_sheets2_numbers v_p1_sheets3_bits v_p1_sheets3_size v_p1_sheets3_numbers v_p1_findings v_p2_isKept v_p2_taped v_p2_at v_p2_fault v_p2_laid v_p2_open v_p2_s v_p2_keptS v_p2_statuses v_p2_pile v_p2_tape v_p2_steps v_p2_wish v_p2_mark v_p2_bitsOf v_p2_sizeOf v_p2_number v_p2_moved x1 x2 hI
  obtain ⟨⟨n, l, kd, cc, Hh, R, K⟩, R2, ik, T, H, F⟩ := hI
  refine Both.step (op_cost R F x1 x2) (fun k1 k2 h => ?_)
  obtain ⟨⟨cc, R⟩, F⟩ := h
  exact ⟨⟨n, l, kd, cc, Hh, R, K⟩, R2, ik, T, H, F⟩
theorem st_turn : S_turn IVr IVr := by
  intro v_p1_isKept v_p1_party_size v_p1_party_list v_p1_party_told v_p1_party_kinds v_p1_party_costs v_p1_party_terms v_p1_party_known v_p1_kept_size v_p1_kept_list v_p1_kept_told v_p1_kept_kinds v_p1_kept_costs v_p1_kept_terms v_p1_kept_known v_p1_tape_length v_p1_tape_place v_p1_tape_fault v_p1_tape_teller v_p1_tape_word v_p1_tape_bytes v_p1_telephone_queue v_p1_telephone_callsTo v_p1_telephone_firstCalled v_p1_sheets0_bits v_p1_sheets0_size v_p1_sheets0_numbers v_p1_sheets1_bits v_p1_sheets1_size v_p1_sheets1_numbers v_p1_sheets2_bits v_p1_sheets2_size v_p1_sheets2_numbers v_p1_sheets3_bits v_p1_sheets3_size v_p1_sheets3_numbers v_p1_findings v_p2_isKept v_p2_taped v_p2_at v_p2_fault v_p2_laid v_p2_open v_p2_s v_p2_keptS v_p2_statuses v_p2_pile v_p2_tape v_p2_steps v_p2_wish v_p2_mark v_p2_bitsOf v_p2_sizeOf v_p2_number v_p2_moved x1 x2 hI
  obtain ⟨⟨n, l, kd, cc, Hh, R, K⟩, R2, ik, T, H, F⟩ := hI
  refine Both.step (op_turn R K F x1 x2) (fun k1 k2 h => ?_)
  obtain ⟨⟨kd, R, K⟩, F⟩ := h
  exact ⟨⟨n, l, kd, cc, Hh, R, K⟩, R2, ik, T, H, F⟩
theorem st_as : S_as IVr IVr := by
  intro v_p1_isKept v_p1_party_size v_p1_party_list v_p1_party_told v_p1_party_kinds v_p1_party_costs v_p1_party_terms v_p1_party_known v_p1_kept_size v_p1_kept_list v_p1_kept_told v_p1_kept_kinds v_p1_kept_costs v_p1_kept_terms v_p1_kept_known v_p1_tape_length v_p1_tape_place v_p1_tape_fault v_p1_tape_teller v_p1_tape_word v_p1_tape_bytes v_p1_telephone_queue v_p1_telephone_callsTo v_p1_telephone_firstCalled v_p1_sheets0_bits v_p1_sheets0_size v_p1_sheets0_numbers v_p1_sheets1_bits v_p1_sheets1_size v_p1_sheets1_numbers v_p1_sheets2_bits v_p1_sheets2_size v_p1_sheets2_numbers v_p1_sheets3_bits v_p1_sheets3_size v_p1_sheets3_numbers v_p1_findings v_p2_isKept v_p2_taped v_p2_at v_p2_fault v_p2_laid v_p2_open v_p2_s v_p2_keptS v_p2_statuses v_p2_pile v_p2_tape v_p2_steps v_p2_wish v_p2_mark v_p2_bitsOf v_p2_sizeOf v_p2_number v_p2_moved x1 x2 hI
  obtain ⟨⟨n, l, kd, cc, Hh, R, K⟩, R2, ik, T, H, F⟩ := hI
  refine Both.step (op_as R F x1 x2) (fun k1 k2 h => ?_)
  have F := h
  exact ⟨⟨n, l, kd, cc, Hh, R, K⟩, R2, ik, T, H, F⟩
theorem st_term : S_term IVr IVr := by
  intro v_p1_isKept v_p1_party_size v_p1_party_list v_p1_party_told v_p1_party_kinds v_p1_party_costs v_p1_party_terms v_p1_party_known v_p1_kept_size v_p1_kept_list v_p1_kept_told v_p1_kept_kinds v_p1_kept_costs v_p1_kept_terms v_p1_kept_known v_p1_tape_length v_p1_tape_place v_p1_tape_fault v_p1_tape_teller v_p1_tape_word v_p1_tape_bytes v_p1_telephone_queue v_p1_telephone_callsTo v_p1_telephone_firstCalled v_p1_sheets0_bits v_p1_sheets0_size v_p1_sheets0_numbers v_p1_sheets1_bits v_p1_sheets1_size v_p1_sheets1_numbers v_p1_sheets2_bits v_p1_sheets2_size v_p1_sheets2_numbers v_p1_sheets3_bits v_p1_sheets3_size v_p1_sheets3_numbers v_p1_findings v_p2_isKept v_p2_taped v_p2_at v_p2_fault v_p2_laid v_p2_open v_p2_s v_p2_keptS v_p2_statuses v_p2_pile v_p2_tape v_p2_steps v_p2_wish v_p2_mark v_p2_bitsOf v_p2_sizeOf v_p2_number v_p2_moved x1 hI
  obtain ⟨⟨n, l, kd, cc, Hh, R, K⟩, R2, ik, ⟨t, T⟩, H, F⟩ := hI
  refine Both.step (op_term R K T F x1) (fun k1 k2 h => ?_)
  obtain ⟨⟨Hh, R, K⟩, T, F⟩ := h
  exact ⟨⟨n, l, kd, cc, Hh, R, K⟩, R2, ik, T, H, F⟩
theorem st_feed : S_feed IVr IVr := by
  intro v_p1_isKept v_p1_party_size v_p1_party_list v_p1_party_told v_p1_party_kinds v_p1_party_costs v_p1_party_terms v_p1_party_known v_p1_kept_size v_p1_kept_list v_p1_kept_told v_p1_kept_kinds v_p1_kept_costs v_p1_kept_terms v_p1_kept_known v_p1_tape_length v_p1_tape_place v_p1_tape_fault v_p1_tape_teller v_p1_tape_word v_p1_tape_bytes v_p1_telephone_queue v_p1_telephone_callsTo v_p1_telephone_firstCalled v_p1_sheets0_bits v_p1_sheets0_size v_p1_sheets0_numbers v_p1_sheets1_bits v_p1_sheets1_size v_p1_sheets1_numbers v_p1_sheets2_bits v_p1_sheets2_size v_p1_sheets2_numbers v_p1_sheets3_bits v_p1_sheets3_size v_p1_sheets3_numbers v_p1_findings v_p2_isKept v_p2_taped v_p2_at v_p2_fault v_p2_laid v_p2_open v_p2_s v_p2_keptS v_p2_statuses v_p2_pile v_p2_tape v_p2_steps v_p2_wish v_p2_mark v_p2_bitsOf v_p2_sizeOf v_p2_number v_p2_moved x1 x2 hI
  obtain ⟨⟨n, l, kd, cc, Hh, R, K⟩, R2, ik, ⟨t, T⟩, H, F⟩ := hI
  refine Both.step (op_feed T F x1 x2) (fun k1 k2 h => ?_)
  obtain ⟨⟨t, T⟩, F⟩ := h
  exact ⟨⟨n, l, kd, cc, Hh, R, K⟩, R2, ik, ⟨t, T⟩, H, F⟩
theorem st_wipe : S_wipe IVr IVr := by
  intro v_p1_isKept v_p1_party_size v_p1_party_list v_p1_party_told v_p1_party_kinds v_p1_party_costs v_p1_party_terms v_p1_party_known v_p1_kept_size v_p1_kept_list v_p1_kept_told v_p1_kept_kinds v_p1_kept_costs v_p1_kept_terms v_p1_kept_known v_p1_tape_length v_p1_tape_place v_p1_tape_fault v_p1_tape_teller v_p1_tape_word v_p1_tape_bytes v_p1_telephone_queue v_p1_telephone_callsTo v_p1_telephone_firstCalled v_p1_sheets0_bits v_p1_sheets0_size v_p1_sheets0_numbers v_p1_sheets1_bits v_p1_sheets1_size v_p1_sheets1_numbers v_p1_sheets2_bits v_p1_sheets2_size v_p1_sheets2_numbers v_p1_sheets3_bits v_p1_sheets3_size v_p1_sheets3_numbers v_p1_findings v_p2_isKept v_p2_taped v_p2_at v_p2_fault v_p2_laid v_p2_open v_p2_s v_p2_keptS v_p2_statuses v_p2_pile v_p2_tape v_p2_steps v_p2_wish v_p2_mark v_p2_bitsOf v_p2_sizeOf v_p2_number v_p2_moved hI
  obtain ⟨⟨n, l, kd, cc, Hh, R, K⟩, R2, ik, T, H, F⟩ := hI
  obtain ⟨t, -, T1, T2, -⟩ := T
  exact ⟨_, _, _, _, rfl, rfl, T1.trans T2.symm, ⟨⟨n, l, kd, cc, Hh, R, K⟩, R2, ik, ⟨0, by omega, rfl, rfl, fun j hj => absurd hj (by omega)⟩, H, F⟩⟩
theorem st_list : S_list IVr IVr := by
  intro v_p1_isKept v_p1_party_size v_p1_party_list v_p1_party_told v_p1_party_kinds v_p1_party_costs v_p1_party_terms v_p1_party_known v_p1_kept_size v_p1_kept_list v_p1_kept_told v_p1_kept_kinds v_p1_kept_costs v_p1_kept_terms v_p1_kept_known v_p1_tape_length v_p1_tape_place v_p1_tape_fault v_p1_tape_teller v_p1_tape_word v_p1_tape_bytes v_p1_telephone_queue v_p1_telephone_callsTo v_p1_telephone_firstCalled v_p1_sheets0_bits v_p1_sheets0_size v_p1_sheets0_numbers v_p1_sheets1_bits v_p1_sheets1_size v_p1_sheets1_numbers v_p1_sheets2_bits v_p1_sheets2_size v_p1_sheets2_numbers v_p1_sheets3_bits v_p1_sheets3_size v_p1_sheets3_numbers v_p1_findings v_p2_isKept v_p2_taped v_p2_at v_p2_fault v_p2_laid v_p2_open v_p2_s v_p2_keptS v_p2_statuses v_p2_pile v_p2_tape v_p2_steps v_p2_wish v_p2_mark v_p2_bitsOf v_p2_sizeOf v_p2_number v_p2_moved x1 hI
  obtain ⟨⟨n, l, kd, cc, Hh, R, K⟩, R2, ik, T, H, F⟩ := hI
  refine Both.step (op_list R F x1) (fun k1 k2 h => ?_)
  obtain ⟨⟨l, R⟩, F⟩ := h
  exact ⟨⟨n, l, kd, cc, Hh, R, K⟩, R2, ik, T, H, F⟩
theorem st_now : S_now IVr IVr := by
  intro v_p1_isKept v_p1_party_size v_p1_party_list v_p1_party_told v_p1_party_kinds v_p1_party_costs v_p1_party_terms v_p1_party_known v_p1_kept_size v_p1_kept_list v_p1_kept_told v_p1_kept_kinds v_p1_kept_costs v_p1_kept_terms v_p1_kept_known v_p1_tape_length v_p1_tape_place v_p1_tape_fault v_p1_tape_teller v_p1_tape_word v_p1_tape_bytes v_p1_telephone_queue v_p1_telephone_callsTo v_p1_telephone_firstCalled v_p1_sheets0_bits v_p1_sheets0_size v_p1_sheets0_numbers v_p1_sheets1_bits v_p1_sheets1_size v_p1_sheets1_numbers v_p1_sheets2_bits v_p1_sheets2_size v_p1_sheets2_numbers v_p1_sheets3_bits v_p1_sheets3_size v_p1_sheets3_numbers v_p1_findings v_p2_isKept v_p2_taped v_p2_at v_p2_fault v_p2_laid v_p2_open v_p2_s v_p2_keptS v_p2_statuses v_p2_pile v_p2_tape v_p2_steps v_p2_wish v_p2_mark v_p2_bitsOf v_p2_sizeOf v_p2_number v_p2_moved x1 hI
  obtain ⟨⟨n, l, kd, cc, Hh, R, K⟩, R2, ik, T, H, F⟩ := hI
  refine Both.step (op_now R K F x1) (fun k1 k2 h => ?_)
  obtain ⟨K, F⟩ := h
  exact ⟨⟨n, l, kd, cc, Hh, R, K⟩, R2, ik, T, H, F⟩
theorem st_call : S_call IVr IVr := by
  intro v_p1_isKept v_p1_party_size v_p1_party_list v_p1_party_told v_p1_party_kinds v_p1_party_costs v_p1_party_terms v_p1_party_known v_p1_kept_size v_p1_kept_list v_p1_kept_told v_p1_kept_kinds v_p1_kept_costs v_p1_kept_terms v_p1_kept_known v_p1_tape_length v_p1_tape_place v_p1_tape_fault v_p1_tape_teller v_p1_tape_word v_p1_tape_bytes v_p1_telephone_queue v_p1_telephone_callsTo v_p1_telephone_firstCalled v_p1_sheets0_bits v_p1_sheets0_size v_p1_sheets0_numbers v_p1_sheets1_bits v_p1_sheets1_size v_p1_sheets1_numbers v_p1_sheets2_bits v_p1_sheets2_size v_p1_sheets2_numbers v_p1_sheets3_bits v_p1_sheets3_size v_p1_sheets3_numbers v_p1_findings v_p2_isKept v_p2_taped v_p2_at v_p2_fault v_p2_laid v_p2_open v_p2_s v_p2_keptS v_p2_statuses v_p2_pile v_p2_tape v_p2_steps v_p2_wish v_p2_mark v_p2_bitsOf v_p2_sizeOf v_p2_number v_p2_moved x1 hI
  obtain ⟨⟨n, l, kd, cc, Hh, R, K⟩, R2, ik, T, H, F⟩ := hI
  refine Both.step (op_call R K F x1) (fun k1 k2 h => ?_)
  obtain ⟨⟨l, R⟩, K, F⟩ := h
  exact ⟨⟨n, l, kd, cc, Hh, R, K⟩, R2, ik, T, H, F⟩
theorem st_calls : S_calls IVr IVr := by
  intro v_p1_isKept v_p1_party_size v_p1_party_list v_p1_party_told v_p1_party_kinds v_p1_party_costs v_p1_party_terms v_p1_party_known v_p1_kept_size v_p1_kept_list v_p1_kept_told v_p1_kept_kinds v_p1_kept_costs v_p1_kept_terms v_p1_kept_known v_p1_tape_length v_p1_tape_place v_p1_tape_fault v_p1_tape_teller v_p1_tape_word v_p1_tape_bytes v_p1_telephone_queue v_p1_telephone_callsTo v_p1_telephone_firstCalled v_p1_sheets0_bits v_p1_sheets0_size v_p1_sheets0_numbers v_p1_sheets1_bits v_p1_sheets1_size v_p1_sheets1_numbers v_p1_sheets2_bits v_p1_sheets2_size v_p1_sheets2_numbers v_p1_sheets3_bits v_p1_sheets3_size v_p1_sheets3_numbers v_p1_findings v_p2_isKept v_p2_taped v_p2_at v_p2_fault v_p2_laid v_p2_open v_p2_s v_p2_keptS v_p2_statuses v_p2_pile v_p2_tape v_p2_steps v_p2_wish v_p2_mark v_p2_bitsOf v_p2_sizeOf v_p2_number v_p2_moved x1 hI
  obtain ⟨⟨n, l, kd, cc, Hh, R, K⟩, R2, ik, T, H, F⟩ := hI
  refine Both.step (op_calls R K F x1) (fun k1 k2 h => ?_)
  obtain ⟨⟨l, R⟩, K, F⟩ := h
  exact ⟨⟨n, l, kd, cc, Hh, R, K⟩, R2, ik, T, H, F⟩
theorem st_rounds : S_rounds IVr IVr := by
  intro v_p1_isKept v_p1_party_size v_p1_party_list v_p1_party_told v_p1_party_kinds v_p1_party_costs v_p1_party_terms v_p1_party_known v_p1_kept_size v_p1_kept_list v_p1_kept_told v_p1_kept_kinds v_p1_kept_costs v_p1_kept_terms v_p1_kept_known v_p1_tape_length v_p1_tape_place v_p1_tape_fault v_p1_tape_teller v_p1_tape_word v_p1_tape_bytes v_p1_telephone_queue v_p1_telephone_callsTo v_p1_telephone_firstCalled v_p1_sheets0_bits v_p1_sheets0_size v_p1_sheets0_numbers v_p1_sheets1_bits v_p1_sheets1_size v_p1_sheets1_numbers v_p1_sheets2_bits v_p1_sheets2_size v_p1_sheets2_numbers v_p1_sheets3_bits v_p1_sheets3_size v_p1_sheets3_numbers v_p1_findings v_p2_isKept v_p2_taped v_p2_at v_p2_fault v_p2_laid v_p2_open v_p2_s v_p2_keptS v_p2_statuses v_p2_pile v_p2_tape v_p2_steps v_p2_wish v_p2_mark v_p2_bitsOf v_p2_sizeOf v_p2_number v_p2_moved x1 hI
  obtain ⟨⟨n, l, kd, cc, Hh, R, K⟩, R2, ik, T, H, F⟩ := hI
  refine Both.step (op_rounds R K F x1) (fun k1 k2 h => ?_)
  obtain ⟨⟨l, R⟩, K, F⟩ := h
  exact ⟨⟨n, l, kd, cc, Hh, R, K⟩, R2, ik, T, H, F⟩
theorem st_on : S_on IVr IVr := by
  intro v_p1_isKept v_p1_party_size v_p1_party_list v_p1_party_told v_p1_party_kinds v_p1_party_costs v_p1_party_terms v_p1_party_known v_p1_kept_size v_p1_kept_list v_p1_kept_told v_p1_kept_kinds v_p1_kept_costs v_p1_kept_terms v_p1_kept_known v_p1_tape_length v_p1_tape_place v_p1_tape_fault v_p1_tape_teller v_p1_tape_word v_p1_tape_bytes v_p1_telephone_queue v_p1_telephone_callsTo v_p1_telephone_firstCalled v_p1_sheets0_bits v_p1_sheets0_size v_p1_sheets0_numbers v_p1_sheets1_bits v_p1_sheets1_size v_p1_sheets1_numbers v_p1_sheets2_bits v_p1_sheets2_size v_p1_sheets2_numbers v_p1_sheets3_bits v_p1_sheets3_size v_p1_sheets3_numbers v_p1_findings v_p2_isKept v_p2_taped v_p2_at v_p2_fault v_p2_laid v_p2_open v_p2_s v_p2_keptS v_p2_statuses v_p2_pile v_p2_tape v_p2_steps v_p2_wish v_p2_mark v_p2_bitsOf v_p2_sizeOf v_p2_number v_p2_moved x1 hI
  obtain ⟨⟨n, l, kd, cc, Hh, R, K⟩, R2, ik, T, H, F⟩ := hI
  refine Both.step (op_on R K F x1) (fun k1 k2 h => ?_)
  obtain ⟨K, F⟩ := h
  exact ⟨⟨n, l, kd, cc, Hh, R, K⟩, R2, ik, T, H, F⟩
theorem st_when : S_when IVr IVr := by
  intro v_p1_isKept v_p1_party_size v_p1_party_list v_p1_party_told v_p1_party_kinds v_p1_party_costs v_p1_party_terms v_p1_party_known v_p1_kept_size v_p1_kept_list v_p1_kept_told v_p1_kept_kinds v_p1_kept_costs v_p1_kept_terms v_p1_kept_known v_p1_tape_length v_p1_tape_place v_p1_tape_fault v_p1_tape_teller v_p1_tape_word v_p1_tape_bytes v_p1_telephone_queue v_p1_telephone_callsTo v_p1_telephone_firstCalled v_p1_sheets0_bits v_p1_sheets0_size v_p1_sheets0_numbers v_p1_sheets1_bits v_p1_sheets1_size v_p1_sheets1_numbers v_p1_sheets2_bits v_p1_sheets2_size v_p1_sheets2_numbers v_p1_sheets3_bits v_p1_sheets3_size v_p1_sheets3_numbers v_p1_findings v_p2_isKept v_p2_taped v_p2_at v_p2_fault v_p2_laid v_p2_open v_p2_s v_p2_keptS v_p2_statuses v_p2_pile v_p2_tape v_p2_steps v_p2_wish v_p2_mark v_p2_bitsOf v_p2_sizeOf v_p2_number v_p2_moved hI
  obtain ⟨⟨n, l, kd, cc, Hh, R, K⟩, R2, ik, T, H, F⟩ := hI
  refine Both.step (op_when R K F) (fun k1 k2 h => ?_)
  obtain ⟨K, F⟩ := h
  exact ⟨⟨n, l, kd, cc, Hh, R, K⟩, R2, ik, T, H, F⟩
theorem st_ring : S_ring IVr IVr := by
  intro v_p1_isKept v_p1_party_size v_p1_party_list v_p1_party_told v_p1_party_kinds v_p1_party_costs v_p1_party_terms v_p1_party_known v_p1_kept_size v_p1_kept_list v_p1_kept_told v_p1_kept_kinds v_p1_kept_costs v_p1_kept_terms v_p1_kept_known v_p1_tape_length v_p1_tape_place v_p1_tape_fault v_p1_tape_teller v_p1_tape_word v_p1_tape_bytes v_p1_telephone_queue v_p1_telephone_callsTo v_p1_telephone_firstCalled v_p1_sheets0_bits v_p1_sheets0_size v_p1_sheets0_numbers v_p1_sheets1_bits v_p1_sheets1_size v_p1_sheets1_numbers v_p1_sheets2_bits v_p1_sheets2_size v_p1_sheets2_numbers v_p1_sheets3_bits v_p1_sheets3_size v_p1_sheets3_numbers v_p1_findings v_p2_isKept v_p2_taped v_p2_at v_p2_fault v_p2_laid v_p2_open v_p2_s v_p2_keptS v_p2_statuses v_p2_pile v_p2_tape v_p2_steps v_p2_wish v_p2_mark v_p2_bitsOf v_p2_sizeOf v_p2_number v_p2_moved x1 hI
  obtain ⟨⟨n, l, kd, cc, Hh, R, K⟩, R2, ik, T, H, F⟩ := hI
  refine Both.step (op_ring R K F x1) (fun k1 k2 h => ?_)
  obtain ⟨K, F⟩ := h
  exact ⟨⟨n, l, kd, cc, Hh, R, K⟩, R2, ik, T, H, F⟩
theorem st_fewest : S_fewest IVr IVr := by
  intro v_p1_isKept v_p1_party_size v_p1_party_list v_p1_party_told v_p1_party_kinds v_p1_party_costs v_p1_party_terms v_p1_party_known v_p1_kept_size v_p1_kept_list v_p1_kept_told v_p1_kept_kinds v_p1_kept_costs v_p1_kept_terms v_p1_kept_known v_p1_tape_length v_p1_tape_place v_p1_tape_fault v_p1_tape_teller v_p1_tape_word v_p1_tape_bytes v_p1_telephone_queue v_p1_telephone_callsTo v_p1_telephone_firstCalled v_p1_sheets0_bits v_p1_sheets0_size v_p1_sheets0_numbers v_p1_sheets1_bits v_p1_sheets1_size v_p1_sheets1_numbers v_p1_sheets2_bits v_p1_sheets2_size v_p1_sheets2_numbers v_p1_sheets3_bits v_p1_sheets3_size v_p1_sheets3_numbers v_p1_findings v_p2_isKept v_p2_taped v_p2_at v_p2_fault v_p2_laid v_p2_open v_p2_s v_p2_keptS v_p2_statuses v_p2_pile v_p2_tape v_p2_steps v_p2_wish v_p2_mark v_p2_bitsOf v_p2_sizeOf v_p2_number v_p2_moved hI
  obtain ⟨⟨n, l, kd, cc, Hh, R, K⟩, R2, ik, T, H, F⟩ := hI
  refine Both.step (op_fewest R K F) (fun k1 k2 h => ?_)
  obtain ⟨K, F⟩ := h
  exact ⟨⟨n, l, kd, cc, Hh, R, K⟩, R2, ik, T, H, F⟩
theorem st_first : S_first IVr IVr := by
  intro v_p1_isKept v_p1_party_size v_p1_party_list v_p1_party_told v_p1_party_kinds v_p1_party_costs v_p1_party_terms v_p1_party_known v_p1_kept_size v_p1_kept_list v_p1_kept_told v_p1_kept_kinds v_p1_kept_costs v_p1_kept_terms v_p1_kept_known v_p1_tape_length v_p1_tape_place v_p1_tape_fault v_p1_tape_teller v_p1_tape_word v_p1_tape_bytes v_p1_telephone_queue v_p1_telephone_callsTo v_p1_telephone_firstCalled v_p1_sheets0_bits v_p1_sheets0_size v_p1_sheets0_numbers v_p1_sheets1_bits v_p1_sheets1_size v_p1_sheets1_numbers v_p1_sheets2_bits v_p1_sheets2_size v_p1_sheets2_numbers v_p1_sheets3_bits v_p1_sheets3_size v_p1_sheets3_numbers v_p1_findings v_p2_isKept v_p2_taped v_p2_at v_p2_fault v_p2_laid v_p2_open v_p2_s v_p2_keptS v_p2_statuses v_p2_pile v_p2_tape v_p2_steps v_p2_wish v_p2_mark v_p2_bitsOf v_p2_sizeOf v_p2_number v_p2_moved hI
  obtain ⟨⟨n, l, kd, cc, Hh, R, K⟩, R2, ik, T, H, F⟩ := hI
  refine Both.step (op_first R K F) (fun k1 k2 h => ?_)
  obtain ⟨K, F⟩ := h
  exact ⟨⟨n, l, kd, cc, Hh, R, K⟩, R2, ik, T, H, F⟩
theorem st_settled : S_settled IVr IVr := by
  intro v_p1_isKept v_p1_party_size v_p1_party_list v_p1_party_told v_p1_party_kinds v_p1_party_costs v_p1_party_terms v_p1_party_known v_p1_kept_size v_p1_kept_list v_p1_kept_told v_p1_kept_kinds v_p1_kept_costs v_p1_kept_terms v_p1_kept_known v_p1_tape_length v_p1_tape_place v_p1_tape_fault v_p1_tape_teller v_p1_tape_word v_p1_tape_bytes v_p1_telephone_queue v_p1_telephone_callsTo v_p1_telephone_firstCalled v_p1_sheets0_bits v_p1_sheets0_size v_p1_sheets0_numbers v_p1_sheets1_bits v_p1_sheets1_size v_p1_sheets1_numbers v_p1_sheets2_bits v_p1_sheets2_size v_p1_sheets2_numbers v_p1_sheets3_bits v_p1_sheets3_size v_p1_sheets3_numbers v_p1_findings v_p2_isKept v_p2_taped v_p2_at v_p2_fault v_p2_laid v_p2_open v_p2_s v_p2_keptS v_p2_statuses v_p2_pile v_p2_tape v_p2_steps v_p2_wish v_p2_mark v_p2_bitsOf v_p2_sizeOf v_p2_number v_p2_moved hI
  obtain ⟨⟨n, l, kd, cc, Hh, R, K⟩, R2, ik, T, H, F⟩ := hI
  refine Both.step (op_settled R K) (fun k1 k2 h => ?_)
  have K := h
  exact ⟨⟨n, l, kd, cc, Hh, R, K⟩, R2, ik, T, H, F⟩
theorem st_ith : S_ith IVr IVr := by
  intro v_p1_isKept v_p1_party_size v_p1_party_list v_p1_party_told v_p1_party_kinds v_p1_party_costs v_p1_party_terms v_p1_party_known v_p1_kept_size v_p1_kept_list v_p1_kept_told v_p1_kept_kinds v_p1_kept_costs v_p1_kept_terms v_p1_kept_known v_p1_tape_length v_p1_tape_place v_p1_tape_fault v_p1_tape_teller v_p1_tape_word v_p1_tape_bytes v_p1_telephone_queue v_p1_telephone_callsTo v_p1_telephone_firstCalled v_p1_sheets0_bits v_p1_sheets0_size v_p1_sheets0_numbers v_p1_sheets1_bits v_p1_sheets1_size v_p1_sheets1_numbers v_p1_sheets2_bits v_p1_sheets2_size v_p1_sheets2_numbers v_p1_sheets3_bits v_p1_sheets3_size v_p1_sheets3_numbers v_p1_findings v_p2_isKept v_p2_taped v_p2_at v_p2_fault v_p2_laid v_p2_open v_p2_s v_p2_keptS v_p2_statuses v_p2_pile v_p2_tape v_p2_steps v_p2_wish v_p2_mark v_p2_bitsOf v_p2_sizeOf v_p2_number v_p2_moved x1 hI
  obtain ⟨⟨n, l, kd, cc, Hh, R, K⟩, R2, ik, T, H, F⟩ := hI
  refine Both.step (op_ith R K F x1) (fun k1 k2 h => ?_)
  obtain ⟨K, F⟩ := h
  exact ⟨⟨n, l, kd, cc, Hh, R, K⟩, R2, ik, T, H, F⟩
theorem st_sure : S_sure IVr IVr := by
  intro v_p1_isKept v_p1_party_size v_p1_party_list v_p1_party_told v_p1_party_kinds v_p1_party_costs v_p1_party_terms v_p1_party_known v_p1_kept_size v_p1_kept_list v_p1_kept_told v_p1_kept_kinds v_p1_kept_costs v_p1_kept_terms v_p1_kept_known v_p1_tape_length v_p1_tape_place v_p1_tape_fault v_p1_tape_teller v_p1_tape_word v_p1_tape_bytes v_p1_telephone_queue v_p1_telephone_callsTo v_p1_telephone_firstCalled v_p1_sheets0_bits v_p1_sheets0_size v_p1_sheets0_numbers v_p1_sheets1_bits v_p1_sheets1_size v_p1_sheets1_numbers v_p1_sheets2_bits v_p1_sheets2_size v_p1_sheets2_numbers v_p1_sheets3_bits v_p1_sheets3_size v_p1_sheets3_numbers v_p1_findings v_p2_isKept v_p2_taped v_p2_at v_p2_fault v_p2_laid v_p2_open v_p2_s v_p2_keptS v_p2_statuses v_p2_pile v_p2_tape v_p2_steps v_p2_wish v_p2_mark v_p2_bitsOf v_p2_sizeOf v_p2_number v_p2_moved x1 hI
  obtain ⟨⟨n, l, kd, cc, Hh, R, K⟩, R2, ik, T, H, F⟩ := hI
  refine Both.step (op_sure R K F x1) (fun k1 k2 h => ?_)
  obtain ⟨K, F⟩ := h
  exact ⟨⟨n, l, kd, cc, Hh, R, K⟩, R2, ik, T, H, F⟩
theorem st_basin : S_basin IVr IVr := by
  intro v_p1_isKept v_p1_party_size v_p1_party_list v_p1_party_told v_p1_party_kinds v_p1_party_costs v_p1_party_terms v_p1_party_known v_p1_kept_size v_p1_kept_list v_p1_kept_told v_p1_kept_kinds v_p1_kept_costs v_p1_kept_terms v_p1_kept_known v_p1_tape_length v_p1_tape_place v_p1_tape_fault v_p1_tape_teller v_p1_tape_word v_p1_tape_bytes v_p1_telephone_queue v_p1_telephone_callsTo v_p1_telephone_firstCalled v_p1_sheets0_bits v_p1_sheets0_size v_p1_sheets0_numbers v_p1_sheets1_bits v_p1_sheets1_size v_p1_sheets1_numbers v_p1_sheets2_bits v_p1_sheets2_size v_p1_sheets2_numbers v_p1_sheets3_bits v_p1_sheets3_size v_p1_sheets3_numbers v_p1_findings v_p2_isKept v_p2_taped v_p2_at v_p2_fault v_p2_laid v_p2_open v_p2_s v_p2_keptS v_p2_statuses v_p2_pile v_p2_tape v_p2_steps v_p2_wish v_p2_mark v_p2_bitsOf v_p2_sizeOf v_p2_number v_p2_moved hI
  obtain ⟨⟨n, l, kd, cc, Hh, R, K⟩, R2, ik, T, H, F⟩ := hI
  refine Both.step (op_basin R K) (fun k1 k2 h => ?_)
  have K := h
  exact ⟨⟨n, l, kd, cc, Hh, R, K⟩, R2, ik, T, H, F⟩
theorem st_odds : S_odds IVr IVr := by
  intro v_p1_isKept v_p1_party_size v_p1_party_list v_p1_party_told v_p1_party_kinds v_p1_party_costs v_p1_party_terms v_p1_party_known v_p1_kept_size v_p1_kept_list v_p1_kept_told v_p1_kept_kinds v_p1_kept_costs v_p1_kept_terms v_p1_kept_known v_p1_tape_length v_p1_tape_place v_p1_tape_fault v_p1_tape_teller v_p1_tape_word v_p1_tape_bytes v_p1_telephone_queue v_p1_telephone_callsTo v_p1_telephone_firstCalled v_p1_sheets0_bits v_p1_sheets0_size v_p1_sheets0_numbers v_p1_sheets1_bits v_p1_sheets1_size v_p1_sheets1_numbers v_p1_sheets2_bits v_p1_sheets2_size v_p1_sheets2_numbers v_p1_sheets3_bits v_p1_sheets3_size v_p1_sheets3_numbers v_p1_findings v_p2_isKept v_p2_taped v_p2_at v_p2_fault v_p2_laid v_p2_open v_p2_s v_p2_keptS v_p2_statuses v_p2_pile v_p2_tape v_p2_steps v_p2_wish v_p2_mark v_p2_bitsOf v_p2_sizeOf v_p2_number v_p2_moved x1 x2 hI
  obtain ⟨⟨n, l, kd, cc, Hh, R, K⟩, R2, ik, T, H, F⟩ := hI
  refine Both.step (op_odds R K F x1 x2) (fun k1 k2 h => ?_)
  obtain ⟨K, F⟩ := h
  exact ⟨⟨n, l, kd, cc, Hh, R, K⟩, R2, ik, T, H, F⟩
theorem st_last : S_last IVr IVr := by
  intro v_p1_isKept v_p1_party_size v_p1_party_list v_p1_party_told v_p1_party_kinds v_p1_party_costs v_p1_party_terms v_p1_party_known v_p1_kept_size v_p1_kept_list v_p1_kept_told v_p1_kept_kinds v_p1_kept_costs v_p1_kept_terms v_p1_kept_known v_p1_tape_length v_p1_tape_place v_p1_tape_fault v_p1_tape_teller v_p1_tape_word v_p1_tape_bytes v_p1_telephone_queue v_p1_telephone_callsTo v_p1_telephone_firstCalled v_p1_sheets0_bits v_p1_sheets0_size v_p1_sheets0_numbers v_p1_sheets1_bits v_p1_sheets1_size v_p1_sheets1_numbers v_p1_sheets2_bits v_p1_sheets2_size v_p1_sheets2_numbers v_p1_sheets3_bits v_p1_sheets3_size v_p1_sheets3_numbers v_p1_findings v_p2_isKept v_p2_taped v_p2_at v_p2_fault v_p2_laid v_p2_open v_p2_s v_p2_keptS v_p2_statuses v_p2_pile v_p2_tape v_p2_steps v_p2_wish v_p2_mark v_p2_bitsOf v_p2_sizeOf v_p2_number v_p2_moved x1 hI
  obtain ⟨⟨n, l, kd, cc, Hh, R, K⟩, R2, ik, T, H, F⟩ := hI
  refine Both.step (op_last R K F x1) (fun k1 k2 h => ?_)
  obtain ⟨K, F⟩ := h
  exact ⟨⟨n, l, kd, cc, Hh, R, K⟩, R2, ik, T, H, F⟩
theorem st_buys : S_buys IVr IVr := by
  intro v_p1_isKept v_p1_party_size v_p1_party_list v_p1_party_told v_p1_party_kinds v_p1_party_costs v_p1_party_terms v_p1_party_known v_p1_kept_size v_p1_kept_list v_p1_kept_told v_p1_kept_kinds v_p1_kept_costs v_p1_kept_terms v_p1_kept_known v_p1_tape_length v_p1_tape_place v_p1_tape_fault v_p1_tape_teller v_p1_tape_word v_p1_tape_bytes v_p1_telephone_queue v_p1_telephone_callsTo v_p1_telephone_firstCalled v_p1_sheets0_bits v_p1_sheets0_size v_p1_sheets0_numbers v_p1_sheets1_bits v_p1_sheets1_size v_p1_sheets1_numbers v_p1_sheets2_bits v_p1_sheets2_size v_p1_sheets2_numbers v_p1_sheets3_bits v_p1_sheets3_size v_p1_sheets3_numbers v_p1_findings v_p2_isKept v_p2_taped v_p2_at v_p2_fault v_p2_laid v_p2_open v_p2_s v_p2_keptS v_p2_statuses v_p2_pile v_p2_tape v_p2_steps v_p2_wish v_p2_mark v_p2_bitsOf v_p2_sizeOf v_p2_number v_p2_moved x1 hI
  obtain ⟨⟨n, l, kd, cc, Hh, R, K⟩, R2, ik, T, H, F⟩ := hI
  refine Both.step (op_buys R K F x1) (fun k1 k2 h => ?_)
  obtain ⟨K, F⟩ := h
  exact ⟨⟨n, l, kd, cc, Hh, R, K⟩, R2, ik, T, H, F⟩
theorem st_price : S_price IVr IVr := by
  intro v_p1_isKept v_p1_party_size v_p1_party_list v_p1_party_told v_p1_party_kinds v_p1_party_costs v_p1_party_terms v_p1_party_known v_p1_kept_size v_p1_kept_list v_p1_kept_told v_p1_kept_kinds v_p1_kept_costs v_p1_kept_terms v_p1_kept_known v_p1_tape_length v_p1_tape_place v_p1_tape_fault v_p1_tape_teller v_p1_tape_word v_p1_tape_bytes v_p1_telephone_queue v_p1_telephone_callsTo v_p1_telephone_firstCalled v_p1_sheets0_bits v_p1_sheets0_size v_p1_sheets0_numbers v_p1_sheets1_bits v_p1_sheets1_size v_p1_sheets1_numbers v_p1_sheets2_bits v_p1_sheets2_size v_p1_sheets2_numbers v_p1_sheets3_bits v_p1_sheets3_size v_p1_sheets3_numbers v_p1_findings v_p2_isKept v_p2_taped v_p2_at v_p2_fault v_p2_laid v_p2_open v_p2_s v_p2_keptS v_p2_statuses v_p2_pile v_p2_tape v_p2_steps v_p2_wish v_p2_mark v_p2_bitsOf v_p2_sizeOf v_p2_number v_p2_moved x1 hI
  obtain ⟨⟨n, l, kd, cc, Hh, R, K⟩, R2, ik, T, H, F⟩ := hI
  refine Both.step (op_price R K F x1) (fun k1 k2 h => ?_)
  obtain ⟨K, F⟩ := h
  exact ⟨⟨n, l, kd, cc, Hh, R, K⟩, R2, ik, T, H, F⟩
theorem st_spoils : S_spoils IVr IVr := by
  intro v_p1_isKept v_p1_party_size v_p1_party_list v_p1_party_told v_p1_party_kinds v_p1_party_costs v_p1_party_terms v_p1_party_known v_p1_kept_size v_p1_kept_list v_p1_kept_told v_p1_kept_kinds v_p1_kept_costs v_p1_kept_terms v_p1_kept_known v_p1_tape_length v_p1_tape_place v_p1_tape_fault v_p1_tape_teller v_p1_tape_word v_p1_tape_bytes v_p1_telephone_queue v_p1_telephone_callsTo v_p1_telephone_firstCalled v_p1_sheets0_bits v_p1_sheets0_size v_p1_sheets0_numbers v_p1_sheets1_bits v_p1_sheets1_size v_p1_sheets1_numbers v_p1_sheets2_bits v_p1_sheets2_size v_p1_sheets2_numbers v_p1_sheets3_bits v_p1_sheets3_size v_p1_sheets3_numbers v_p1_findings v_p2_isKept v_p2_taped v_p2_at v_p2_fault v_p2_laid v_p2_open v_p2_s v_p2_keptS v_p2_statuses v_p2_pile v_p2_tape v_p2_steps v_p2_wish v_p2_mark v_p2_bitsOf v_p2_sizeOf v_p2_number v_p2_moved hI
  obtain ⟨⟨n, l, kd, cc, Hh, R, K⟩, R2, ik, T, H, F⟩ := hI
  refine Both.step (op_spoils R K F) (fun k1 k2 h => ?_)
  obtain ⟨K, F⟩ := h
  exact ⟨⟨n, l, kd, cc, Hh, R, K⟩, R2, ik, T, H, F⟩
theorem st_invites : S_invites IVr IVr := by
  intro v_p1_isKept v_p1_party_size v_p1_party_list v_p1_party_told v_p1_party_kinds v_p1_party_costs v_p1_party_terms v_p1_party_known v_p1_kept_size v_p1_kept_list v_p1_kept_told v_p1_kept_kinds v_p1_kept_costs v_p1_kept_terms v_p1_kept_known v_p1_tape_length v_p1_tape_place v_p1_tape_fault v_p1_tape_teller v_p1_tape_word v_p1_tape_bytes v_p1_telephone_queue v_p1_telephone_callsTo v_p1_telephone_firstCalled v_p1_sheets0_bits v_p1_sheets0_size v_p1_sheets0_numbers v_p1_sheets1_bits v_p1_sheets1_size v_p1_sheets1_numbers v_p1_sheets2_bits v_p1_sheets2_size v_p1_sheets2_numbers v_p1_sheets3_bits v_p1_sheets3_size v_p1_sheets3_numbers v_p1_findings v_p2_isKept v_p2_taped v_p2_at v_p2_fault v_p2_laid v_p2_open v_p2_s v_p2_keptS v_p2_statuses v_p2_pile v_p2_tape v_p2_steps v_p2_wish v_p2_mark v_p2_bitsOf v_p2_sizeOf v_p2_number v_p2_moved x1 x2 hI
  obtain ⟨⟨n, l, kd, cc, Hh, R, K⟩, R2, ik, T, H, F⟩ := hI
  refine Both.step (op_invites R K F x1 x2) (fun k1 k2 h => ?_)
  obtain ⟨K, F⟩ := h
  exact ⟨⟨n, l, kd, cc, Hh, R, K⟩, R2, ik, T, H, F⟩
theorem st_against : S_against IVr IVr := by
  intro v_p1_isKept v_p1_party_size v_p1_party_list v_p1_party_told v_p1_party_kinds v_p1_party_costs v_p1_party_terms v_p1_party_known v_p1_kept_size v_p1_kept_list v_p1_kept_told v_p1_kept_kinds v_p1_kept_costs v_p1_kept_terms v_p1_kept_known v_p1_tape_length v_p1_tape_place v_p1_tape_fault v_p1_tape_teller v_p1_tape_word v_p1_tape_bytes v_p1_telephone_queue v_p1_telephone_callsTo v_p1_telephone_firstCalled v_p1_sheets0_bits v_p1_sheets0_size v_p1_sheets0_numbers v_p1_sheets1_bits v_p1_sheets1_size v_p1_sheets1_numbers v_p1_sheets2_bits v_p1_sheets2_size v_p1_sheets2_numbers v_p1_sheets3_bits v_p1_sheets3_size v_p1_sheets3_numbers v_p1_findings v_p2_isKept v_p2_taped v_p2_at v_p2_fault v_p2_laid v_p2_open v_p2_s v_p2_keptS v_p2_statuses v_p2_pile v_p2_tape v_p2_steps v_p2_wish v_p2_mark v_p2_bitsOf v_p2_sizeOf v_p2_number v_p2_moved x1 x2 hI
  obtain ⟨⟨n, l, kd, cc, Hh, R, K⟩, R2, ik, T, H, F⟩ := hI
  refine Both.step (op_against R K F x1 x2) (fun k1 k2 h => ?_)
  obtain ⟨K, F⟩ := h
  exact ⟨⟨n, l, kd, cc, Hh, R, K⟩, R2, ik, T, H, F⟩
theorem st_minds : S_minds IVr IVr := by
  intro v_p1_isKept v_p1_party_size v_p1_party_list v_p1_party_told v_p1_party_kinds v_p1_party_costs v_p1_party_terms v_p1_party_known v_p1_kept_size v_p1_kept_list v_p1_kept_told v_p1_kept_kinds v_p1_kept_costs v_p1_kept_terms v_p1_kept_known v_p1_tape_length v_p1_tape_place v_p1_tape_fault v_p1_tape_teller v_p1_tape_word v_p1_tape_bytes v_p1_telephone_queue v_p1_telephone_callsTo v_p1_telephone_firstCalled v_p1_sheets0_bits v_p1_sheets0_size v_p1_sheets0_numbers v_p1_sheets1_bits v_p1_sheets1_size v_p1_sheets1_numbers v_p1_sheets2_bits v_p1_sheets2_size v_p1_sheets2_numbers v_p1_sheets3_bits v_p1_sheets3_size v_p1_sheets3_numbers v_p1_findings v_p2_isKept v_p2_taped v_p2_at v_p2_fault v_p2_laid v_p2_open v_p2_s v_p2_keptS v_p2_statuses v_p2_pile v_p2_tape v_p2_steps v_p2_wish v_p2_mark v_p2_bitsOf v_p2_sizeOf v_p2_number v_p2_moved x1 hI
  obtain ⟨⟨n, l, kd, cc, Hh, R, K⟩, R2, ik, T, H, F⟩ := hI
  refine Both.step (op_minds R K F x1) (fun k1 k2 h => ?_)
  obtain ⟨K, F⟩ := h
  exact ⟨⟨n, l, kd, cc, Hh, R, K⟩, R2, ik, T, H, F⟩
theorem st_kind : S_kind IVr IVr := by
  intro v_p1_isKept v_p1_party_size v_p1_party_list v_p1_party_told v_p1_party_kinds v_p1_party_costs v_p1_party_terms v_p1_party_known v_p1_kept_size v_p1_kept_list v_p1_kept_told v_p1_kept_kinds v_p1_kept_costs v_p1_kept_terms v_p1_kept_known v_p1_tape_length v_p1_tape_place v_p1_tape_fault v_p1_tape_teller v_p1_tape_word v_p1_tape_bytes v_p1_telephone_queue v_p1_telephone_callsTo v_p1_telephone_firstCalled v_p1_sheets0_bits v_p1_sheets0_size v_p1_sheets0_numbers v_p1_sheets1_bits v_p1_sheets1_size v_p1_sheets1_numbers v_p1_sheets2_bits v_p1_sheets2_size v_p1_sheets2_numbers v_p1_sheets3_bits v_p1_sheets3_size v_p1_sheets3_numbers v_p1_findings v_p2_isKept v_p2_taped v_p2_at v_p2_fault v_p2_laid v_p2_open v_p2_s v_p2_keptS v_p2_statuses v_p2_pile v_p2_tape v_p2_steps v_p2_wish v_p2_mark v_p2_bitsOf v_p2_sizeOf v_p2_number v_p2_moved x1 hI
  obtain ⟨⟨n, l, kd, cc, Hh, R, K⟩, R2, ik, T, H, F⟩ := hI
  refine Both.step (op_kind R K F x1) (fun k1 k2 h => ?_)
  obtain ⟨K, e, F⟩ := h
  exact ⟨⟨n, l, kd, cc, Hh, by rw [e]; exact R, K⟩, R2, ik, T, H, F⟩
theorem st_sheet : S_sheet IVr IVr := by
  intro v_p1_isKept v_p1_party_size v_p1_party_list v_p1_party_told v_p1_party_kinds v_p1_party_costs v_p1_party_terms v_p1_party_known v_p1_kept_size v_p1_kept_list v_p1_kept_told v_p1_kept_kinds v_p1_kept_costs v_p1_kept_terms v_p1_kept_known v_p1_tape_length v_p1_tape_place v_p1_tape_fault v_p1_tape_teller v_p1_tape_word v_p1_tape_bytes v_p1_telephone_queue v_p1_telephone_callsTo v_p1_telephone_firstCalled v_p1_sheets0_bits v_p1_sheets0_size v_p1_sheets0_numbers v_p1_sheets1_bits v_p1_sheets1_size v_p1_sheets1_numbers v_p1_sheets2_bits v_p1_sheets2_size v_p1_sheets2_numbers v_p1_sheets3_bits v_p1_sheets3_size v_p1_sheets3_numbers v_p1_findings v_p2_isKept v_p2_taped v_p2_at v_p2_fault v_p2_laid v_p2_open v_p2_s v_p2_keptS v_p2_statuses v_p2_pile v_p2_tape v_p2_steps v_p2_wish v_p2_mark v_p2_bitsOf v_p2_sizeOf v_p2_number v_p2_moved x1 x2 x3 hI
  obtain ⟨⟨n, l, kd, cc, Hh, R, K⟩, R2, ik, T, H, F⟩ := hI
  refine Both.step (op_sheet H F x1 x2 x3) (fun k1 k2 h => ?_)
  obtain ⟨H, F⟩ := h
  exact ⟨⟨n, l, kd, cc, Hh, R, K⟩, R2, ik, T, H, F⟩
theorem st_write : S_write IVr IVr := by
  intro v_p1_isKept v_p1_party_size v_p1_party_list v_p1_party_told v_p1_party_kinds v_p1_party_costs v_p1_party_terms v_p1_party_known v_p1_kept_size v_p1_kept_list v_p1_kept_told v_p1_kept_kinds v_p1_kept_costs v_p1_kept_terms v_p1_kept_known v_p1_tape_length v_p1_tape_place v_p1_tape_fault v_p1_tape_teller v_p1_tape_word v_p1_tape_bytes v_p1_telephone_queue v_p1_telephone_callsTo v_p1_telephone_firstCalled v_p1_sheets0_bits v_p1_sheets0_size v_p1_sheets0_numbers v_p1_sheets1_bits v_p1_sheets1_size v_p1_sheets1_numbers v_p1_sheets2_bits v_p1_sheets2_size v_p1_sheets2_numbers v_p1_sheets3_bits v_p1_sheets3_size v_p1_sheets3_numbers v_p1_findings v_p2_isKept v_p2_taped v_p2_at v_p2_fault v_p2_laid v_p2_open v_p2_s v_p2_keptS v_p2_statuses v_p2_pile v_p2_tape v_p2_steps v_p2_wish v_p2_mark v_p2_bitsOf v_p2_sizeOf v_p2_number v_p2_moved x1 x2 x3 hI
  obtain ⟨⟨n, l, kd, cc, Hh, R, K⟩, R2, ik, T, H, F⟩ := hI
  refine Both.step (op_write H F x1 x2 x3) (fun k1 k2 h => ?_)
  obtain ⟨H, F⟩ := h
  exact ⟨⟨n, l, kd, cc, Hh, R, K⟩, R2, ik, T, H, F⟩
theorem st_copy : S_copy IVr IVr := by
  intro v_p1_isKept v_p1_party_size v_p1_party_list v_p1_party_told v_p1_party_kinds v_p1_party_costs v_p1_party_terms v_p1_party_known v_p1_kept_size v_p1_kept_list v_p1_kept_told v_p1_kept_kinds v_p1_kept_costs v_p1_kept_terms v_p1_kept_known v_p1_tape_length v_p1_tape_place v_p1_tape_fault v_p1_tape_teller v_p1_tape_word v_p1_tape_bytes v_p1_telephone_queue v_p1_telephone_callsTo v_p1_telephone_firstCalled v_p1_sheets0_bits v_p1_sheets0_size v_p1_sheets0_numbers v_p1_sheets1_bits v_p1_sheets1_size v_p1_sheets1_numbers v_p1_sheets2_bits v_p1_sheets2_size v_p1_sheets2_numbers v_p1_sheets3_bits v_p1_sheets3_size v_p1_sheets3_numbers v_p1_findings v_p2_isKept v_p2_taped v_p2_at v_p2_fault v_p2_laid v_p2_open v_p2_s v_p2_keptS v_p2_statuses v_p2_pile v_p2_tape v_p2_steps v_p2_wish v_p2_mark v_p2_bitsOf v_p2_sizeOf v_p2_number v_p2_moved x1 x2 x3 x4 x5 hI
  obtain ⟨⟨n, l, kd, cc, Hh, R, K⟩, R2, ik, T, H, F⟩ := hI
  refine Both.step (op_copy H F x1 x2 x3 x4 x5) (fun k1 k2 h => ?_)
  obtain ⟨H, F⟩ := h
  exact ⟨⟨n, l, kd, cc, Hh, R, K⟩, R2, ik, T, H, F⟩
theorem st_lays : S_lays IVr IVr := by
  intro v_p1_isKept v_p1_party_size v_p1_party_list v_p1_party_told v_p1_party_kinds v_p1_party_costs v_p1_party_terms v_p1_party_known v_p1_kept_size v_p1_kept_list v_p1_kept_told v_p1_kept_kinds v_p1_kept_costs v_p1_kept_terms v_p1_kept_known v_p1_tape_length v_p1_tape_place v_p1_tape_fault v_p1_tape_teller v_p1_tape_word v_p1_tape_bytes v_p1_telephone_queue v_p1_telephone_callsTo v_p1_telephone_firstCalled v_p1_sheets0_bits v_p1_sheets0_size v_p1_sheets0_numbers v_p1_sheets1_bits v_p1_sheets1_size v_p1_sheets1_numbers v_p1_sheets2_bits v_p1_sheets2_size v_p1_sheets2_numbers v_p1_sheets3_bits v_p1_sheets3_size v_p1_sheets3_numbers v_p1_findings v_p2_isKept v_p2_taped v_p2_at v_p2_fault v_p2_laid v_p2_open v_p2_s v_p2_keptS v_p2_statuses v_p2_pile v_p2_tape v_p2_steps v_p2_wish v_p2_mark v_p2_bitsOf v_p2_sizeOf v_p2_number v_p2_moved x1 hI
  obtain ⟨⟨n, l, kd, cc, Hh, R, K⟩, R2, ik, T, H, F⟩ := hI
  refine Both.step (op_lays R H F x1) (fun k1 k2 h => ?_)
  obtain ⟨⟨l, R⟩, F⟩ := h
  exact ⟨⟨n, l, kd, cc, Hh, R, K⟩, R2, ik, T, H, F⟩
theorem st_book : S_book IVr IVr := by
  intro v_p1_isKept v_p1_party_size v_p1_party_list v_p1_party_told v_p1_party_kinds v_p1_party_costs v_p1_party_terms v_p1_party_known v_p1_kept_size v_p1_kept_list v_p1_kept_told v_p1_kept_kinds v_p1_kept_costs v_p1_kept_terms v_p1_kept_known v_p1_tape_length v_p1_tape_place v_p1_tape_fault v_p1_tape_teller v_p1_tape_word v_p1_tape_bytes v_p1_telephone_queue v_p1_telephone_callsTo v_p1_telephone_firstCalled v_p1_sheets0_bits v_p1_sheets0_size v_p1_sheets0_numbers v_p1_sheets1_bits v_p1_sheets1_size v_p1_sheets1_numbers v_p1_sheets2_bits v_p1_sheets2_size v_p1_sheets2_numbers v_p1_sheets3_bits v_p1_sheets3_size v_p1_sheets3_numbers v_p1_findings v_p2_isKept v_p2_taped v_p2_at v_p2_fault v_p2_laid v_p2_open v_p2_s v_p2_keptS v_p2_statuses v_p2_pile v_p2_tape v_p2_steps v_p2_wish v_p2_mark v_p2_bitsOf v_p2_sizeOf v_p2_number v_p2_moved x1 hI
  obtain ⟨⟨n, l, kd, cc, Hh, R, K⟩, R2, ik, T, H, F⟩ := hI
  refine Both.step (op_book R K H F x1) (fun k1 k2 h => ?_)
  obtain ⟨H, K, F⟩ := h
  exact ⟨⟨n, l, kd, cc, Hh, R, K⟩, R2, ik, T, H, F⟩
theorem st0_read : S0_read IVr IVr := by
  intro v_p1_isKept v_p1_party_size v_p1_party_list v_p1_party_told v_p1_party_kinds v_p1_party_costs v_p1_party_terms v_p1_party_known v_p1_kept_size v_p1_kept_list v_p1_kept_told v_p1_kept_kinds v_p1_kept_costs v_p1_kept_terms v_p1_kept_known v_p1_tape_length v_p1_tape_place v_p1_tape_fault v_p1_tape_teller v_p1_tape_word v_p1_tape_bytes v_p1_telephone_queue v_p1_telephone_callsTo v_p1_telephone_firstCalled v_p1_sheets0_bits v_p1_sheets0_size v_p1_sheets0_numbers v_p1_sheets1_bits v_p1_sheets1_size v_p1_sheets1_numbers v_p1_sheets2_bits v_p1_sheets2_size v_p1_sheets2_numbers v_p1_sheets3_bits v_p1_sheets3_size v_p1_sheets3_numbers v_p1_findings v_p2_isKept v_p2_taped v_p2_at v_p2_fault v_p2_laid v_p2_open v_p2_s v_p2_keptS v_p2_statuses v_p2_pile v_p2_tape v_p2_steps v_p2_wish v_p2_mark v_p2_bitsOf v_p2_sizeOf v_p2_number v_p2_moved x1 hI
  obtain ⟨⟨n, l, kd, cc, Hh, R, K⟩, R2, ik, T, H, F⟩ := hI
  refine ex4_step (op_read R K H F x1) (fun k1 k2 h => ?_)
  obtain ⟨K, e, F⟩ := h
  exact ⟨⟨n, l, kd, cc, Hh, by rw [e]; exact R, K⟩, R2, ik, T, H, F⟩
theorem st_image : S_image IVr IVr := by
  intro v_p1_isKept v_p1_party_size v_p1_party_list v_p1_party_told v_p1_party_kinds v_p1_party_costs v_p1_party_terms v_p1_party_known v_p1_kept_size v_p1_kept_list v_p1_kept_told v_p1_kept_kinds v_p1_kept_costs v_p1_kept_terms v_p1_kept_known v_p1_tape_length v_p1_tape_place v_p1_tape_fault v_p1_tape_teller v_p1_tape_word v_p1_tape_bytes v_p1_telephone_queue v_p1_telephone_callsTo v_p1_telephone_firstCalled v_p1_sheets0_bits v_p1_sheets0_size v_p1_sheets0_numbers v_p1_sheets1_bits v_p1_sheets1_size v_p1_sheets1_numbers v_p1_sheets2_bits v_p1_sheets2_size v_p1_sheets2_numbers v_p1_sheets3_bits v_p1_sheets3_size v_p1_sheets3_numbers v_p1_findings v_p2_isKept v_p2_taped v_p2_at v_p2_fault v_p2_laid v_p2_open v_p2_s v_p2_keptS v_p2_statuses v_p2_pile v_p2_tape v_p2_steps v_p2_wish v_p2_mark v_p2_bitsOf v_p2_sizeOf v_p2_number v_p2_moved hI
  obtain ⟨⟨n, l, kd, cc, Hh, R, K⟩, R2, ik, T, H, F⟩ := hI
  refine Both.step (op_image R) (fun k1 k2 h => ?_)
  exact ⟨⟨n, l, kd, cc, Hh, R, K⟩, ⟨n, l, kd, cc, Hh, h.2.2⟩, h.1.trans h.2.1.symm, T, H, F⟩
theorem st_undo : S_undo IVr IVr := by
  intro v_p1_isKept v_p1_party_size v_p1_party_list v_p1_party_told v_p1_party_kinds v_p1_party_costs v_p1_party_terms v_p1_party_known v_p1_kept_size v_p1_kept_list v_p1_kept_told v_p1_kept_kinds v_p1_kept_costs v_p1_kept_terms v_p1_kept_known v_p1_tape_length v_p1_tape_place v_p1_tape_fault v_p1_tape_teller v_p1_tape_word v_p1_tape_bytes v_p1_telephone_queue v_p1_telephone_callsTo v_p1_telephone_firstCalled v_p1_sheets0_bits v_p1_sheets0_size v_p1_sheets0_numbers v_p1_sheets1_bits v_p1_sheets1_size v_p1_sheets1_numbers v_p1_sheets2_bits v_p1_sheets2_size v_p1_sheets2_numbers v_p1_sheets3_bits v_p1_sheets3_size v_p1_sheets3_numbers v_p1_findings v_p2_isKept v_p2_taped v_p2_at v_p2_fault v_p2_laid v_p2_open v_p2_s v_p2_keptS v_p2_statuses v_p2_pile v_p2_tape v_p2_steps v_p2_wish v_p2_mark v_p2_bitsOf v_p2_sizeOf v_p2_number v_p2_moved hI
  obtain ⟨⟨n, l, kd, cc, Hh, R, K⟩, ⟨_, _, _, _, _, R2⟩, ik, T, H, F⟩ := hI
  subst ik
  refine Both.step (op_undo R K R2 F) (fun k1 k2 h => ?_)
  obtain ⟨⟨n, l, kd, cc, Hh, R, K⟩, F⟩ := h
  exact ⟨⟨n, l, kd, cc, Hh, R, K⟩, ⟨_, _, _, _, _, R2⟩, rfl, T, H, F⟩
theorem st_tear : S_tear IVr IVr := by
  intro v_p1_isKept v_p1_party_size v_p1_party_list v_p1_party_told v_p1_party_kinds v_p1_party_costs v_p1_party_terms v_p1_party_known v_p1_kept_size v_p1_kept_list v_p1_kept_told v_p1_kept_kinds v_p1_kept_costs v_p1_kept_terms v_p1_kept_known v_p1_tape_length v_p1_tape_place v_p1_tape_fault v_p1_tape_teller v_p1_tape_word v_p1_tape_bytes v_p1_telephone_queue v_p1_telephone_callsTo v_p1_telephone_firstCalled v_p1_sheets0_bits v_p1_sheets0_size v_p1_sheets0_numbers v_p1_sheets1_bits v_p1_sheets1_size v_p1_sheets1_numbers v_p1_sheets2_bits v_p1_sheets2_size v_p1_sheets2_numbers v_p1_sheets3_bits v_p1_sheets3_size v_p1_sheets3_numbers v_p1_findings v_p2_isKept v_p2_taped v_p2_at v_p2_fault v_p2_laid v_p2_open v_p2_s v_p2_keptS v_p2_statuses v_p2_pile v_p2_tape v_p2_steps v_p2_wish v_p2_mark v_p2_bitsOf v_p2_sizeOf v_p2_number v_p2_moved hI
  obtain ⟨⟨n, l, kd, cc, Hh, R, K⟩, R2, ik, T, H, F⟩ := hI
  subst ik
  refine Both.step (op_tear _) (fun k1 k2 h => ?_)
  exact ⟨⟨n, l, kd, cc, Hh, R, K⟩, R2, h.1.trans h.2.symm, T, H, F⟩
theorem st_count : S_count IVr IVr := by
  intro v_p1_isKept v_p1_party_size v_p1_party_list v_p1_party_told v_p1_party_kinds v_p1_party_costs v_p1_party_terms v_p1_party_known v_p1_kept_size v_p1_kept_list v_p1_kept_told v_p1_kept_kinds v_p1_kept_costs v_p1_kept_terms v_p1_kept_known v_p1_tape_length v_p1_tape_place v_p1_tape_fault v_p1_tape_teller v_p1_tape_word v_p1_tape_bytes v_p1_telephone_queue v_p1_telephone_callsTo v_p1_telephone_firstCalled v_p1_sheets0_bits v_p1_sheets0_size v_p1_sheets0_numbers v_p1_sheets1_bits v_p1_sheets1_size v_p1_sheets1_numbers v_p1_sheets2_bits v_p1_sheets2_size v_p1_sheets2_numbers v_p1_sheets3_bits v_p1_sheets3_size v_p1_sheets3_numbers v_p1_findings v_p2_isKept v_p2_taped v_p2_at v_p2_fault v_p2_laid v_p2_open v_p2_s v_p2_keptS v_p2_statuses v_p2_pile v_p2_tape v_p2_steps v_p2_wish v_p2_mark v_p2_bitsOf v_p2_sizeOf v_p2_number v_p2_moved x1 hI
  obtain ⟨⟨n, l, kd, cc, Hh, R, K⟩, R2, ik, ⟨t, T⟩, H, F⟩ := hI
  refine Both.step (op_count R F (T.2.1.trans T.2.2.1.symm) x1) (fun k1 k2 h => ?_)
  have F := h
  exact ⟨⟨n, l, kd, cc, Hh, R, K⟩, R2, ik, ⟨t, T⟩, H, F⟩
theorem st_status : S_status IVr IVr := by
  intro v_p1_isKept v_p1_party_size v_p1_party_list v_p1_party_told v_p1_party_kinds v_p1_party_costs v_p1_party_terms v_p1_party_known v_p1_kept_size v_p1_kept_list v_p1_kept_told v_p1_kept_kinds v_p1_kept_costs v_p1_kept_terms v_p1_kept_known v_p1_tape_length v_p1_tape_place v_p1_tape_fault v_p1_tape_teller v_p1_tape_word v_p1_tape_bytes v_p1_telephone_queue v_p1_telephone_callsTo v_p1_telephone_firstCalled v_p1_sheets0_bits v_p1_sheets0_size v_p1_sheets0_numbers v_p1_sheets1_bits v_p1_sheets1_size v_p1_sheets1_numbers v_p1_sheets2_bits v_p1_sheets2_size v_p1_sheets2_numbers v_p1_sheets3_bits v_p1_sheets3_size v_p1_sheets3_numbers v_p1_findings v_p2_isKept v_p2_taped v_p2_at v_p2_fault v_p2_laid v_p2_open v_p2_s v_p2_keptS v_p2_statuses v_p2_pile v_p2_tape v_p2_steps v_p2_wish v_p2_mark v_p2_bitsOf v_p2_sizeOf v_p2_number v_p2_moved x1 hI
  obtain ⟨⟨n, l, kd, cc, Hh, R, K⟩, R2, ik, T, H, F⟩ := hI
  refine Both.step (op_status F x1) (fun k1 k2 h => ?_)
  have F := h
  exact ⟨⟨n, l, kd, cc, Hh, R, K⟩, R2, ik, T, H, F⟩
