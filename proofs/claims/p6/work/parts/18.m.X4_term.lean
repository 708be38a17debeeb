/-! X4_term -/
abbrev wX4_term (cI cJ cZ cS : ClassId) (a_t a_party a_party_kinds a_party_costs a_party_terms a_party_known a_kept a_tape a_tape_bytes a_telephone a_sheets a_findings : Nat) (v_isKept : Int32) (v_party_size : Int32) (v_party_list : Int32) (v_party_told : Int32) (v_party_terms : Nat → Int64) (v_party_known : Nat → Int32) (v_tape_length : Int32) (v_tape_place : Int32) (v_tape_fault : Int32) (v_tape_teller : Int32) (v_tape_word : Int32) (v_tape_bytes : Nat → Int32) (v_findings : Nat → Int32) : va_W := [(a_t, .inr (4, [.ref a_party, .ref a_kept, .int v_isKept, .ref a_tape, .ref a_telephone, .ref a_sheets, .ref a_findings])), (a_party, .inr (0, [.int v_party_size, .int v_party_list, .int v_party_told, .ref a_party_kinds, .ref a_party_costs, .ref a_party_terms, .ref a_party_known])), (a_party_terms, .inl (cJ, 32, .inr (.inl v_party_terms))), (a_party_known, .inl (cI, 256, .inl v_party_known)), (a_tape, .inr (2, [.ref a_tape_bytes, .int v_tape_length, .int v_tape_place, .int v_tape_fault, .int v_tape_teller, .int v_tape_word])), (a_tape_bytes, .inl (cI, 60, .inl v_tape_bytes)), (a_findings, .inl (cI, 7, .inl v_findings))]
abbrev rX4_term : Room := { frames := 31, cells := 0, slots := 0, locals := 898 }
def fX4_term_87 (v_party_size : Int32) (v_tape_bytes : Nat → Int32) (v_party_told : Int32) (v_party_terms : Nat → Int64) (v_party_known : Nat → Int32) (v_tape_length : Int32) (v_tape_place : Int32) (v_tape_fault : Int32) (v_tape_teller : Int32) (v_tape_word : Int32) (v_findings : Nat → Int32) (y4 : Int32) : Option (Int32 × Int32 × (Nat → Int64) × (Nat → Int32) × Int32 × Int32 × Int32 × Int32 × Int32 × (Nat → Int32)) :=
  (if (0 : Int32) ≤ y4 then (
  some ((-1) - y4, (v_party_told, v_party_terms, v_party_known, 0, v_tape_place, v_tape_fault, v_tape_teller, v_tape_word, v_findings)))
  else (
  some (1, (v_party_told, v_party_terms, v_party_known, 0, v_tape_place, v_tape_fault, v_tape_teller, v_tape_word, v_findings))))
set_option maxRecDepth 100000 in
set_option maxHeartbeats 4000000 in
theorem LX4_term_87 {p : Program} {l : Launch} {e : Env} {s : State} {m : MethodId} {args : Array Value} {below : List Frame} {meth : Method} {c : Code} {D : va_G} {cI cJ cZ cS : ClassId} {tb : Nat} {A : Nat → Prop} {a_t a_party a_party_kinds a_party_costs a_party_terms a_party_known a_kept a_tape a_tape_bytes a_telephone a_sheets a_findings : Nat} {v_isKept : Int32} {v_party_size : Int32} {v_party_list : Int32} {v_tape_bytes : Nat → Int32} {rr : Int32} {kk' : Int32 × (Nat → Int64) × (Nat → Int32) × Int32 × Int32 × Int32 × Int32 × Int32 × (Nat → Int32)} (fx : q_Fx p s m args meth c cX4_term 6 RX4 (some .int) D cI cJ cZ cS tb A) : ∀ {v_party_told : Int32} {v_party_terms : Nat → Int64} {v_party_known : Nat → Int32} {v_tape_length : Int32} {v_tape_place : Int32} {v_tape_fault : Int32} {v_tape_teller : Int32} {v_tape_word : Int32} {v_findings : Nat → Int32} {y4 : Int32} {H : Heap} {locs : List Loc} {ls : Array Slot}, q_H D A s (wX4_term cI cJ cZ cS a_t a_party a_party_kinds a_party_costs a_party_terms a_party_known a_kept a_tape a_tape_bytes a_telephone a_sheets a_findings v_isKept v_party_size v_party_list v_party_told v_party_terms v_party_known v_tape_length v_tape_place v_tape_fault v_tape_teller v_tape_word v_tape_bytes v_findings) H locs → lv_has ls 6 [(0, .ref a_t), (4, .int y4)] → fX4_term_87 v_party_size v_tape_bytes v_party_told v_party_terms v_party_known v_tape_length v_tape_place v_tape_fault v_tape_teller v_tape_word v_findings y4 = some (rr, kk') → W p l e rX4_term s m args below meth c H locs 0 0 (MQ below (q_Ri D rr A ((fun k : Int32 × (Nat → Int64) × (Nat → Int32) × Int32 × Int32 × Int32 × Int32 × Int32 × (Nat → Int32) => (wX4_term cI cJ cZ cS a_t a_party a_party_kinds a_party_costs a_party_terms a_party_known a_kept a_tape a_tape_bytes a_telephone a_sheets a_findings v_isKept v_party_size v_party_list k.1 k.2.1 k.2.2.1 k.2.2.2.1 k.2.2.2.2.1 k.2.2.2.2.2.1 k.2.2.2.2.2.2.1 k.2.2.2.2.2.2.2.1 v_tape_bytes k.2.2.2.2.2.2.2.2)) kk')) args s 0 0 A) (F0 m 87 ls []) := by
  intro v_party_told v_party_terms v_party_known v_tape_length v_tape_place v_tape_fault v_tape_teller v_tape_word v_findings y4 H locs ls h hl hf
  have hx := fx.1
  have hb := fx.2.1
  unfold fX4_term_87 at hf
  refine lv_aload_n hx hb dX4_term_87 rfl (lv_at hl 0 rfl) ?_
  refine q_get (v := .ref a_tape) fx inX4 h 0 rfl rfl 3 (by decide) k_177 rfl dX4_term_88 ?_
  refine lv_iconst (v := 0) hx hb dX4_term_91 (by decide) ?_
  refine q_putN (v := .int 0) (ws' := (wX4_term cI cJ cZ cS a_t a_party a_party_kinds a_party_costs a_party_terms a_party_known a_kept a_tape a_tape_bytes a_telephone a_sheets a_findings v_isKept v_party_size v_party_list v_party_told v_party_terms v_party_known 0 v_tape_place v_tape_fault v_tape_teller v_tape_word v_tape_bytes v_findings)) fx inX2 tyX2 tyX2_ok nmX2 h 4 rfl rfl 1 (by decide) nf_7 rfl rfl rfl (Nat.le_of_ble_eq_true rfl) rfl dX4_term_92 (fun H locs h => ?_)
  refine lv_iload hx hb dX4_term_95 (lv_at hl 1 rfl) ?_
  refine lv_if_ge (tgt := 104) hx hb dX4_term_97 (by decide) (fun c1 => ?_) (fun c1 => ?_)
  · have hf := it_t c1 hf
    refine lv_iconst (v := -1) hx hb dX4_term_104 (by decide) ?_
    refine lv_iload hx hb dX4_term_105 (lv_at hl 1 rfl) ?_
    refine lv_isub hx hb dX4_term_107 ?_
    exact q_reti (fun k : Int32 × (Nat → Int64) × (Nat → Int32) × Int32 × Int32 × Int32 × Int32 × Int32 × (Nat → Int32) => (wX4_term cI cJ cZ cS a_t a_party a_party_kinds a_party_costs a_party_terms a_party_known a_kept a_tape a_tape_bytes a_telephone a_sheets a_findings v_isKept v_party_size v_party_list k.1 k.2.1 k.2.2.1 k.2.2.2.1 k.2.2.2.2.1 k.2.2.2.2.2.1 k.2.2.2.2.2.2.1 k.2.2.2.2.2.2.2.1 v_tape_bytes k.2.2.2.2.2.2.2.2)) fx hf h dX4_term_108
  have hf := it_f c1 hf
  refine lv_iconst (v := 1) hx hb dX4_term_100 (by decide) ?_
  refine lv_goto (tgt := 108) hx hb dX4_term_101 (by decide) ?_
  exact q_reti (fun k : Int32 × (Nat → Int64) × (Nat → Int32) × Int32 × Int32 × Int32 × Int32 × Int32 × (Nat → Int32) => (wX4_term cI cJ cZ cS a_t a_party a_party_kinds a_party_costs a_party_terms a_party_known a_kept a_tape a_tape_bytes a_telephone a_sheets a_findings v_isKept v_party_size v_party_list k.1 k.2.1 k.2.2.1 k.2.2.2.1 k.2.2.2.2.1 k.2.2.2.2.2.1 k.2.2.2.2.2.2.1 k.2.2.2.2.2.2.2.1 v_tape_bytes k.2.2.2.2.2.2.2.2)) fx hf h dX4_term_108
def fX4_term_55 (v_party_size : Int32) (v_tape_bytes : Nat → Int32) (ag55 : Int32 → (Nat → Int64) → (Nat → Int32) → Int32 → Int32 → Int32 → Int32 → Int32 → (Nat → Int32) → Int32 → Int32 → Int32 → Option (Int32 × Int32 × (Nat → Int64) × (Nat → Int32) × Int32 × Int32 × Int32 × Int32 × Int32 × (Nat → Int32))) (v_party_told : Int32) (v_party_terms : Nat → Int64) (v_party_known : Nat → Int32) (v_tape_length : Int32) (v_tape_place : Int32) (v_tape_fault : Int32) (v_tape_teller : Int32) (v_tape_word : Int32) (v_findings : Nat → Int32) (y1 : Int32) (y4 : Int32) (y5 : Int32) : Option (Int32 × Int32 × (Nat → Int64) × (Nat → Int32) × Int32 × Int32 × Int32 × Int32 × Int32 × (Nat → Int32)) :=
  (if (4 : Int32) ≤ y5 then (
  fX4_term_87 v_party_size v_tape_bytes v_party_told v_party_terms v_party_known v_tape_length v_tape_place v_tape_fault v_tape_teller v_tape_word v_findings y4)
  else (
  bR (fX2_holdsBy v_tape_length v_tape_place v_tape_fault v_tape_teller v_tape_word v_tape_bytes y1 y5) (fun r3 k3 =>
  bV (fX0_tell v_party_told v_party_terms v_party_known y1 y5 r3) (fun k4 =>
  nm (y5 + 1) (fun u5 =>
  ag55 k4.1 k4.2.1 k4.2.2 v_tape_length k3.1 k3.2.1 k3.2.2.1 k3.2.2.2 v_findings y1 y4 u5)))))
set_option maxRecDepth 100000 in
set_option maxHeartbeats 4000000 in
theorem LX4_term_55 {p : Program} {l : Launch} {e : Env} {s : State} {m : MethodId} {args : Array Value} {below : List Frame} {meth : Method} {c : Code} {D : va_G} {cI cJ cZ cS : ClassId} {tb : Nat} {A : Nat → Prop} {a_t a_party a_party_kinds a_party_costs a_party_terms a_party_known a_kept a_tape a_tape_bytes a_telephone a_sheets a_findings : Nat} {v_isKept : Int32} {v_party_size : Int32} {v_party_list : Int32} {v_tape_bytes : Nat → Int32} {rr : Int32} {kk' : Int32 × (Nat → Int64) × (Nat → Int32) × Int32 × Int32 × Int32 × Int32 × Int32 × (Nat → Int32)} (fx : q_Fx p s m args meth c cX4_term 6 RX4 (some .int) D cI cJ cZ cS tb A) {ag55 : Int32 → (Nat → Int64) → (Nat → Int32) → Int32 → Int32 → Int32 → Int32 → Int32 → (Nat → Int32) → Int32 → Int32 → Int32 → Option (Int32 × Int32 × (Nat → Int64) × (Nat → Int32) × Int32 × Int32 × Int32 × Int32 × Int32 × (Nat → Int32))} (hag55 : ∀ {v_party_told : Int32} {v_party_terms : Nat → Int64} {v_party_known : Nat → Int32} {v_tape_length : Int32} {v_tape_place : Int32} {v_tape_fault : Int32} {v_tape_teller : Int32} {v_tape_word : Int32} {v_findings : Nat → Int32} {y1 : Int32} {y4 : Int32} {y5 : Int32} {H : Heap} {locs : List Loc} {ls : Array Slot}, q_H D A s (wX4_term cI cJ cZ cS a_t a_party a_party_kinds a_party_costs a_party_terms a_party_known a_kept a_tape a_tape_bytes a_telephone a_sheets a_findings v_isKept v_party_size v_party_list v_party_told v_party_terms v_party_known v_tape_length v_tape_place v_tape_fault v_tape_teller v_tape_word v_tape_bytes v_findings) H locs → lv_has ls 6 [(0, .ref a_t), (1, .int y1), (4, .int y4), (5, .int y5)] → ag55 v_party_told v_party_terms v_party_known v_tape_length v_tape_place v_tape_fault v_tape_teller v_tape_word v_findings y1 y4 y5 = some (rr, kk') → W p l e rX4_term s m args below meth c H locs 0 0 (MQ below (q_Ri D rr A ((fun k : Int32 × (Nat → Int64) × (Nat → Int32) × Int32 × Int32 × Int32 × Int32 × Int32 × (Nat → Int32) => (wX4_term cI cJ cZ cS a_t a_party a_party_kinds a_party_costs a_party_terms a_party_known a_kept a_tape a_tape_bytes a_telephone a_sheets a_findings v_isKept v_party_size v_party_list k.1 k.2.1 k.2.2.1 k.2.2.2.1 k.2.2.2.2.1 k.2.2.2.2.2.1 k.2.2.2.2.2.2.1 k.2.2.2.2.2.2.2.1 v_tape_bytes k.2.2.2.2.2.2.2.2)) kk')) args s 0 0 A) (F0 m 55 ls [])) : ∀ {v_party_told : Int32} {v_party_terms : Nat → Int64} {v_party_known : Nat → Int32} {v_tape_length : Int32} {v_tape_place : Int32} {v_tape_fault : Int32} {v_tape_teller : Int32} {v_tape_word : Int32} {v_findings : Nat → Int32} {y1 : Int32} {y4 : Int32} {y5 : Int32} {H : Heap} {locs : List Loc} {ls : Array Slot}, q_H D A s (wX4_term cI cJ cZ cS a_t a_party a_party_kinds a_party_costs a_party_terms a_party_known a_kept a_tape a_tape_bytes a_telephone a_sheets a_findings v_isKept v_party_size v_party_list v_party_told v_party_terms v_party_known v_tape_length v_tape_place v_tape_fault v_tape_teller v_tape_word v_tape_bytes v_findings) H locs → lv_has ls 6 [(0, .ref a_t), (1, .int y1), (4, .int y4), (5, .int y5)] → fX4_term_55 v_party_size v_tape_bytes ag55 v_party_told v_party_terms v_party_known v_tape_length v_tape_place v_tape_fault v_tape_teller v_tape_word v_findings y1 y4 y5 = some (rr, kk') → W p l e rX4_term s m args below meth c H locs 0 0 (MQ below (q_Ri D rr A ((fun k : Int32 × (Nat → Int64) × (Nat → Int32) × Int32 × Int32 × Int32 × Int32 × Int32 × (Nat → Int32) => (wX4_term cI cJ cZ cS a_t a_party a_party_kinds a_party_costs a_party_terms a_party_known a_kept a_tape a_tape_bytes a_telephone a_sheets a_findings v_isKept v_party_size v_party_list k.1 k.2.1 k.2.2.1 k.2.2.2.1 k.2.2.2.2.1 k.2.2.2.2.2.1 k.2.2.2.2.2.2.1 k.2.2.2.2.2.2.2.1 v_tape_bytes k.2.2.2.2.2.2.2.2)) kk')) args s 0 0 A) (F0 m 55 ls []) := by
  intro v_party_told v_party_terms v_party_known v_tape_length v_tape_place v_tape_fault v_tape_teller v_tape_word v_findings y1 y4 y5 H locs ls h hl hf
  have hx := fx.1
  have hb := fx.2.1
  unfold fX4_term_55 at hf
  refine lv_iload hx hb dX4_term_55 (lv_at hl 3 rfl) ?_
  refine lv_iconst (v := 4) hx hb dX4_term_57 (by decide) ?_
  refine lv_icmp_ge (tgt := 87) hx hb dX4_term_58 (by decide) (fun c2 => ?_) (fun c2 => ?_)
  · have hf := it_t c2 hf
    exact LX4_term_87 fx h (lv_sub hl [0, 2] rfl) hf
  have hf := it_f c2 hf
  refine lv_aload_n hx hb dX4_term_61 rfl (lv_at hl 0 rfl) ?_
  refine q_get (v := .ref a_party) fx inX4 h 0 rfl rfl 0 (by decide) k_174 rfl dX4_term_62 ?_
  refine lv_iload_n hx hb dX4_term_65 rfl (lv_at hl 1 rfl) ?_
  refine lv_iload hx hb dX4_term_66 (lv_at hl 3 rfl) ?_
  refine lv_aload_n hx hb dX4_term_68 rfl (lv_at hl 0 rfl) ?_
  refine q_get (v := .ref a_tape) fx inX4 h 0 rfl rfl 3 (by decide) k_177 rfl dX4_term_69 ?_
  refine lv_iload_n hx hb dX4_term_72 rfl (lv_at hl 1 rfl) ?_
  refine lv_iload hx hb dX4_term_73 (lv_at hl 3 rfl) ?_
  obtain ⟨r3, k3, hg, hf⟩ := bR_inv hf
  refine q_cl (rest := [.int y5, .int y1, .ref a_party]) (ws' := (wX4_term cI cJ cZ cS a_t a_party a_party_kinds a_party_costs a_party_terms a_party_known a_kept a_tape a_tape_bytes a_telephone a_sheets a_findings v_isKept v_party_size v_party_list v_party_told v_party_terms v_party_known v_tape_length k3.1 k3.2.1 k3.2.2.1 k3.2.2.2 v_tape_bytes v_findings)) (w1 := (wX2_holdsBy cI cJ cZ cS a_tape a_tape_bytes v_tape_length k3.1 k3.2.1 k3.2.2.1 k3.2.2.2 v_tape_bytes)) fx h [4, 5] rfl rfl rfl rfl (q_runV fx h hl.1 [4, 5] rfl rfl (tX2_holdsBy l D cI cJ cZ cS tb a_tape a_tape_bytes H.size v_tape_length v_tape_place v_tape_fault v_tape_teller v_tape_word v_tape_bytes y1 y5 r3 k3 hg) mvX2_holdsBy k_274 ⟨rfl, rfl⟩ ⟨Nat.le_of_ble_eq_true rfl, Nat.le_of_ble_eq_true rfl⟩ rfl rfl rfl rfl (Nat.le_of_ble_eq_true rfl) dX4_term_75 ⟨Nat.le_of_ble_eq_true rfl, Nat.le_of_ble_eq_true rfl⟩) (fun H locs h => ?_)
  obtain ⟨k4, hg, hf⟩ := bV_inv hf
  refine q_cv (rest := []) (ws' := (wX4_term cI cJ cZ cS a_t a_party a_party_kinds a_party_costs a_party_terms a_party_known a_kept a_tape a_tape_bytes a_telephone a_sheets a_findings v_isKept v_party_size v_party_list k4.1 k4.2.1 k4.2.2 v_tape_length k3.1 k3.2.1 k3.2.2.1 k3.2.2.2 v_tape_bytes v_findings)) (w1 := (wX0_tell cI cJ cZ cS a_party a_party_kinds a_party_costs a_party_terms a_party_known v_party_size v_party_list k4.1 k4.2.1 k4.2.2)) fx h [1, 2, 3] rfl rfl rfl rfl (q_runV fx h hl.1 [1, 2, 3] rfl rfl (tX0_tell l D cI cJ cZ cS tb a_party a_party_kinds a_party_costs a_party_terms a_party_known H.size v_party_size v_party_list v_party_told v_party_terms v_party_known y1 y5 r3 k4 hg) mvX0_tell k_326 ⟨rfl, rfl⟩ ⟨Nat.le_of_ble_eq_true rfl, Nat.le_of_ble_eq_true rfl⟩ rfl rfl rfl rfl (Nat.le_of_ble_eq_true rfl) dX4_term_78 ⟨Nat.le_of_ble_eq_true rfl, Nat.le_of_ble_eq_true rfl⟩) (fun H locs h => ?_)
  obtain ⟨u5, eu5, hf⟩ := nm_inv hf
  refine lv_iinc (v := u5) (lv' := [(5, .int u5), (0, .ref a_t), (1, .int y1), (4, .int y4)]) hx hb dX4_term_81 hl (k := 3) rfl (by rw [eu5]; rfl) (by decide) rfl (fun ls hl => ?_)
  refine lv_goto (tgt := 55) hx hb dX4_term_84 (by decide) ?_
  exact hag55 h (lv_sub hl [1, 2, 3, 0] rfl) hf
set_option maxRecDepth 100000 in
theorem EX4_term_55 {p : Program} {l : Launch} {e : Env} {s : State} {m : MethodId} {args : Array Value} {below : List Frame} {meth : Method} {c : Code} {D : va_G} {cI cJ cZ cS : ClassId} {tb : Nat} {A : Nat → Prop} {a_t a_party a_party_kinds a_party_costs a_party_terms a_party_known a_kept a_tape a_tape_bytes a_telephone a_sheets a_findings : Nat} {v_isKept : Int32} {v_party_size : Int32} {v_party_list : Int32} {v_tape_bytes : Nat → Int32} {rr : Int32} {kk' : Int32 × (Nat → Int64) × (Nat → Int32) × Int32 × Int32 × Int32 × Int32 × Int32 × (Nat → Int32)} (fx : q_Fx p s m args meth c cX4_term 6 RX4 (some .int) D cI cJ cZ cS tb A) : ∀ (n : Nat), ∀ {v_party_told : Int32} {v_party_terms : Nat → Int64} {v_party_known : Nat → Int32} {v_tape_length : Int32} {v_tape_place : Int32} {v_tape_fault : Int32} {v_tape_teller : Int32} {v_tape_word : Int32} {v_findings : Nat → Int32} {y1 : Int32} {y4 : Int32} {y5 : Int32} {H : Heap} {locs : List Loc} {ls : Array Slot}, q_H D A s (wX4_term cI cJ cZ cS a_t a_party a_party_kinds a_party_costs a_party_terms a_party_known a_kept a_tape a_tape_bytes a_telephone a_sheets a_findings v_isKept v_party_size v_party_list v_party_told v_party_terms v_party_known v_tape_length v_tape_place v_tape_fault v_tape_teller v_tape_word v_tape_bytes v_findings) H locs → lv_has ls 6 [(0, .ref a_t), (1, .int y1), (4, .int y4), (5, .int y5)] → ll12 (fX4_term_55 v_party_size v_tape_bytes) n v_party_told v_party_terms v_party_known v_tape_length v_tape_place v_tape_fault v_tape_teller v_tape_word v_findings y1 y4 y5 = some (rr, kk') → W p l e rX4_term s m args below meth c H locs 0 0 (MQ below (q_Ri D rr A ((fun k : Int32 × (Nat → Int64) × (Nat → Int32) × Int32 × Int32 × Int32 × Int32 × Int32 × (Nat → Int32) => (wX4_term cI cJ cZ cS a_t a_party a_party_kinds a_party_costs a_party_terms a_party_known a_kept a_tape a_tape_bytes a_telephone a_sheets a_findings v_isKept v_party_size v_party_list k.1 k.2.1 k.2.2.1 k.2.2.2.1 k.2.2.2.2.1 k.2.2.2.2.2.1 k.2.2.2.2.2.2.1 k.2.2.2.2.2.2.2.1 v_tape_bytes k.2.2.2.2.2.2.2.2)) kk')) args s 0 0 A) (F0 m 55 ls []) := by
  intro n
  induction n with
  | zero => intro v_party_told v_party_terms v_party_known v_tape_length v_tape_place v_tape_fault v_tape_teller v_tape_word v_findings y1 y4 y5 H locs ls h hl hf; exact (ll12_z hf).elim
  | succ n ih => intro v_party_told v_party_terms v_party_known v_tape_length v_tape_place v_tape_fault v_tape_teller v_tape_word v_findings y1 y4 y5 H locs ls h hl hf; exact LX4_term_55 fx ih h hl (ll12_s hf)
def fX4_term (v_party_size : Int32) (v_party_told : Int32) (v_party_terms : Nat → Int64) (v_party_known : Nat → Int32) (v_tape_length : Int32) (v_tape_place : Int32) (v_tape_fault : Int32) (v_tape_teller : Int32) (v_tape_word : Int32) (v_tape_bytes : Nat → Int32) (v_findings : Nat → Int32) (x1 : Int32) : Option (Int32 × Int32 × (Nat → Int64) × (Nat → Int32) × Int32 × Int32 × Int32 × Int32 × Int32 × (Nat → Int32)) :=
  bR (fX0_has v_party_size x1) (fun r6 k6 =>
  (if r6 = 0 then (
  bR (fX4_found v_findings (-1000000001)) (fun r11 k11 =>
  some (r11, (v_party_told, v_party_terms, v_party_known, v_tape_length, v_tape_place, v_tape_fault, v_tape_teller, v_tape_word, k11))))
  else (
  bR (fX2_holdsBy v_tape_length v_tape_place v_tape_fault v_tape_teller v_tape_word v_tape_bytes x1 0) (fun r8 k8 =>
  (if (0 : Int32) ≤ k8.2.1 then (
  fX4_term_87 v_party_size v_tape_bytes v_party_told v_party_terms v_party_known v_tape_length k8.1 k8.2.1 k8.2.2.1 k8.2.2.2 v_findings k8.2.1)
  else (
  bV (fX0_tell v_party_told v_party_terms v_party_known x1 0 r8) (fun k10 =>
  ll12 (fX4_term_55 v_party_size v_tape_bytes) qF k10.1 k10.2.1 k10.2.2 v_tape_length k8.1 k8.2.1 k8.2.2.1 k8.2.2.2 v_findings x1 k8.2.1 1)))))))
set_option maxRecDepth 100000 in
set_option maxHeartbeats 4000000 in
theorem tX4_term (l : Launch) (D : va_G) (cI cJ cZ cS : ClassId) (tb : Nat) (a_t a_party a_party_kinds a_party_costs a_party_terms a_party_known a_kept a_tape a_tape_bytes a_telephone a_sheets a_findings : Nat) (sz : Nat) (v_isKept : Int32) (v_party_size : Int32) (v_party_list : Int32) (v_party_told : Int32) (v_party_terms : Nat → Int64) (v_party_known : Nat → Int32) (v_tape_length : Int32) (v_tape_place : Int32) (v_tape_fault : Int32) (v_tape_teller : Int32) (v_tape_word : Int32) (v_tape_bytes : Nat → Int32) (v_findings : Nat → Int32) (x1 : Int32) (rr : Int32) (kk' : Int32 × (Nat → Int64) × (Nat → Int32) × Int32 × Int32 × Int32 × Int32 × Int32 × (Nat → Int32)) (hf : fX4_term v_party_size v_party_told v_party_terms v_party_known v_tape_length v_tape_place v_tape_fault v_tape_teller v_tape_word v_tape_bytes v_findings x1 = some (rr, kk')) : Met l yX4_term (Cond.code yX4_term cX4_term 6 (some .int) :: wA) rX4_term (q_Pre D cI cJ cZ cS tb [.ref a_t, .int x1] sz (wX4_term cI cJ cZ cS a_t a_party a_party_kinds a_party_costs a_party_terms a_party_known a_kept a_tape a_tape_bytes a_telephone a_sheets a_findings v_isKept v_party_size v_party_list v_party_told v_party_terms v_party_known v_tape_length v_tape_place v_tape_fault v_tape_teller v_tape_word v_tape_bytes v_findings)) (q_Ri D rr (va_A (wX4_term cI cJ cZ cS a_t a_party a_party_kinds a_party_costs a_party_terms a_party_known a_kept a_tape a_tape_bytes a_telephone a_sheets a_findings v_isKept v_party_size v_party_list v_party_told v_party_terms v_party_known v_tape_length v_tape_place v_tape_fault v_tape_teller v_tape_word v_tape_bytes v_findings) sz) ((fun k : Int32 × (Nat → Int64) × (Nat → Int32) × Int32 × Int32 × Int32 × Int32 × Int32 × (Nat → Int32) => (wX4_term cI cJ cZ cS a_t a_party a_party_kinds a_party_costs a_party_terms a_party_known a_kept a_tape a_tape_bytes a_telephone a_sheets a_findings v_isKept v_party_size v_party_list k.1 k.2.1 k.2.2.1 k.2.2.2.1 k.2.2.2.2.1 k.2.2.2.2.2.1 k.2.2.2.2.2.2.1 k.2.2.2.2.2.2.2.1 v_tape_bytes k.2.2.2.2.2.2.2.2)) kk')) 0 0 (va_A (wX4_term cI cJ cZ cS a_t a_party a_party_kinds a_party_costs a_party_terms a_party_known a_kept a_tape a_tape_bytes a_telephone a_sheets a_findings v_isKept v_party_size v_party_list v_party_told v_party_terms v_party_known v_tape_length v_tape_place v_tape_fault v_tape_teller v_tape_word v_tape_bytes v_findings) sz) := by
  refine q_enter (Qf := fun A => (q_Ri D rr A ((fun k : Int32 × (Nat → Int64) × (Nat → Int32) × Int32 × Int32 × Int32 × Int32 × Int32 × (Nat → Int32) => (wX4_term cI cJ cZ cS a_t a_party a_party_kinds a_party_costs a_party_terms a_party_known a_kept a_tape a_tape_bytes a_telephone a_sheets a_findings v_isKept v_party_size v_party_list k.1 k.2.1 k.2.2.1 k.2.2.2.1 k.2.2.2.2.1 k.2.2.2.2.2.1 k.2.2.2.2.2.2.1 k.2.2.2.2.2.2.2.1 v_tape_bytes k.2.2.2.2.2.2.2.2)) kk'))) (by decide) rfl (Nat.le_of_ble_eq_true rfl) ?_
  intro p e s m below meth c A ls fx hname h hl
  have hx := fx.1
  have hb := fx.2.1
  have hl : lv_has ls 6 [(0, .ref a_t), (1, .int x1)] := hl
  generalize h9 : s.heap = H at h ⊢
  clear h9
  generalize h9 : ([] : List Loc) = locs at h ⊢
  clear h9
  unfold fX4_term at hf
  refine lv_aload_n hx hb dX4_term_0 rfl (lv_at hl 0 rfl) ?_
  refine q_get (v := .ref a_party) fx inX4 h 0 rfl rfl 0 (by decide) k_174 rfl dX4_term_1 ?_
  refine lv_iload_n hx hb dX4_term_4 rfl (lv_at hl 1 rfl) ?_
  obtain ⟨r6, k6, hg, hf⟩ := bR_inv hf
  refine q_ci (rest := []) (ws' := (wX4_term cI cJ cZ cS a_t a_party a_party_kinds a_party_costs a_party_terms a_party_known a_kept a_tape a_tape_bytes a_telephone a_sheets a_findings v_isKept v_party_size v_party_list v_party_told v_party_terms v_party_known v_tape_length v_tape_place v_tape_fault v_tape_teller v_tape_word v_tape_bytes v_findings)) (w1 := (wX0_has cI cJ cZ cS a_party a_party_kinds a_party_costs a_party_terms a_party_known v_party_size v_party_list v_party_told)) fx h [1] rfl rfl rfl rfl (q_runV fx h hl.1 [1] rfl rfl (tX0_has l D cI cJ cZ cS tb a_party a_party_kinds a_party_costs a_party_terms a_party_known H.size v_party_size v_party_list v_party_told x1 r6 k6 hg) mvX0_has k_220 ⟨rfl, rfl⟩ ⟨Nat.le_of_ble_eq_true rfl, Nat.le_of_ble_eq_true rfl⟩ rfl rfl rfl rfl (Nat.le_of_ble_eq_true rfl) dX4_term_5 ⟨Nat.le_of_ble_eq_true rfl, Nat.le_of_ble_eq_true rfl⟩) (fun H locs h => ?_)
  refine lv_if_ne (tgt := 18) hx hb dX4_term_8 (by decide) (fun c7 => ?_) (fun c7 => ?_)
  · have hf := it_f c7 hf
    refine lv_aload_n hx hb dX4_term_18 rfl (lv_at hl 0 rfl) ?_
    refine q_get (v := .ref a_tape) fx inX4 h 0 rfl rfl 3 (by decide) k_177 rfl dX4_term_19 ?_
    refine lv_iload_n hx hb dX4_term_22 rfl (lv_at hl 1 rfl) ?_
    refine lv_iconst (v := 0) hx hb dX4_term_23 (by decide) ?_
    obtain ⟨r8, k8, hg, hf⟩ := bR_inv hf
    refine q_cl (rest := []) (ws' := (wX4_term cI cJ cZ cS a_t a_party a_party_kinds a_party_costs a_party_terms a_party_known a_kept a_tape a_tape_bytes a_telephone a_sheets a_findings v_isKept v_party_size v_party_list v_party_told v_party_terms v_party_known v_tape_length k8.1 k8.2.1 k8.2.2.1 k8.2.2.2 v_tape_bytes v_findings)) (w1 := (wX2_holdsBy cI cJ cZ cS a_tape a_tape_bytes v_tape_length k8.1 k8.2.1 k8.2.2.1 k8.2.2.2 v_tape_bytes)) fx h [4, 5] rfl rfl rfl rfl (q_runV fx h hl.1 [4, 5] rfl rfl (tX2_holdsBy l D cI cJ cZ cS tb a_tape a_tape_bytes H.size v_tape_length v_tape_place v_tape_fault v_tape_teller v_tape_word v_tape_bytes x1 0 r8 k8 hg) mvX2_holdsBy k_274 ⟨rfl, rfl⟩ ⟨Nat.le_of_ble_eq_true rfl, Nat.le_of_ble_eq_true rfl⟩ rfl rfl rfl rfl (Nat.le_of_ble_eq_true rfl) dX4_term_24 ⟨Nat.le_of_ble_eq_true rfl, Nat.le_of_ble_eq_true rfl⟩) (fun H locs h => ?_)
    refine lv_lstore_n (lv' := [(2, .long r8), (0, .ref a_t), (1, .int x1)]) hx hb dX4_term_27 rfl hl (by decide) rfl (fun ls hl => ?_)
    refine lv_aload_n hx hb dX4_term_28 rfl (lv_at hl 1 rfl) ?_
    refine q_get (v := .ref a_tape) fx inX4 h 0 rfl rfl 3 (by decide) k_177 rfl dX4_term_29 ?_
    refine q_getN (v := .int k8.2.1) fx inX2 h 4 rfl rfl 3 (by decide) nf_8 rfl dX4_term_32 ?_
    refine lv_istore (lv' := [(4, .int k8.2.1), (2, .long r8), (0, .ref a_t), (1, .int x1)]) hx hb dX4_term_35 hl (by decide) rfl (fun ls hl => ?_)
    refine lv_iload hx hb dX4_term_37 (lv_at hl 0 rfl) ?_
    refine lv_if_ge (tgt := 87) hx hb dX4_term_39 (by decide) (fun c9 => ?_) (fun c9 => ?_)
    · have hf := it_t c9 hf
      exact LX4_term_87 fx h (lv_sub hl [2, 0] rfl) hf
    have hf := it_f c9 hf
    refine lv_aload_n hx hb dX4_term_42 rfl (lv_at hl 2 rfl) ?_
    refine q_get (v := .ref a_party) fx inX4 h 0 rfl rfl 0 (by decide) k_174 rfl dX4_term_43 ?_
    refine lv_iload_n hx hb dX4_term_46 rfl (lv_at hl 3 rfl) ?_
    refine lv_iconst (v := 0) hx hb dX4_term_47 (by decide) ?_
    refine lv_lload_n hx hb dX4_term_48 rfl (lv_at hl 1 rfl) ?_
    obtain ⟨k10, hg, hf⟩ := bV_inv hf
    refine q_cv (rest := []) (ws' := (wX4_term cI cJ cZ cS a_t a_party a_party_kinds a_party_costs a_party_terms a_party_known a_kept a_tape a_tape_bytes a_telephone a_sheets a_findings v_isKept v_party_size v_party_list k10.1 k10.2.1 k10.2.2 v_tape_length k8.1 k8.2.1 k8.2.2.1 k8.2.2.2 v_tape_bytes v_findings)) (w1 := (wX0_tell cI cJ cZ cS a_party a_party_kinds a_party_costs a_party_terms a_party_known v_party_size v_party_list k10.1 k10.2.1 k10.2.2)) fx h [1, 2, 3] rfl rfl rfl rfl (q_runV fx h hl.1 [1, 2, 3] rfl rfl (tX0_tell l D cI cJ cZ cS tb a_party a_party_kinds a_party_costs a_party_terms a_party_known H.size v_party_size v_party_list v_party_told v_party_terms v_party_known x1 0 r8 k10 hg) mvX0_tell k_326 ⟨rfl, rfl⟩ ⟨Nat.le_of_ble_eq_true rfl, Nat.le_of_ble_eq_true rfl⟩ rfl rfl rfl rfl (Nat.le_of_ble_eq_true rfl) dX4_term_49 ⟨Nat.le_of_ble_eq_true rfl, Nat.le_of_ble_eq_true rfl⟩) (fun H locs h => ?_)
    refine lv_iconst (v := 1) hx hb dX4_term_52 (by decide) ?_
    refine lv_istore (lv' := [(5, .int 1), (4, .int k8.2.1), (2, .long r8), (0, .ref a_t), (1, .int x1)]) hx hb dX4_term_53 hl (by decide) rfl (fun ls hl => ?_)
    exact EX4_term_55 fx qF h (lv_sub hl [3, 4, 1, 0] rfl) hf
  have hf := it_t c7 hf
  refine lv_aload_n hx hb dX4_term_11 rfl (lv_at hl 0 rfl) ?_
  refine q_ldc fx k_206 dX4_term_12 ?_
  obtain ⟨r11, k11, hg, hf⟩ := bR_inv hf
  refine q_ci (rest := []) (ws' := (wX4_term cI cJ cZ cS a_t a_party a_party_kinds a_party_costs a_party_terms a_party_known a_kept a_tape a_tape_bytes a_telephone a_sheets a_findings v_isKept v_party_size v_party_list v_party_told v_party_terms v_party_known v_tape_length v_tape_place v_tape_fault v_tape_teller v_tape_word v_tape_bytes k11)) (w1 := (wX4_found cI cJ cZ cS a_t a_party a_kept a_tape a_telephone a_sheets a_findings v_isKept k11)) fx h [0, 6] rfl rfl rfl rfl (q_runV fx h hl.1 [0, 6] rfl rfl (tX4_found l D cI cJ cZ cS tb a_t a_party a_kept a_tape a_telephone a_sheets a_findings H.size v_isKept v_findings (-1000000001) r11 k11 hg) mvX4_found k_207 ⟨rfl, rfl⟩ ⟨Nat.le_of_ble_eq_true rfl, Nat.le_of_ble_eq_true rfl⟩ rfl rfl rfl rfl (Nat.le_of_ble_eq_true rfl) dX4_term_14 ⟨Nat.le_of_ble_eq_true rfl, Nat.le_of_ble_eq_true rfl⟩) (fun H locs h => ?_)
  exact q_reti (fun k : Int32 × (Nat → Int64) × (Nat → Int32) × Int32 × Int32 × Int32 × Int32 × Int32 × (Nat → Int32) => (wX4_term cI cJ cZ cS a_t a_party a_party_kinds a_party_costs a_party_terms a_party_known a_kept a_tape a_tape_bytes a_telephone a_sheets a_findings v_isKept v_party_size v_party_list k.1 k.2.1 k.2.2.1 k.2.2.2.1 k.2.2.2.2.1 k.2.2.2.2.2.1 k.2.2.2.2.2.2.1 k.2.2.2.2.2.2.2.1 v_tape_bytes k.2.2.2.2.2.2.2.2)) fx hf h dX4_term_17
/-! X2_append -/
abbrev wX2_append (cI cJ cZ cS : ClassId) (a_t a_bytes : Nat) (v_length : Int32) (v_place : Int32) (v_fault : Int32) (v_teller : Int32) (v_word : Int32) (v_bytes : Nat → Int32) : va_W := [(a_t, .inr (2, [.ref a_bytes, .int v_length, .int v_place, .int v_fault, .int v_teller, .int v_word])), (a_bytes, .inl (cI, 60, .inl v_bytes))]
abbrev rX2_append : Room := { frames := 0, cells := 0, slots := 0, locals := 0 }
def fX2_append_4 (ag4 : Int32 → (Nat → Int32) → Int32 → Int32 → Option (Int32 × Int32 × (Nat → Int32))) (v_length : Int32) (v_bytes : Nat → Int32) (y1 : Int32) (y3 : Int32) : Option (Int32 × Int32 × (Nat → Int32)) :=
  (if y3 < 0 then (
  some (v_length, (v_length, v_bytes)))
  else (
  gIn v_length 60 (
  nm (v_length + 1) (fun u3 =>
  nm (y3 + (-1)) (fun u4 =>
  ag4 u3 (upd v_bytes v_length.toNatClampNeg ((jushr y1 (8 * y3)) &&& 255)) y1 u4)))))
set_option maxRecDepth 100000 in
set_option maxHeartbeats 4000000 in
theorem LX2_append_4 {p : Program} {l : Launch} {e : Env} {s : State} {m : MethodId} {args : Array Value} {below : List Frame} {meth : Method} {c : Code} {D : va_G} {cI cJ cZ cS : ClassId} {tb : Nat} {A : Nat → Prop} {a_t a_bytes : Nat} {v_place : Int32} {v_fault : Int32} {v_teller : Int32} {v_word : Int32} {rr : Int32} {kk' : Int32 × (Nat → Int32)} (fx : q_Fx p s m args meth c cX2_append 4 RX2 (some .int) D cI cJ cZ cS tb A) {ag4 : Int32 → (Nat → Int32) → Int32 → Int32 → Option (Int32 × Int32 × (Nat → Int32))} (hag4 : ∀ {v_length : Int32} {v_bytes : Nat → Int32} {y1 : Int32} {y3 : Int32} {H : Heap} {locs : List Loc} {ls : Array Slot}, q_H D A s (wX2_append cI cJ cZ cS a_t a_bytes v_length v_place v_fault v_teller v_word v_bytes) H locs → lv_has ls 4 [(0, .ref a_t), (1, .int y1), (3, .int y3)] → ag4 v_length v_bytes y1 y3 = some (rr, kk') → W p l e rX2_append s m args below meth c H locs 0 0 (MQ below (q_Ri D rr A ((fun k : Int32 × (Nat → Int32) => (wX2_append cI cJ cZ cS a_t a_bytes k.1 v_place v_fault v_teller v_word k.2)) kk')) args s 0 0 A) (F0 m 4 ls [])) : ∀ {v_length : Int32} {v_bytes : Nat → Int32} {y1 : Int32} {y3 : Int32} {H : Heap} {locs : List Loc} {ls : Array Slot}, q_H D A s (wX2_append cI cJ cZ cS a_t a_bytes v_length v_place v_fault v_teller v_word v_bytes) H locs → lv_has ls 4 [(0, .ref a_t), (1, .int y1), (3, .int y3)] → fX2_append_4 ag4 v_length v_bytes y1 y3 = some (rr, kk') → W p l e rX2_append s m args below meth c H locs 0 0 (MQ below (q_Ri D rr A ((fun k : Int32 × (Nat → Int32) => (wX2_append cI cJ cZ cS a_t a_bytes k.1 v_place v_fault v_teller v_word k.2)) kk')) args s 0 0 A) (F0 m 4 ls []) := by
  intro v_length v_bytes y1 y3 H locs ls h hl hf
  have hx := fx.1
  have hb := fx.2.1
  unfold fX2_append_4 at hf
  refine lv_iload_n hx hb dX2_append_4 rfl (lv_at hl 2 rfl) ?_
  refine lv_if_lt (tgt := 43) hx hb dX2_append_5 (by decide) (fun c1 => ?_) (fun c1 => ?_)
  · have hf := it_t c1 hf
    refine lv_aload_n hx hb dX2_append_43 rfl (lv_at hl 0 rfl) ?_
    refine q_get (v := .int v_length) fx inX2 h 0 rfl rfl 1 (by decide) k_118 rfl dX2_append_44 ?_
    exact q_reti (fun k : Int32 × (Nat → Int32) => (wX2_append cI cJ cZ cS a_t a_bytes k.1 v_place v_fault v_teller v_word k.2)) fx hf h dX2_append_47
  have hf := it_f c1 hf
  refine lv_aload_n hx hb dX2_append_8 rfl (lv_at hl 0 rfl) ?_
  refine q_get (v := .ref a_bytes) fx inX2 h 0 rfl rfl 0 (by decide) k_117 rfl dX2_append_9 ?_
  refine lv_aload_n hx hb dX2_append_12 rfl (lv_at hl 0 rfl) ?_
  refine q_get (v := .int v_length) fx inX2 h 0 rfl rfl 1 (by decide) k_118 rfl dX2_append_13 ?_
  refine lv_iload_n hx hb dX2_append_16 rfl (lv_at hl 1 rfl) ?_
  refine lv_bipush (v := 8) hx hb dX2_append_17 (by decide) ?_
  refine lv_iload_n hx hb dX2_append_19 rfl (lv_at hl 2 rfl) ?_
  refine lv_imul hx hb dX2_append_20 ?_
  refine lv_iushr hx hb dX2_append_21 rfl ?_
  refine lv_sipush (v := 255) hx hb dX2_append_22 (by decide) ?_
  refine lv_iand hx hb dX2_append_25 ?_
  obtain ⟨i2, hf⟩ := gIn_inv hf
  refine q_iast (ws' := (wX2_append cI cJ cZ cS a_t a_bytes v_length v_place v_fault v_teller v_word (upd v_bytes v_length.toNatClampNeg ((jushr y1 (8 * y3)) &&& 255)))) fx h 1 rfl i2 rfl dX2_append_26 (fun H locs h => ?_)
  refine lv_aload_n hx hb dX2_append_27 rfl (lv_at hl 0 rfl) ?_
  refine lv_dup hx hb dX2_append_28 rfl ?_
  refine q_get (v := .int v_length) fx inX2 h 0 rfl rfl 1 (by decide) k_118 rfl dX2_append_29 ?_
  refine lv_iconst (v := 1) hx hb dX2_append_32 (by decide) ?_
  refine lv_iadd hx hb dX2_append_33 ?_
  obtain ⟨u3, eu3, hf⟩ := nm_inv hf
  refine lv_eqi eu3 ?_
  refine q_put (v := .int u3) (ws' := (wX2_append cI cJ cZ cS a_t a_bytes u3 v_place v_fault v_teller v_word (upd v_bytes v_length.toNatClampNeg ((jushr y1 (8 * y3)) &&& 255)))) fx inX2 tyX2 tyX2_ok nmX2 h 0 rfl rfl 1 (by decide) k_118 rfl rfl rfl (Nat.le_of_ble_eq_true rfl) rfl dX2_append_34 (fun H locs h => ?_)
  obtain ⟨u4, eu4, hf⟩ := nm_inv hf
  refine lv_iinc (v := u4) (lv' := [(3, .int u4), (0, .ref a_t), (1, .int y1)]) hx hb dX2_append_37 hl (k := 2) rfl (by rw [eu4]; rfl) (by decide) rfl (fun ls hl => ?_)
  refine lv_goto (tgt := 4) hx hb dX2_append_40 (by decide) ?_
  exact hag4 h (lv_sub hl [1, 2, 0] rfl) hf
set_option maxRecDepth 100000 in
theorem EX2_append_4 {p : Program} {l : Launch} {e : Env} {s : State} {m : MethodId} {args : Array Value} {below : List Frame} {meth : Method} {c : Code} {D : va_G} {cI cJ cZ cS : ClassId} {tb : Nat} {A : Nat → Prop} {a_t a_bytes : Nat} {v_place : Int32} {v_fault : Int32} {v_teller : Int32} {v_word : Int32} {rr : Int32} {kk' : Int32 × (Nat → Int32)} (fx : q_Fx p s m args meth c cX2_append 4 RX2 (some .int) D cI cJ cZ cS tb A) : ∀ (n : Nat), ∀ {v_length : Int32} {v_bytes : Nat → Int32} {y1 : Int32} {y3 : Int32} {H : Heap} {locs : List Loc} {ls : Array Slot}, q_H D A s (wX2_append cI cJ cZ cS a_t a_bytes v_length v_place v_fault v_teller v_word v_bytes) H locs → lv_has ls 4 [(0, .ref a_t), (1, .int y1), (3, .int y3)] → ll4 (fX2_append_4 ) n v_length v_bytes y1 y3 = some (rr, kk') → W p l e rX2_append s m args below meth c H locs 0 0 (MQ below (q_Ri D rr A ((fun k : Int32 × (Nat → Int32) => (wX2_append cI cJ cZ cS a_t a_bytes k.1 v_place v_fault v_teller v_word k.2)) kk')) args s 0 0 A) (F0 m 4 ls []) := by
  intro n
  induction n with
  | zero => intro v_length v_bytes y1 y3 H locs ls h hl hf; exact (ll4_z hf).elim
  | succ n ih => intro v_length v_bytes y1 y3 H locs ls h hl hf; exact LX2_append_4 fx ih h hl (ll4_s hf)
def fX2_append (v_length : Int32) (v_bytes : Nat → Int32) (x1 : Int32) (x2 : Int32) : Option (Int32 × Int32 × (Nat → Int32)) :=
  nm (x2 - 1) (fun u5 =>
  ll4 (fX2_append_4 ) qF v_length v_bytes x1 u5)
set_option maxRecDepth 100000 in
set_option maxHeartbeats 4000000 in
theorem tX2_append (l : Launch) (D : va_G) (cI cJ cZ cS : ClassId) (tb : Nat) (a_t a_bytes : Nat) (sz : Nat) (v_length : Int32) (v_place : Int32) (v_fault : Int32) (v_teller : Int32) (v_word : Int32) (v_bytes : Nat → Int32) (x1 : Int32) (x2 : Int32) (rr : Int32) (kk' : Int32 × (Nat → Int32)) (hf : fX2_append v_length v_bytes x1 x2 = some (rr, kk')) : Met l yX2_append (Cond.code yX2_append cX2_append 4 (some .int) :: wA) rX2_append (q_Pre D cI cJ cZ cS tb [.ref a_t, .int x1, .int x2] sz (wX2_append cI cJ cZ cS a_t a_bytes v_length v_place v_fault v_teller v_word v_bytes)) (q_Ri D rr (va_A (wX2_append cI cJ cZ cS a_t a_bytes v_length v_place v_fault v_teller v_word v_bytes) sz) ((fun k : Int32 × (Nat → Int32) => (wX2_append cI cJ cZ cS a_t a_bytes k.1 v_place v_fault v_teller v_word k.2)) kk')) 0 0 (va_A (wX2_append cI cJ cZ cS a_t a_bytes v_length v_place v_fault v_teller v_word v_bytes) sz) := by
  refine q_enter (Qf := fun A => (q_Ri D rr A ((fun k : Int32 × (Nat → Int32) => (wX2_append cI cJ cZ cS a_t a_bytes k.1 v_place v_fault v_teller v_word k.2)) kk'))) (by decide) rfl (Nat.le_of_ble_eq_true rfl) ?_
  intro p e s m below meth c A ls fx hname h hl
  have hx := fx.1
  have hb := fx.2.1
  have hl : lv_has ls 4 [(0, .ref a_t), (1, .int x1), (2, .int x2)] := hl
  generalize h9 : s.heap = H at h ⊢
  clear h9
  generalize h9 : ([] : List Loc) = locs at h ⊢
  clear h9
  unfold fX2_append at hf
  refine lv_iload_n hx hb dX2_append_0 rfl (lv_at hl 2 rfl) ?_
  refine lv_iconst (v := 1) hx hb dX2_append_1 (by decide) ?_
  refine lv_isub hx hb dX2_append_2 ?_
  obtain ⟨u5, eu5, hf⟩ := nm_inv hf
  refine lv_eqi eu5 ?_
  refine lv_istore_n (lv' := [(3, .int u5), (0, .ref a_t), (1, .int x1), (2, .int x2)]) hx hb dX2_append_3 rfl hl (by decide) rfl (fun ls hl => ?_)
  exact EX2_append_4 fx qF h (lv_sub hl [1, 2, 0] rfl) hf
/-! X4_feed -/
abbrev wX4_feed (cI cJ cZ cS : ClassId) (a_t a_party a_kept a_tape a_tape_bytes a_telephone a_sheets a_findings : Nat) (v_isKept : Int32) (v_tape_length : Int32) (v_tape_place : Int32) (v_tape_fault : Int32) (v_tape_teller : Int32) (v_tape_word : Int32) (v_tape_bytes : Nat → Int32) (v_findings : Nat → Int32) : va_W := [(a_t, .inr (4, [.ref a_party, .ref a_kept, .int v_isKept, .ref a_tape, .ref a_telephone, .ref a_sheets, .ref a_findings])), (a_tape, .inr (2, [.ref a_tape_bytes, .int v_tape_length, .int v_tape_place, .int v_tape_fault, .int v_tape_teller, .int v_tape_word])), (a_tape_bytes, .inl (cI, 60, .inl v_tape_bytes)), (a_findings, .inl (cI, 7, .inl v_findings))]
abbrev rX4_feed : Room := { frames := 1, cells := 0, slots := 0, locals := 23 }
def fX4_feed_10 (v_tape_length : Int32) (v_tape_bytes : Nat → Int32) (v_findings : Nat → Int32) : Option (Int32 × Int32 × (Nat → Int32) × (Nat → Int32)) :=
  bR (fX4_found v_findings (-1000000001)) (fun r1 k1 =>
  some (r1, (v_tape_length, v_tape_bytes, k1)))
set_option maxRecDepth 100000 in
set_option maxHeartbeats 4000000 in
theorem LX4_feed_10 {p : Program} {l : Launch} {e : Env} {s : State} {m : MethodId} {args : Array Value} {below : List Frame} {meth : Method} {c : Code} {D : va_G} {cI cJ cZ cS : ClassId} {tb : Nat} {A : Nat → Prop} {a_t a_party a_kept a_tape a_tape_bytes a_telephone a_sheets a_findings : Nat} {v_isKept : Int32} {v_tape_place : Int32} {v_tape_fault : Int32} {v_tape_teller : Int32} {v_tape_word : Int32} {rr : Int32} {kk' : Int32 × (Nat → Int32) × (Nat → Int32)} (fx : q_Fx p s m args meth c cX4_feed 3 RX4 (some .int) D cI cJ cZ cS tb A) : ∀ {v_tape_length : Int32} {v_tape_bytes : Nat → Int32} {v_findings : Nat → Int32} {H : Heap} {locs : List Loc} {ls : Array Slot}, q_H D A s (wX4_feed cI cJ cZ cS a_t a_party a_kept a_tape a_tape_bytes a_telephone a_sheets a_findings v_isKept v_tape_length v_tape_place v_tape_fault v_tape_teller v_tape_word v_tape_bytes v_findings) H locs → lv_has ls 3 [(0, .ref a_t)] → fX4_feed_10 v_tape_length v_tape_bytes v_findings = some (rr, kk') → W p l e rX4_feed s m args below meth c H locs 0 0 (MQ below (q_Ri D rr A ((fun k : Int32 × (Nat → Int32) × (Nat → Int32) => (wX4_feed cI cJ cZ cS a_t a_party a_kept a_tape a_tape_bytes a_telephone a_sheets a_findings v_isKept k.1 v_tape_place v_tape_fault v_tape_teller v_tape_word k.2.1 k.2.2)) kk')) args s 0 0 A) (F0 m 10 ls []) := by
  intro v_tape_length v_tape_bytes v_findings H locs ls h hl hf
  have hx := fx.1
  have hb := fx.2.1
  unfold fX4_feed_10 at hf
  refine lv_aload_n hx hb dX4_feed_10 rfl (lv_at hl 0 rfl) ?_
  refine q_ldc fx k_206 dX4_feed_11 ?_
  obtain ⟨r1, k1, hg, hf⟩ := bR_inv hf
  refine q_ci (rest := []) (ws' := (wX4_feed cI cJ cZ cS a_t a_party a_kept a_tape a_tape_bytes a_telephone a_sheets a_findings v_isKept v_tape_length v_tape_place v_tape_fault v_tape_teller v_tape_word v_tape_bytes k1)) (w1 := (wX4_found cI cJ cZ cS a_t a_party a_kept a_tape a_telephone a_sheets a_findings v_isKept k1)) fx h [0, 3] rfl rfl rfl rfl (q_runV fx h hl.1 [0, 3] rfl rfl (tX4_found l D cI cJ cZ cS tb a_t a_party a_kept a_tape a_telephone a_sheets a_findings H.size v_isKept v_findings (-1000000001) r1 k1 hg) mvX4_found k_207 ⟨rfl, rfl⟩ ⟨Nat.le_of_ble_eq_true rfl, Nat.le_of_ble_eq_true rfl⟩ rfl rfl rfl rfl (Nat.le_of_ble_eq_true rfl) dX4_feed_13 ⟨Nat.le_of_ble_eq_true rfl, Nat.le_of_ble_eq_true rfl⟩) (fun H locs h => ?_)
  exact q_reti (fun k : Int32 × (Nat → Int32) × (Nat → Int32) => (wX4_feed cI cJ cZ cS a_t a_party a_kept a_tape a_tape_bytes a_telephone a_sheets a_findings v_isKept k.1 v_tape_place v_tape_fault v_tape_teller v_tape_word k.2.1 k.2.2)) fx hf h dX4_feed_16
def fX4_feed (v_tape_length : Int32) (v_tape_bytes : Nat → Int32) (v_findings : Nat → Int32) (x1 : Int32) (x2 : Int32) : Option (Int32 × Int32 × (Nat → Int32) × (Nat → Int32)) :=
  (if x2 < 1 then (
  fX4_feed_10  v_tape_length v_tape_bytes v_findings)
  else (
  (if x2 ≤ 4 then (
  (if (60 - v_tape_length) < x2 then (
  bR (fX4_found v_findings (-1000000002)) (fun r5 k5 =>
  some (r5, (v_tape_length, v_tape_bytes, k5))))
  else (
  bR (fX2_append v_tape_length v_tape_bytes x1 x2) (fun r6 k6 =>
  some (r6, (k6.1, k6.2, v_findings))))))
  else (
  fX4_feed_10  v_tape_length v_tape_bytes v_findings))))
set_option maxRecDepth 100000 in
set_option maxHeartbeats 4000000 in
theorem tX4_feed (l : Launch) (D : va_G) (cI cJ cZ cS : ClassId) (tb : Nat) (a_t a_party a_kept a_tape a_tape_bytes a_telephone a_sheets a_findings : Nat) (sz : Nat) (v_isKept : Int32) (v_tape_length : Int32) (v_tape_place : Int32) (v_tape_fault : Int32) (v_tape_teller : Int32) (v_tape_word : Int32) (v_tape_bytes : Nat → Int32) (v_findings : Nat → Int32) (x1 : Int32) (x2 : Int32) (rr : Int32) (kk' : Int32 × (Nat → Int32) × (Nat → Int32)) (hf : fX4_feed v_tape_length v_tape_bytes v_findings x1 x2 = some (rr, kk')) : Met l yX4_feed (Cond.code yX4_feed cX4_feed 3 (some .int) :: wA) rX4_feed (q_Pre D cI cJ cZ cS tb [.ref a_t, .int x1, .int x2] sz (wX4_feed cI cJ cZ cS a_t a_party a_kept a_tape a_tape_bytes a_telephone a_sheets a_findings v_isKept v_tape_length v_tape_place v_tape_fault v_tape_teller v_tape_word v_tape_bytes v_findings)) (q_Ri D rr (va_A (wX4_feed cI cJ cZ cS a_t a_party a_kept a_tape a_tape_bytes a_telephone a_sheets a_findings v_isKept v_tape_length v_tape_place v_tape_fault v_tape_teller v_tape_word v_tape_bytes v_findings) sz) ((fun k : Int32 × (Nat → Int32) × (Nat → Int32) => (wX4_feed cI cJ cZ cS a_t a_party a_kept a_tape a_tape_bytes a_telephone a_sheets a_findings v_isKept k.1 v_tape_place v_tape_fault v_tape_teller v_tape_word k.2.1 k.2.2)) kk')) 0 0 (va_A (wX4_feed cI cJ cZ cS a_t a_party a_kept a_tape a_tape_bytes a_telephone a_sheets a_findings v_isKept v_tape_length v_tape_place v_tape_fault v_tape_teller v_tape_word v_tape_bytes v_findings) sz) := by
  refine q_enter (Qf := fun A => (q_Ri D rr A ((fun k : Int32 × (Nat → Int32) × (Nat → Int32) => (wX4_feed cI cJ cZ cS a_t a_party a_kept a_tape a_tape_bytes a_telephone a_sheets a_findings v_isKept k.1 v_tape_place v_tape_fault v_tape_teller v_tape_word k.2.1 k.2.2)) kk'))) (by decide) rfl (Nat.le_of_ble_eq_true rfl) ?_
  intro p e s m below meth c A ls fx hname h hl
  have hx := fx.1
  have hb := fx.2.1
  have hl : lv_has ls 3 [(0, .ref a_t), (1, .int x1), (2, .int x2)] := hl
  generalize h9 : s.heap = H at h ⊢
  clear h9
  generalize h9 : ([] : List Loc) = locs at h ⊢
  clear h9
  unfold fX4_feed at hf
  refine lv_iload_n hx hb dX4_feed_0 rfl (lv_at hl 2 rfl) ?_
  refine lv_iconst (v := 1) hx hb dX4_feed_1 (by decide) ?_
  refine lv_icmp_lt (tgt := 10) hx hb dX4_feed_2 (by decide) (fun c2 => ?_) (fun c2 => ?_)
  · have hf := it_t c2 hf
    exact LX4_feed_10 fx h (lv_sub hl [0] rfl) hf
  have hf := it_f c2 hf
  refine lv_iload_n hx hb dX4_feed_5 rfl (lv_at hl 2 rfl) ?_
  refine lv_iconst (v := 4) hx hb dX4_feed_6 (by decide) ?_
  refine lv_icmp_le (tgt := 17) hx hb dX4_feed_7 (by decide) (fun c3 => ?_) (fun c3 => ?_)
  · have hf := it_t c3 hf
    refine lv_iload_n hx hb dX4_feed_17 rfl (lv_at hl 2 rfl) ?_
    refine lv_bipush (v := 60) hx hb dX4_feed_18 (by decide) ?_
    refine lv_aload_n hx hb dX4_feed_20 rfl (lv_at hl 0 rfl) ?_
    refine q_get (v := .ref a_tape) fx inX4 h 0 rfl rfl 3 (by decide) k_177 rfl dX4_feed_21 ?_
    refine q_getN (v := .int v_tape_length) fx inX2 h 1 rfl rfl 1 (by decide) nf_7 rfl dX4_feed_24 ?_
    refine lv_isub hx hb dX4_feed_27 ?_
    refine lv_icmp_gt (tgt := 43) hx hb dX4_feed_28 (by decide) (fun c4 => ?_) (fun c4 => ?_)
    · have hf := it_t c4 hf
      refine lv_aload_n hx hb dX4_feed_43 rfl (lv_at hl 0 rfl) ?_
      refine q_ldc fx k_215 dX4_feed_44 ?_
      obtain ⟨r5, k5, hg, hf⟩ := bR_inv hf
      refine q_ci (rest := []) (ws' := (wX4_feed cI cJ cZ cS a_t a_party a_kept a_tape a_tape_bytes a_telephone a_sheets a_findings v_isKept v_tape_length v_tape_place v_tape_fault v_tape_teller v_tape_word v_tape_bytes k5)) (w1 := (wX4_found cI cJ cZ cS a_t a_party a_kept a_tape a_telephone a_sheets a_findings v_isKept k5)) fx h [0, 3] rfl rfl rfl rfl (q_runV fx h hl.1 [0, 3] rfl rfl (tX4_found l D cI cJ cZ cS tb a_t a_party a_kept a_tape a_telephone a_sheets a_findings H.size v_isKept v_findings (-1000000002) r5 k5 hg) mvX4_found k_207 ⟨rfl, rfl⟩ ⟨Nat.le_of_ble_eq_true rfl, Nat.le_of_ble_eq_true rfl⟩ rfl rfl rfl rfl (Nat.le_of_ble_eq_true rfl) dX4_feed_46 ⟨Nat.le_of_ble_eq_true rfl, Nat.le_of_ble_eq_true rfl⟩) (fun H locs h => ?_)
      exact q_reti (fun k : Int32 × (Nat → Int32) × (Nat → Int32) => (wX4_feed cI cJ cZ cS a_t a_party a_kept a_tape a_tape_bytes a_telephone a_sheets a_findings v_isKept k.1 v_tape_place v_tape_fault v_tape_teller v_tape_word k.2.1 k.2.2)) fx hf h dX4_feed_49
    have hf := it_f c4 hf
    refine lv_aload_n hx hb dX4_feed_31 rfl (lv_at hl 0 rfl) ?_
    refine q_get (v := .ref a_tape) fx inX4 h 0 rfl rfl 3 (by decide) k_177 rfl dX4_feed_32 ?_
    refine lv_iload_n hx hb dX4_feed_35 rfl (lv_at hl 1 rfl) ?_
    refine lv_iload_n hx hb dX4_feed_36 rfl (lv_at hl 2 rfl) ?_
    obtain ⟨r6, k6, hg, hf⟩ := bR_inv hf
    refine q_ci (rest := []) (ws' := (wX4_feed cI cJ cZ cS a_t a_party a_kept a_tape a_tape_bytes a_telephone a_sheets a_findings v_isKept k6.1 v_tape_place v_tape_fault v_tape_teller v_tape_word k6.2 v_findings)) (w1 := (wX2_append cI cJ cZ cS a_tape a_tape_bytes k6.1 v_tape_place v_tape_fault v_tape_teller v_tape_word k6.2)) fx h [1, 2] rfl rfl rfl rfl (q_runV fx h hl.1 [1, 2] rfl rfl (tX2_append l D cI cJ cZ cS tb a_tape a_tape_bytes H.size v_tape_length v_tape_place v_tape_fault v_tape_teller v_tape_word v_tape_bytes x1 x2 r6 k6 hg) mvX2_append k_334 ⟨rfl, rfl⟩ ⟨Nat.le_of_ble_eq_true rfl, Nat.le_of_ble_eq_true rfl⟩ rfl rfl rfl rfl (Nat.le_of_ble_eq_true rfl) dX4_feed_37 ⟨Nat.le_of_ble_eq_true rfl, Nat.le_of_ble_eq_true rfl⟩) (fun H locs h => ?_)
    refine lv_goto (tgt := 49) hx hb dX4_feed_40 (by decide) ?_
    exact q_reti (fun k : Int32 × (Nat → Int32) × (Nat → Int32) => (wX4_feed cI cJ cZ cS a_t a_party a_kept a_tape a_tape_bytes a_telephone a_sheets a_findings v_isKept k.1 v_tape_place v_tape_fault v_tape_teller v_tape_word k.2.1 k.2.2)) fx hf h dX4_feed_49
  have hf := it_f c3 hf
  exact LX4_feed_10 fx h (lv_sub hl [0] rfl) hf
/-! X4_wipe -/
abbrev wX4_wipe (cI cJ cZ cS : ClassId) (a_t a_party a_kept a_tape a_tape_bytes a_telephone a_sheets a_findings : Nat) (v_isKept : Int32) (v_tape_length : Int32) (v_tape_place : Int32) (v_tape_fault : Int32) (v_tape_teller : Int32) (v_tape_word : Int32) : va_W := [(a_t, .inr (4, [.ref a_party, .ref a_kept, .int v_isKept, .ref a_tape, .ref a_telephone, .ref a_sheets, .ref a_findings])), (a_tape, .inr (2, [.ref a_tape_bytes, .int v_tape_length, .int v_tape_place, .int v_tape_fault, .int v_tape_teller, .int v_tape_word]))]
abbrev rX4_wipe : Room := { frames := 0, cells := 0, slots := 0, locals := 0 }
def fX4_wipe (v_tape_length : Int32) : Option (Int32 × Int32) :=
  some (v_tape_length, 0)
set_option maxRecDepth 100000 in
set_option maxHeartbeats 4000000 in
theorem tX4_wipe (l : Launch) (D : va_G) (cI cJ cZ cS : ClassId) (tb : Nat) (a_t a_party a_kept a_tape a_tape_bytes a_telephone a_sheets a_findings : Nat) (sz : Nat) (v_isKept : Int32) (v_tape_length : Int32) (v_tape_place : Int32) (v_tape_fault : Int32) (v_tape_teller : Int32) (v_tape_word : Int32) (rr : Int32) (kk' : Int32) (hf : fX4_wipe v_tape_length = some (rr, kk')) : Met l yX4_wipe (Cond.code yX4_wipe cX4_wipe 2 (some .int) :: wA) rX4_wipe (q_Pre D cI cJ cZ cS tb [.ref a_t] sz (wX4_wipe cI cJ cZ cS a_t a_party a_kept a_tape a_tape_bytes a_telephone a_sheets a_findings v_isKept v_tape_length v_tape_place v_tape_fault v_tape_teller v_tape_word)) (q_Ri D rr (va_A (wX4_wipe cI cJ cZ cS a_t a_party a_kept a_tape a_tape_bytes a_telephone a_sheets a_findings v_isKept v_tape_length v_tape_place v_tape_fault v_tape_teller v_tape_word) sz) ((fun k : Int32 => (wX4_wipe cI cJ cZ cS a_t a_party a_kept a_tape a_tape_bytes a_telephone a_sheets a_findings v_isKept k v_tape_place v_tape_fault v_tape_teller v_tape_word)) kk')) 0 0 (va_A (wX4_wipe cI cJ cZ cS a_t a_party a_kept a_tape a_tape_bytes a_telephone a_sheets a_findings v_isKept v_tape_length v_tape_place v_tape_fault v_tape_teller v_tape_word) sz) := by
  refine q_enter (Qf := fun A => (q_Ri D rr A ((fun k : Int32 => (wX4_wipe cI cJ cZ cS a_t a_party a_kept a_tape a_tape_bytes a_telephone a_sheets a_findings v_isKept k v_tape_place v_tape_fault v_tape_teller v_tape_word)) kk'))) (by decide) rfl (Nat.le_of_ble_eq_true rfl) ?_
  intro p e s m below meth c A ls fx hname h hl
  have hx := fx.1
  have hb := fx.2.1
  have hl : lv_has ls 2 [(0, .ref a_t)] := hl
  generalize h9 : s.heap = H at h ⊢
  clear h9
  generalize h9 : ([] : List Loc) = locs at h ⊢
  clear h9
  unfold fX4_wipe at hf
  refine lv_aload_n hx hb dX4_wipe_0 rfl (lv_at hl 0 rfl) ?_
  refine q_get (v := .ref a_tape) fx inX4 h 0 rfl rfl 3 (by decide) k_177 rfl dX4_wipe_1 ?_
  refine q_getN (v := .int v_tape_length) fx inX2 h 1 rfl rfl 1 (by decide) nf_7 rfl dX4_wipe_4 ?_
  refine lv_istore_n (lv' := [(1, .int v_tape_length), (0, .ref a_t)]) hx hb dX4_wipe_7 rfl hl (by decide) rfl (fun ls hl => ?_)
  refine lv_aload_n hx hb dX4_wipe_8 rfl (lv_at hl 1 rfl) ?_
  refine q_get (v := .ref a_tape) fx inX4 h 0 rfl rfl 3 (by decide) k_177 rfl dX4_wipe_9 ?_
  refine lv_iconst (v := 0) hx hb dX4_wipe_12 (by decide) ?_
  refine q_putN (v := .int 0) (ws' := (wX4_wipe cI cJ cZ cS a_t a_party a_kept a_tape a_tape_bytes a_telephone a_sheets a_findings v_isKept 0 v_tape_place v_tape_fault v_tape_teller v_tape_word)) fx inX2 tyX2 tyX2_ok nmX2 h 1 rfl rfl 1 (by decide) nf_7 rfl rfl rfl (Nat.le_of_ble_eq_true rfl) rfl dX4_wipe_13 (fun H locs h => ?_)
  refine lv_iload_n hx hb dX4_wipe_16 rfl (lv_at hl 0 rfl) ?_
  exact q_reti (fun k : Int32 => (wX4_wipe cI cJ cZ cS a_t a_party a_kept a_tape a_tape_bytes a_telephone a_sheets a_findings v_isKept k v_tape_place v_tape_fault v_tape_teller v_tape_word)) fx hf h dX4_wipe_17
/-! X0_lists -/
abbrev wX0_lists (cI cJ cZ cS : ClassId) (a_t a_kinds a_costs a_terms a_known : Nat) (v_size : Int32) (v_list : Int32) (v_told : Int32) : va_W := [(a_t, .inr (0, [.int v_size, .int v_list, .int v_told, .ref a_kinds, .ref a_costs, .ref a_terms, .ref a_known]))]
abbrev rX0_lists : Room := { frames := 0, cells := 0, slots := 0, locals := 0 }
def fX0_lists (v_size : Int32) : Option (Int32 × Unit) :=
  some (jshl 1 v_size, ())
set_option maxRecDepth 100000 in
set_option maxHeartbeats 4000000 in
theorem tX0_lists (l : Launch) (D : va_G) (cI cJ cZ cS : ClassId) (tb : Nat) (a_t a_kinds a_costs a_terms a_known : Nat) (sz : Nat) (v_size : Int32) (v_list : Int32) (v_told : Int32) (rr : Int32) (kk' : Unit) (hf : fX0_lists v_size = some (rr, kk')) : Met l yX0_lists (Cond.code yX0_lists cX0_lists 1 (some .int) :: wA) rX0_lists (q_Pre D cI cJ cZ cS tb [.ref a_t] sz (wX0_lists cI cJ cZ cS a_t a_kinds a_costs a_terms a_known v_size v_list v_told)) (q_Ri D rr (va_A (wX0_lists cI cJ cZ cS a_t a_kinds a_costs a_terms a_known v_size v_list v_told) sz) ((fun k : Unit => (wX0_lists cI cJ cZ cS a_t a_kinds a_costs a_terms a_known v_size v_list v_told)) kk')) 0 0 (va_A (wX0_lists cI cJ cZ cS a_t a_kinds a_costs a_terms a_known v_size v_list v_told) sz) := by
  refine q_enter (Qf := fun A => (q_Ri D rr A ((fun k : Unit => (wX0_lists cI cJ cZ cS a_t a_kinds a_costs a_terms a_known v_size v_list v_told)) kk'))) (by decide) rfl (Nat.le_of_ble_eq_true rfl) ?_
  intro p e s m below meth c A ls fx hname h hl
  have hx := fx.1
  have hb := fx.2.1
  have hl : lv_has ls 1 [(0, .ref a_t)] := hl
  generalize h9 : s.heap = H at h ⊢
  clear h9
  generalize h9 : ([] : List Loc) = locs at h ⊢
  clear h9
  unfold fX0_lists at hf
  refine lv_iconst (v := 1) hx hb dX0_lists_0 (by decide) ?_
  refine lv_aload_n hx hb dX0_lists_1 rfl (lv_at hl 0 rfl) ?_
  refine q_get (v := .int v_size) fx inX0 h 0 rfl rfl 0 (by decide) k_80 rfl dX0_lists_2 ?_
  refine lv_ishl hx hb dX0_lists_5 ?_
  exact q_reti (fun k : Unit => (wX0_lists cI cJ cZ cS a_t a_kinds a_costs a_terms a_known v_size v_list v_told)) fx hf h dX0_lists_6
/-! X0_isSet -/
abbrev wX0_isSet (cI cJ cZ cS : ClassId) (a_t a_kinds a_costs a_terms a_known : Nat) (v_size : Int32) (v_list : Int32) (v_told : Int32) : va_W := [(a_t, .inr (0, [.int v_size, .int v_list, .int v_told, .ref a_kinds, .ref a_costs, .ref a_terms, .ref a_known]))]
abbrev rX0_isSet : Room := { frames := 1, cells := 0, slots := 0, locals := 20 }
def fX0_isSet (v_size : Int32) (x1 : Int32) : Option (Int32 × Unit) :=
  (if x1 < 0 then (
  some (0, ()))
  else (
  bR (fX0_lists v_size) (fun r2 k2 =>
  (if r2 ≤ x1 then (
  some (0, ()))
  else (
  some (1, ()))))))
set_option maxRecDepth 100000 in
set_option maxHeartbeats 4000000 in
theorem tX0_isSet (l : Launch) (D : va_G) (cI cJ cZ cS : ClassId) (tb : Nat) (a_t a_kinds a_costs a_terms a_known : Nat) (sz : Nat) (v_size : Int32) (v_list : Int32) (v_told : Int32) (x1 : Int32) (rr : Int32) (kk' : Unit) (hf : fX0_isSet v_size x1 = some (rr, kk')) : Met l yX0_isSet (Cond.code yX0_isSet cX0_isSet 2 (some .boolean) :: wA) rX0_isSet (q_Pre D cI cJ cZ cS tb [.ref a_t, .int x1] sz (wX0_isSet cI cJ cZ cS a_t a_kinds a_costs a_terms a_known v_size v_list v_told)) (q_Ri D rr (va_A (wX0_isSet cI cJ cZ cS a_t a_kinds a_costs a_terms a_known v_size v_list v_told) sz) ((fun k : Unit => (wX0_isSet cI cJ cZ cS a_t a_kinds a_costs a_terms a_known v_size v_list v_told)) kk')) 0 0 (va_A (wX0_isSet cI cJ cZ cS a_t a_kinds a_costs a_terms a_known v_size v_list v_told) sz) := by
  refine q_enter (Qf := fun A => (q_Ri D rr A ((fun k : Unit => (wX0_isSet cI cJ cZ cS a_t a_kinds a_costs a_terms a_known v_size v_list v_told)) kk'))) (by decide) rfl (Nat.le_of_ble_eq_true rfl) ?_
  intro p e s m below meth c A ls fx hname h hl
  have hx := fx.1
  have hb := fx.2.1
  have hl : lv_has ls 2 [(0, .ref a_t), (1, .int x1)] := hl
  generalize h9 : s.heap = H at h ⊢
  clear h9
  generalize h9 : ([] : List Loc) = locs at h ⊢
  clear h9
  unfold fX0_isSet at hf
  refine lv_iload_n hx hb dX0_isSet_0 rfl (lv_at hl 1 rfl) ?_
  refine lv_if_lt (tgt := 16) hx hb dX0_isSet_1 (by decide) (fun c1 => ?_) (fun c1 => ?_)
  · have hf := it_t c1 hf
    refine lv_iconst (v := 0) hx hb dX0_isSet_16 (by decide) ?_
    exact q_retz (fun k : Unit => (wX0_isSet cI cJ cZ cS a_t a_kinds a_costs a_terms a_known v_size v_list v_told)) fx rfl hf h dX0_isSet_17
  have hf := it_f c1 hf
  refine lv_iload_n hx hb dX0_isSet_4 rfl (lv_at hl 1 rfl) ?_
  refine lv_aload_n hx hb dX0_isSet_5 rfl (lv_at hl 0 rfl) ?_
  obtain ⟨r2, k2, hg, hf⟩ := bR_inv hf
  refine q_ci (rest := [.int x1]) (ws' := (wX0_isSet cI cJ cZ cS a_t a_kinds a_costs a_terms a_known v_size v_list v_told)) (w1 := (wX0_lists cI cJ cZ cS a_t a_kinds a_costs a_terms a_known v_size v_list v_told)) fx h [0] rfl rfl rfl rfl (q_runV fx h hl.1 [0] rfl rfl (tX0_lists l D cI cJ cZ cS tb a_t a_kinds a_costs a_terms a_known H.size v_size v_list v_told r2 k2 hg) mvX0_lists k_350 ⟨rfl, rfl⟩ ⟨Nat.le_of_ble_eq_true rfl, Nat.le_of_ble_eq_true rfl⟩ rfl rfl rfl rfl (Nat.le_of_ble_eq_true rfl) dX0_isSet_6 ⟨Nat.le_of_ble_eq_true rfl, Nat.le_of_ble_eq_true rfl⟩) (fun H locs h => ?_)
  refine lv_icmp_ge (tgt := 16) hx hb dX0_isSet_9 (by decide) (fun c3 => ?_) (fun c3 => ?_)
  · have hf := it_t c3 hf
    refine lv_iconst (v := 0) hx hb dX0_isSet_16 (by decide) ?_
    exact q_retz (fun k : Unit => (wX0_isSet cI cJ cZ cS a_t a_kinds a_costs a_terms a_known v_size v_list v_told)) fx rfl hf h dX0_isSet_17
  have hf := it_f c3 hf
  refine lv_iconst (v := 1) hx hb dX0_isSet_12 (by decide) ?_
  refine lv_goto (tgt := 17) hx hb dX0_isSet_13 (by decide) ?_
  exact q_retz (fun k : Unit => (wX0_isSet cI cJ cZ cS a_t a_kinds a_costs a_terms a_known v_size v_list v_told)) fx rfl hf h dX0_isSet_17
/-! X4_list -/
abbrev wX4_list (cI cJ cZ cS : ClassId) (a_t a_party a_party_kinds a_party_costs a_party_terms a_party_known a_kept a_tape a_telephone a_sheets a_findings : Nat) (v_isKept : Int32) (v_party_size : Int32) (v_party_list : Int32) (v_party_told : Int32) (v_findings : Nat → Int32) : va_W := [(a_t, .inr (4, [.ref a_party, .ref a_kept, .int v_isKept, .ref a_tape, .ref a_telephone, .ref a_sheets, .ref a_findings])), (a_party, .inr (0, [.int v_party_size, .int v_party_list, .int v_party_told, .ref a_party_kinds, .ref a_party_costs, .ref a_party_terms, .ref a_party_known])), (a_findings, .inl (cI, 7, .inl v_findings))]
abbrev rX4_list : Room := { frames := 2, cells := 0, slots := 0, locals := 41 }
def fX4_list (v_party_size : Int32) (v_party_list : Int32) (v_findings : Nat → Int32) (x1 : Int32) : Option (Int32 × Int32 × (Nat → Int32)) :=
  bR (fX0_isSet v_party_size x1) (fun r1 k1 =>
  (if r1 = 0 then (
  bR (fX4_found v_findings (-1000000001)) (fun r3 k3 =>
  some (r3, (v_party_list, k3))))
  else (
  some (v_party_list, (x1, v_findings)))))
set_option maxRecDepth 100000 in
set_option maxHeartbeats 4000000 in
theorem tX4_list (l : Launch) (D : va_G) (cI cJ cZ cS : ClassId) (tb : Nat) (a_t a_party a_party_kinds a_party_costs a_party_terms a_party_known a_kept a_tape a_telephone a_sheets a_findings : Nat) (sz : Nat) (v_isKept : Int32) (v_party_size : Int32) (v_party_list : Int32) (v_party_told : Int32) (v_findings : Nat → Int32) (x1 : Int32) (rr : Int32) (kk' : Int32 × (Nat → Int32)) (hf : fX4_list v_party_size v_party_list v_findings x1 = some (rr, kk')) : Met l yX4_list (Cond.code yX4_list cX4_list 3 (some .int) :: wA) rX4_list (q_Pre D cI cJ cZ cS tb [.ref a_t, .int x1] sz (wX4_list cI cJ cZ cS a_t a_party a_party_kinds a_party_costs a_party_terms a_party_known a_kept a_tape a_telephone a_sheets a_findings v_isKept v_party_size v_party_list v_party_told v_findings)) (q_Ri D rr (va_A (wX4_list cI cJ cZ cS a_t a_party a_party_kinds a_party_costs a_party_terms a_party_known a_kept a_tape a_telephone a_sheets a_findings v_isKept v_party_size v_party_list v_party_told v_findings) sz) ((fun k : Int32 × (Nat → Int32) => (wX4_list cI cJ cZ cS a_t a_party a_party_kinds a_party_costs a_party_terms a_party_known a_kept a_tape a_telephone a_sheets a_findings v_isKept v_party_size k.1 v_party_told k.2)) kk')) 0 0 (va_A (wX4_list cI cJ cZ cS a_t a_party a_party_kinds a_party_costs a_party_terms a_party_known a_kept a_tape a_telephone a_sheets a_findings v_isKept v_party_size v_party_list v_party_told v_findings) sz) := by
  refine q_enter (Qf := fun A => (q_Ri D rr A ((fun k : Int32 × (Nat → Int32) => (wX4_list cI cJ cZ cS a_t a_party a_party_kinds a_party_costs a_party_terms a_party_known a_kept a_tape a_telephone a_sheets a_findings v_isKept v_party_size k.1 v_party_told k.2)) kk'))) (by decide) rfl (Nat.le_of_ble_eq_true rfl) ?_
  intro p e s m below meth c A ls fx hname h hl
  have hx := fx.1
  have hb := fx.2.1
  have hl : lv_has ls 3 [(0, .ref a_t), (1, .int x1)] := hl
  generalize h9 : s.heap = H at h ⊢
  clear h9
  generalize h9 : ([] : List Loc) = locs at h ⊢
  clear h9
  unfold fX4_list at hf
  refine lv_aload_n hx hb dX4_list_0 rfl (lv_at hl 0 rfl) ?_
  refine q_get (v := .ref a_party) fx inX4 h 0 rfl rfl 0 (by decide) k_174 rfl dX4_list_1 ?_
  refine lv_iload_n hx hb dX4_list_4 rfl (lv_at hl 1 rfl) ?_
  obtain ⟨r1, k1, hg, hf⟩ := bR_inv hf
  refine q_ci (rest := []) (ws' := (wX4_list cI cJ cZ cS a_t a_party a_party_kinds a_party_costs a_party_terms a_party_known a_kept a_tape a_telephone a_sheets a_findings v_isKept v_party_size v_party_list v_party_told v_findings)) (w1 := (wX0_isSet cI cJ cZ cS a_party a_party_kinds a_party_costs a_party_terms a_party_known v_party_size v_party_list v_party_told)) fx h [1] rfl rfl rfl rfl (q_runV fx h hl.1 [1] rfl rfl (tX0_isSet l D cI cJ cZ cS tb a_party a_party_kinds a_party_costs a_party_terms a_party_known H.size v_party_size v_party_list v_party_told x1 r1 k1 hg) mvX0_isSet k_346 ⟨rfl, rfl⟩ ⟨Nat.le_of_ble_eq_true rfl, Nat.le_of_ble_eq_true rfl⟩ rfl rfl rfl rfl (Nat.le_of_ble_eq_true rfl) dX4_list_5 ⟨Nat.le_of_ble_eq_true rfl, Nat.le_of_ble_eq_true rfl⟩) (fun H locs h => ?_)
  refine lv_if_ne (tgt := 18) hx hb dX4_list_8 (by decide) (fun c2 => ?_) (fun c2 => ?_)
  · have hf := it_f c2 hf
    refine lv_aload_n hx hb dX4_list_18 rfl (lv_at hl 0 rfl) ?_
    refine q_get (v := .ref a_party) fx inX4 h 0 rfl rfl 0 (by decide) k_174 rfl dX4_list_19 ?_
    refine q_getN (v := .int v_party_list) fx inX0 h 1 rfl rfl 1 (by decide) nf_3 rfl dX4_list_22 ?_
    refine lv_istore_n (lv' := [(2, .int v_party_list), (0, .ref a_t), (1, .int x1)]) hx hb dX4_list_25 rfl hl (by decide) rfl (fun ls hl => ?_)
    refine lv_aload_n hx hb dX4_list_26 rfl (lv_at hl 1 rfl) ?_
    refine q_get (v := .ref a_party) fx inX4 h 0 rfl rfl 0 (by decide) k_174 rfl dX4_list_27 ?_
    refine lv_iload_n hx hb dX4_list_30 rfl (lv_at hl 2 rfl) ?_
    refine q_putN (v := .int x1) (ws' := (wX4_list cI cJ cZ cS a_t a_party a_party_kinds a_party_costs a_party_terms a_party_known a_kept a_tape a_telephone a_sheets a_findings v_isKept v_party_size x1 v_party_told v_findings)) fx inX0 tyX0 tyX0_ok nmX0 h 1 rfl rfl 1 (by decide) nf_3 rfl rfl rfl (Nat.le_of_ble_eq_true rfl) rfl dX4_list_31 (fun H locs h => ?_)
    refine lv_iload_n hx hb dX4_list_34 rfl (lv_at hl 0 rfl) ?_
    exact q_reti (fun k : Int32 × (Nat → Int32) => (wX4_list cI cJ cZ cS a_t a_party a_party_kinds a_party_costs a_party_terms a_party_known a_kept a_tape a_telephone a_sheets a_findings v_isKept v_party_size k.1 v_party_told k.2)) fx hf h dX4_list_35
  have hf := it_t c2 hf
  refine lv_aload_n hx hb dX4_list_11 rfl (lv_at hl 0 rfl) ?_
  refine q_ldc fx k_206 dX4_list_12 ?_
  obtain ⟨r3, k3, hg, hf⟩ := bR_inv hf
  refine q_ci (rest := []) (ws' := (wX4_list cI cJ cZ cS a_t a_party a_party_kinds a_party_costs a_party_terms a_party_known a_kept a_tape a_telephone a_sheets a_findings v_isKept v_party_size v_party_list v_party_told k3)) (w1 := (wX4_found cI cJ cZ cS a_t a_party a_kept a_tape a_telephone a_sheets a_findings v_isKept k3)) fx h [0, 2] rfl rfl rfl rfl (q_runV fx h hl.1 [0, 2] rfl rfl (tX4_found l D cI cJ cZ cS tb a_t a_party a_kept a_tape a_telephone a_sheets a_findings H.size v_isKept v_findings (-1000000001) r3 k3 hg) mvX4_found k_207 ⟨rfl, rfl⟩ ⟨Nat.le_of_ble_eq_true rfl, Nat.le_of_ble_eq_true rfl⟩ rfl rfl rfl rfl (Nat.le_of_ble_eq_true rfl) dX4_list_14 ⟨Nat.le_of_ble_eq_true rfl, Nat.le_of_ble_eq_true rfl⟩) (fun H locs h => ?_)
  exact q_reti (fun k : Int32 × (Nat → Int32) => (wX4_list cI cJ cZ cS a_t a_party a_party_kinds a_party_costs a_party_terms a_party_known a_kept a_tape a_telephone a_sheets a_findings v_isKept v_party_size k.1 v_party_told k.2)) fx hf h dX4_list_17
/-! X0_isSettled -/
abbrev wX0_isSettled (cI cJ cZ cS : ClassId) (a_t a_kinds a_costs a_terms a_known : Nat) (v_size : Int32) (v_list : Int32) (v_told : Int32) (v_kinds : Nat → Int32) (v_terms : Nat → Int64) (v_known : Nat → Int32) : va_W := [(a_t, .inr (0, [.int v_size, .int v_list, .int v_told, .ref a_kinds, .ref a_costs, .ref a_terms, .ref a_known])), (a_kinds, .inl (cI, 8, .inl v_kinds)), (a_terms, .inl (cJ, 32, .inr (.inl v_terms))), (a_known, .inl (cI, 256, .inl v_known))]
abbrev rX0_isSettled : Room := { frames := 4, cells := 0, slots := 0, locals := 90 }
def fX0_isSettled (v_size : Int32) (v_kinds : Nat → Int32) (v_terms : Nat → Int64) (v_known : Nat → Int32) (x1 : Int32) : Option (Int32 × (Nat → Int32)) :=
  bR (fX0_comers v_size v_kinds v_terms v_known x1) (fun r1 k1 =>
  (if r1 = x1 then (
  some (1, k1))
  else (
  some (0, k1))))
set_option maxRecDepth 100000 in
set_option maxHeartbeats 4000000 in
theorem tX0_isSettled (l : Launch) (D : va_G) (cI cJ cZ cS : ClassId) (tb : Nat) (a_t a_kinds a_costs a_terms a_known : Nat) (sz : Nat) (v_size : Int32) (v_list : Int32) (v_told : Int32) (v_kinds : Nat → Int32) (v_terms : Nat → Int64) (v_known : Nat → Int32) (x1 : Int32) (rr : Int32) (kk' : (Nat → Int32)) (hf : fX0_isSettled v_size v_kinds v_terms v_known x1 = some (rr, kk')) : Met l yX0_isSettled (Cond.code yX0_isSettled cX0_isSettled 2 (some .boolean) :: wA) rX0_isSettled (q_Pre D cI cJ cZ cS tb [.ref a_t, .int x1] sz (wX0_isSettled cI cJ cZ cS a_t a_kinds a_costs a_terms a_known v_size v_list v_told v_kinds v_terms v_known)) (q_Ri D rr (va_A (wX0_isSettled cI cJ cZ cS a_t a_kinds a_costs a_terms a_known v_size v_list v_told v_kinds v_terms v_known) sz) ((fun k : (Nat → Int32) => (wX0_isSettled cI cJ cZ cS a_t a_kinds a_costs a_terms a_known v_size v_list v_told v_kinds v_terms k)) kk')) 0 0 (va_A (wX0_isSettled cI cJ cZ cS a_t a_kinds a_costs a_terms a_known v_size v_list v_told v_kinds v_terms v_known) sz) := by
  refine q_enter (Qf := fun A => (q_Ri D rr A ((fun k : (Nat → Int32) => (wX0_isSettled cI cJ cZ cS a_t a_kinds a_costs a_terms a_known v_size v_list v_told v_kinds v_terms k)) kk'))) (by decide) rfl (Nat.le_of_ble_eq_true rfl) ?_
  intro p e s m below meth c A ls fx hname h hl
  have hx := fx.1
  have hb := fx.2.1
  have hl : lv_has ls 2 [(0, .ref a_t), (1, .int x1)] := hl
  generalize h9 : s.heap = H at h ⊢
  clear h9
  generalize h9 : ([] : List Loc) = locs at h ⊢
  clear h9
  unfold fX0_isSettled at hf
  refine lv_aload_n hx hb dX0_isSettled_0 rfl (lv_at hl 0 rfl) ?_
  refine lv_iload_n hx hb dX0_isSettled_1 rfl (lv_at hl 1 rfl) ?_
  obtain ⟨r1, k1, hg, hf⟩ := bR_inv hf
  refine q_ci (rest := []) (ws' := (wX0_isSettled cI cJ cZ cS a_t a_kinds a_costs a_terms a_known v_size v_list v_told v_kinds v_terms k1)) (w1 := (wX0_comers cI cJ cZ cS a_t a_kinds a_costs a_terms a_known v_size v_list v_told v_kinds v_terms k1)) fx h [0, 1, 2, 3] rfl rfl rfl rfl (q_runV fx h hl.1 [0, 1, 2, 3] rfl rfl (tX0_comers l D cI cJ cZ cS tb a_t a_kinds a_costs a_terms a_known H.size v_size v_list v_told v_kinds v_terms v_known x1 r1 k1 hg) mvX0_comers k_362 ⟨rfl, rfl⟩ ⟨Nat.le_of_ble_eq_true rfl, Nat.le_of_ble_eq_true rfl⟩ rfl rfl rfl rfl (Nat.le_of_ble_eq_true rfl) dX0_isSettled_2 ⟨Nat.le_of_ble_eq_true rfl, Nat.le_of_ble_eq_true rfl⟩) (fun H locs h => ?_)
  refine lv_iload_n hx hb dX0_isSettled_5 rfl (lv_at hl 1 rfl) ?_
  refine lv_icmp_ne (tgt := 13) hx hb dX0_isSettled_6 (by decide) (fun c2 => ?_) (fun c2 => ?_)
  · have hf := it_f c2 hf
    refine lv_iconst (v := 0) hx hb dX0_isSettled_13 (by decide) ?_
    exact q_retz (fun k : (Nat → Int32) => (wX0_isSettled cI cJ cZ cS a_t a_kinds a_costs a_terms a_known v_size v_list v_told v_kinds v_terms k)) fx rfl hf h dX0_isSettled_14
  have hf := it_t c2 hf
  refine lv_iconst (v := 1) hx hb dX0_isSettled_9 (by decide) ?_
  refine lv_goto (tgt := 14) hx hb dX0_isSettled_10 (by decide) ?_
  exact q_retz (fun k : (Nat → Int32) => (wX0_isSettled cI cJ cZ cS a_t a_kinds a_costs a_terms a_known v_size v_list v_told v_kinds v_terms k)) fx rfl hf h dX0_isSettled_14
/-! X0_costsOf -/
abbrev wX0_costsOf (cI cJ cZ cS : ClassId) (a_t a_kinds a_costs a_terms a_known : Nat) (v_size : Int32) (v_list : Int32) (v_told : Int32) (v_costs : Nat → Int32) : va_W := [(a_t, .inr (0, [.int v_size, .int v_list, .int v_told, .ref a_kinds, .ref a_costs, .ref a_terms, .ref a_known])), (a_costs, .inl (cI, 8, .inl v_costs))]
abbrev rX0_costsOf : Room := { frames := 1, cells := 0, slots := 0, locals := 21 }
def fX0_costsOf_31 (v_size : Int32) (v_costs : Nat → Int32) (ag4 : Int32 → Int32 → Int32 → Option (Int32 × Unit)) (s0 : Int32) (s1 : Int32) (y1 : Int32) (y3 : Int32) : Option (Int32 × Unit) :=
  nm (s0 + s1) (fun u1 =>
  nm (y3 + 1) (fun u2 =>
  ag4 y1 u1 u2))
set_option maxRecDepth 100000 in
set_option maxHeartbeats 4000000 in
theorem LX0_costsOf_31 {p : Program} {l : Launch} {e : Env} {s : State} {m : MethodId} {args : Array Value} {below : List Frame} {meth : Method} {c : Code} {D : va_G} {cI cJ cZ cS : ClassId} {tb : Nat} {A : Nat → Prop} {a_t a_kinds a_costs a_terms a_known : Nat} {v_size : Int32} {v_list : Int32} {v_told : Int32} {v_costs : Nat → Int32} {rr : Int32} {kk' : Unit} (fx : q_Fx p s m args meth c cX0_costsOf 4 RX0 (some .int) D cI cJ cZ cS tb A) {ag4 : Int32 → Int32 → Int32 → Option (Int32 × Unit)} (hag4 : ∀ {y1 : Int32} {y2 : Int32} {y3 : Int32} {H : Heap} {locs : List Loc} {ls : Array Slot}, q_H D A s (wX0_costsOf cI cJ cZ cS a_t a_kinds a_costs a_terms a_known v_size v_list v_told v_costs) H locs → lv_has ls 4 [(0, .ref a_t), (1, .int y1), (2, .int y2), (3, .int y3)] → ag4 y1 y2 y3 = some (rr, kk') → W p l e rX0_costsOf s m args below meth c H locs 0 0 (MQ below (q_Ri D rr A ((fun k : Unit => (wX0_costsOf cI cJ cZ cS a_t a_kinds a_costs a_terms a_known v_size v_list v_told v_costs)) kk')) args s 0 0 A) (F0 m 4 ls [])) : ∀ {s0 : Int32} {s1 : Int32} {y1 : Int32} {y3 : Int32} {H : Heap} {locs : List Loc} {ls : Array Slot}, q_H D A s (wX0_costsOf cI cJ cZ cS a_t a_kinds a_costs a_terms a_known v_size v_list v_told v_costs) H locs → lv_has ls 4 [(0, .ref a_t), (1, .int y1), (3, .int y3)] → fX0_costsOf_31 v_size v_costs ag4 s0 s1 y1 y3 = some (rr, kk') → W p l e rX0_costsOf s m args below meth c H locs 0 0 (MQ below (q_Ri D rr A ((fun k : Unit => (wX0_costsOf cI cJ cZ cS a_t a_kinds a_costs a_terms a_known v_size v_list v_told v_costs)) kk')) args s 0 0 A) (F0 m 31 ls [.int s1, .int s0]) := by
  intro s0 s1 y1 y3 H locs ls h hl hf
  have hx := fx.1
  have hb := fx.2.1
  unfold fX0_costsOf_31 at hf
  refine lv_iadd hx hb dX0_costsOf_31 ?_
  obtain ⟨u1, eu1, hf⟩ := nm_inv hf
  refine lv_eqi eu1 ?_
  refine lv_istore_n (lv' := [(2, .int u1), (0, .ref a_t), (1, .int y1), (3, .int y3)]) hx hb dX0_costsOf_32 rfl hl (by decide) rfl (fun ls hl => ?_)
  obtain ⟨u2, eu2, hf⟩ := nm_inv hf
  refine lv_iinc (v := u2) (lv' := [(3, .int u2), (2, .int u1), (0, .ref a_t), (1, .int y1)]) hx hb dX0_costsOf_33 hl (k := 3) rfl (by rw [eu2]; rfl) (by decide) rfl (fun ls hl => ?_)
  refine lv_goto (tgt := 4) hx hb dX0_costsOf_36 (by decide) ?_
  exact hag4 h (lv_sub hl [2, 3, 1, 0] rfl) hf
def fX0_costsOf_4 (v_size : Int32) (v_costs : Nat → Int32) (ag4 : Int32 → Int32 → Int32 → Option (Int32 × Unit)) (y1 : Int32) (y2 : Int32) (y3 : Int32) : Option (Int32 × Unit) :=
  (if v_size ≤ y3 then (
  some (y2, ()))
  else (
  bR (fX4_isOn y3 y1) (fun r4 k4 =>
  (if r4 = 0 then (
  fX0_costsOf_31 v_size v_costs ag4 y2 0 y1 y3)
  else (
  gIn y3 8 (
  fX0_costsOf_31 v_size v_costs ag4 y2 (v_costs y3.toNatClampNeg) y1 y3))))))
set_option maxRecDepth 100000 in
set_option maxHeartbeats 4000000 in
theorem LX0_costsOf_4 {p : Program} {l : Launch} {e : Env} {s : State} {m : MethodId} {args : Array Value} {below : List Frame} {meth : Method} {c : Code} {D : va_G} {cI cJ cZ cS : ClassId} {tb : Nat} {A : Nat → Prop} {a_t a_kinds a_costs a_terms a_known : Nat} {v_size : Int32} {v_list : Int32} {v_told : Int32} {v_costs : Nat → Int32} {rr : Int32} {kk' : Unit} (fx : q_Fx p s m args meth c cX0_costsOf 4 RX0 (some .int) D cI cJ cZ cS tb A) {ag4 : Int32 → Int32 → Int32 → Option (Int32 × Unit)} (hag4 : ∀ {y1 : Int32} {y2 : Int32} {y3 : Int32} {H : Heap} {locs : List Loc} {ls : Array Slot}, q_H D A s (wX0_costsOf cI cJ cZ cS a_t a_kinds a_costs a_terms a_known v_size v_list v_told v_costs) H locs → lv_has ls 4 [(0, .ref a_t), (1, .int y1), (2, .int y2), (3, .int y3)] → ag4 y1 y2 y3 = some (rr, kk') → W p l e rX0_costsOf s m args below meth c H locs 0 0 (MQ below (q_Ri D rr A ((fun k : Unit => (wX0_costsOf cI cJ cZ cS a_t a_kinds a_costs a_terms a_known v_size v_list v_told v_costs)) kk')) args s 0 0 A) (F0 m 4 ls [])) : ∀ {y1 : Int32} {y2 : Int32} {y3 : Int32} {H : Heap} {locs : List Loc} {ls : Array Slot}, q_H D A s (wX0_costsOf cI cJ cZ cS a_t a_kinds a_costs a_terms a_known v_size v_list v_told v_costs) H locs → lv_has ls 4 [(0, .ref a_t), (1, .int y1), (2, .int y2), (3, .int y3)] → fX0_costsOf_4 v_size v_costs ag4 y1 y2 y3 = some (rr, kk') → W p l e rX0_costsOf s m args below meth c H locs 0 0 (MQ below (q_Ri D rr A ((fun k : Unit => (wX0_costsOf cI cJ cZ cS a_t a_kinds a_costs a_terms a_known v_size v_list v_told v_costs)) kk')) args s 0 0 A) (F0 m 4 ls []) := by
  intro y1 y2 y3 H locs ls h hl hf
  have hx := fx.1
  have hb := fx.2.1
  unfold fX0_costsOf_4 at hf
  refine lv_iload_n hx hb dX0_costsOf_4 rfl (lv_at hl 3 rfl) ?_
  refine lv_aload_n hx hb dX0_costsOf_5 rfl (lv_at hl 0 rfl) ?_
  refine q_get (v := .int v_size) fx inX0 h 0 rfl rfl 0 (by decide) k_80 rfl dX0_costsOf_6 ?_
  refine lv_icmp_ge (tgt := 39) hx hb dX0_costsOf_9 (by decide) (fun c3 => ?_) (fun c3 => ?_)
  · have hf := it_t c3 hf
    refine lv_iload_n hx hb dX0_costsOf_39 rfl (lv_at hl 2 rfl) ?_
    exact q_reti (fun k : Unit => (wX0_costsOf cI cJ cZ cS a_t a_kinds a_costs a_terms a_known v_size v_list v_told v_costs)) fx hf h dX0_costsOf_40
  have hf := it_f c3 hf
  refine lv_iload_n hx hb dX0_costsOf_12 rfl (lv_at hl 2 rfl) ?_
  refine lv_iload_n hx hb dX0_costsOf_13 rfl (lv_at hl 3 rfl) ?_
  refine lv_iload_n hx hb dX0_costsOf_14 rfl (lv_at hl 1 rfl) ?_
  obtain ⟨r4, k4, hg, hf⟩ := bR_inv hf
  refine q_ci (rest := [.int y2]) (ws' := (wX0_costsOf cI cJ cZ cS a_t a_kinds a_costs a_terms a_known v_size v_list v_told v_costs)) (w1 := (wX4_isOn cI cJ cZ cS)) fx h [] rfl rfl rfl rfl (q_runSN fx h hl.1 [] rfl rfl (tX4_isOn l D cI cJ cZ cS tb H.size y3 y1 r4 k4 hg) msX4_isOn nm_3 ⟨rfl, rfl⟩ ⟨Nat.le_of_ble_eq_true rfl, Nat.le_of_ble_eq_true rfl⟩ rfl rfl (Nat.le_of_ble_eq_true rfl) dX0_costsOf_15 ⟨Nat.le_of_ble_eq_true rfl, Nat.le_of_ble_eq_true rfl⟩) (fun H locs h => ?_)
  refine lv_if_eq (tgt := 30) hx hb dX0_costsOf_18 (by decide) (fun c5 => ?_) (fun c5 => ?_)
  · have hf := it_t c5 hf
    refine lv_iconst (v := 0) hx hb dX0_costsOf_30 (by decide) ?_
    exact LX0_costsOf_31 fx hag4 h (lv_sub hl [0, 1, 3] rfl) hf
  have hf := it_f c5 hf
  refine lv_aload_n hx hb dX0_costsOf_21 rfl (lv_at hl 0 rfl) ?_
  refine q_get (v := .ref a_costs) fx inX0 h 0 rfl rfl 4 (by decide) k_90 rfl dX0_costsOf_22 ?_
  refine lv_iload_n hx hb dX0_costsOf_25 rfl (lv_at hl 3 rfl) ?_
  obtain ⟨i6, hf⟩ := gIn_inv hf
  refine q_iald fx h 1 rfl i6 dX0_costsOf_26 ?_
  refine lv_goto (tgt := 31) hx hb dX0_costsOf_27 (by decide) ?_
  exact LX0_costsOf_31 fx hag4 h (lv_sub hl [0, 1, 3] rfl) hf
set_option maxRecDepth 100000 in
theorem EX0_costsOf_4 {p : Program} {l : Launch} {e : Env} {s : State} {m : MethodId} {args : Array Value} {below : List Frame} {meth : Method} {c : Code} {D : va_G} {cI cJ cZ cS : ClassId} {tb : Nat} {A : Nat → Prop} {a_t a_kinds a_costs a_terms a_known : Nat} {v_size : Int32} {v_list : Int32} {v_told : Int32} {v_costs : Nat → Int32} {rr : Int32} {kk' : Unit} (fx : q_Fx p s m args meth c cX0_costsOf 4 RX0 (some .int) D cI cJ cZ cS tb A) : ∀ (n : Nat), ∀ {y1 : Int32} {y2 : Int32} {y3 : Int32} {H : Heap} {locs : List Loc} {ls : Array Slot}, q_H D A s (wX0_costsOf cI cJ cZ cS a_t a_kinds a_costs a_terms a_known v_size v_list v_told v_costs) H locs → lv_has ls 4 [(0, .ref a_t), (1, .int y1), (2, .int y2), (3, .int y3)] → ll3 (fX0_costsOf_4 v_size v_costs) n y1 y2 y3 = some (rr, kk') → W p l e rX0_costsOf s m args below meth c H locs 0 0 (MQ below (q_Ri D rr A ((fun k : Unit => (wX0_costsOf cI cJ cZ cS a_t a_kinds a_costs a_terms a_known v_size v_list v_told v_costs)) kk')) args s 0 0 A) (F0 m 4 ls []) := by
  intro n
  induction n with
  | zero => intro y1 y2 y3 H locs ls h hl hf; exact (ll3_z hf).elim
  | succ n ih => intro y1 y2 y3 H locs ls h hl hf; exact LX0_costsOf_4 fx ih h hl (ll3_s hf)
def fX0_costsOf (v_size : Int32) (v_costs : Nat → Int32) (x1 : Int32) : Option (Int32 × Unit) :=
  ll3 (fX0_costsOf_4 v_size v_costs) qF x1 0 0
set_option maxRecDepth 100000 in
set_option maxHeartbeats 4000000 in
theorem tX0_costsOf (l : Launch) (D : va_G) (cI cJ cZ cS : ClassId) (tb : Nat) (a_t a_kinds a_costs a_terms a_known : Nat) (sz : Nat) (v_size : Int32) (v_list : Int32) (v_told : Int32) (v_costs : Nat → Int32) (x1 : Int32) (rr : Int32) (kk' : Unit) (hf : fX0_costsOf v_size v_costs x1 = some (rr, kk')) : Met l yX0_costsOf (Cond.code yX0_costsOf cX0_costsOf 4 (some .int) :: wA) rX0_costsOf (q_Pre D cI cJ cZ cS tb [.ref a_t, .int x1] sz (wX0_costsOf cI cJ cZ cS a_t a_kinds a_costs a_terms a_known v_size v_list v_told v_costs)) (q_Ri D rr (va_A (wX0_costsOf cI cJ cZ cS a_t a_kinds a_costs a_terms a_known v_size v_list v_told v_costs) sz) ((fun k : Unit => (wX0_costsOf cI cJ cZ cS a_t a_kinds a_costs a_terms a_known v_size v_list v_told v_costs)) kk')) 0 0 (va_A (wX0_costsOf cI cJ cZ cS a_t a_kinds a_costs a_terms a_known v_size v_list v_told v_costs) sz) := by
  refine q_enter (Qf := fun A => (q_Ri D rr A ((fun k : Unit => (wX0_costsOf cI cJ cZ cS a_t a_kinds a_costs a_terms a_known v_size v_list v_told v_costs)) kk'))) (by decide) rfl (Nat.le_of_ble_eq_true rfl) ?_
  intro p e s m below meth c A ls fx hname h hl
  have hx := fx.1
  have hb := fx.2.1
  have hl : lv_has ls 4 [(0, .ref a_t), (1, .int x1)] := hl
  generalize h9 : s.heap = H at h ⊢
  clear h9
  generalize h9 : ([] : List Loc) = locs at h ⊢
  clear h9
  unfold fX0_costsOf at hf
  refine lv_iconst (v := 0) hx hb dX0_costsOf_0 (by decide) ?_
  refine lv_istore_n (lv' := [(2, .int 0), (0, .ref a_t), (1, .int x1)]) hx hb dX0_costsOf_1 rfl hl (by decide) rfl (fun ls hl => ?_)
  refine lv_iconst (v := 0) hx hb dX0_costsOf_2 (by decide) ?_
  refine lv_istore_n (lv' := [(3, .int 0), (2, .int 0), (0, .ref a_t), (1, .int x1)]) hx hb dX0_costsOf_3 rfl hl (by decide) rfl (fun ls hl => ?_)
  exact EX0_costsOf_4 fx qF h (lv_sub hl [2, 3, 1, 0] rfl) hf
/-! X4_now -/
abbrev wX4_now (cI cJ cZ cS : ClassId) (a_t a_party a_party_kinds a_party_costs a_party_terms a_party_known a_kept a_tape a_telephone a_sheets a_findings : Nat) (v_isKept : Int32) (v_party_size : Int32) (v_party_list : Int32) (v_party_told : Int32) (v_party_kinds : Nat → Int32) (v_party_costs : Nat → Int32) (v_party_terms : Nat → Int64) (v_party_known : Nat → Int32) (v_findings : Nat → Int32) : va_W := [(a_t, .inr (4, [.ref a_party, .ref a_kept, .int v_isKept, .ref a_tape, .ref a_telephone, .ref a_sheets, .ref a_findings])), (a_party, .inr (0, [.int v_party_size, .int v_party_list, .int v_party_told, .ref a_party_kinds, .ref a_party_costs, .ref a_party_terms, .ref a_party_known])), (a_party_kinds, .inl (cI, 8, .inl v_party_kinds)), (a_party_costs, .inl (cI, 8, .inl v_party_costs)), (a_party_terms, .inl (cJ, 32, .inr (.inl v_party_terms))), (a_party_known, .inl (cI, 256, .inl v_party_known)), (a_findings, .inl (cI, 7, .inl v_findings))]
abbrev rX4_now : Room := { frames := 5, cells := 0, slots := 0, locals := 111 }
def fX4_now (v_party_size : Int32) (v_party_list : Int32) (v_party_kinds : Nat → Int32) (v_party_costs : Nat → Int32) (v_party_terms : Nat → Int64) (v_party_known : Nat → Int32) (v_findings : Nat → Int32) (x1 : Int32) : Option (Int32 × (Nat → Int32) × (Nat → Int32)) :=
  (if (x1).toInt < 0 ∨ 4 < (x1).toInt then (
  bR (fX4_found v_findings (-1000000001)) (fun r2 k2 =>
  some (r2, (v_party_known, k2))))
  else (if x1 = 0 then (
  some (v_party_list, (v_party_known, v_findings)))
  else (if x1 = 1 then (
  bR (fJ6_bitCount_0f7a4 v_party_list) (fun r5 k5 =>
  some (r5, (v_party_known, v_findings))))
  else (if x1 = 2 then (
  bR (fX0_comers v_party_size v_party_kinds v_party_terms v_party_known v_party_list) (fun r7 k7 =>
  some (r7, (k7, v_findings))))
  else (if x1 = 3 then (
  bR (fX0_isSettled v_party_size v_party_kinds v_party_terms v_party_known v_party_list) (fun r9 k9 =>
  bR (fX4_oneIf r9) (fun r10 k10 =>
  some (r10, (k9, v_findings)))))
  else (if x1 = 4 then (
  bR (fX0_costsOf v_party_size v_party_costs v_party_list) (fun r12 k12 =>
  some (r12, (v_party_known, v_findings))))
  else none))))))
set_option maxRecDepth 100000 in
set_option maxHeartbeats 4000000 in
theorem tX4_now (l : Launch) (D : va_G) (cI cJ cZ cS : ClassId) (tb : Nat) (a_t a_party a_party_kinds a_party_costs a_party_terms a_party_known a_kept a_tape a_telephone a_sheets a_findings : Nat) (sz : Nat) (v_isKept : Int32) (v_party_size : Int32) (v_party_list : Int32) (v_party_told : Int32) (v_party_kinds : Nat → Int32) (v_party_costs : Nat → Int32) (v_party_terms : Nat → Int64) (v_party_known : Nat → Int32) (v_findings : Nat → Int32) (x1 : Int32) (rr : Int32) (kk' : (Nat → Int32) × (Nat → Int32)) (hf : fX4_now v_party_size v_party_list v_party_kinds v_party_costs v_party_terms v_party_known v_findings x1 = some (rr, kk')) : Met l yX4_now (Cond.code yX4_now cX4_now 2 (some .int) :: wA) rX4_now (q_Pre D cI cJ cZ cS tb [.ref a_t, .int x1] sz (wX4_now cI cJ cZ cS a_t a_party a_party_kinds a_party_costs a_party_terms a_party_known a_kept a_tape a_telephone a_sheets a_findings v_isKept v_party_size v_party_list v_party_told v_party_kinds v_party_costs v_party_terms v_party_known v_findings)) (q_Ri D rr (va_A (wX4_now cI cJ cZ cS a_t a_party a_party_kinds a_party_costs a_party_terms a_party_known a_kept a_tape a_telephone a_sheets a_findings v_isKept v_party_size v_party_list v_party_told v_party_kinds v_party_costs v_party_terms v_party_known v_findings) sz) ((fun k : (Nat → Int32) × (Nat → Int32) => (wX4_now cI cJ cZ cS a_t a_party a_party_kinds a_party_costs a_party_terms a_party_known a_kept a_tape a_telephone a_sheets a_findings v_isKept v_party_size v_party_list v_party_told v_party_kinds v_party_costs v_party_terms k.1 k.2)) kk')) 0 0 (va_A (wX4_now cI cJ cZ cS a_t a_party a_party_kinds a_party_costs a_party_terms a_party_known a_kept a_tape a_telephone a_sheets a_findings v_isKept v_party_size v_party_list v_party_told v_party_kinds v_party_costs v_party_terms v_party_known v_findings) sz) := by
  refine q_enter (Qf := fun A => (q_Ri D rr A ((fun k : (Nat → Int32) × (Nat → Int32) => (wX4_now cI cJ cZ cS a_t a_party a_party_kinds a_party_costs a_party_terms a_party_known a_kept a_tape a_telephone a_sheets a_findings v_isKept v_party_size v_party_list v_party_told v_party_kinds v_party_costs v_party_terms k.1 k.2)) kk'))) (by decide) rfl (Nat.le_of_ble_eq_true rfl) ?_
  intro p e s m below meth c A ls fx hname h hl
  have hx := fx.1
  have hb := fx.2.1
  have hl : lv_has ls 2 [(0, .ref a_t), (1, .int x1)] := hl
  generalize h9 : s.heap = H at h ⊢
  clear h9
  generalize h9 : ([] : List Loc) = locs at h ⊢
  clear h9
  unfold fX4_now at hf
  refine lv_iload_n hx hb dX4_now_0 rfl (lv_at hl 1 rfl) ?_
  rcases it_or hf with ⟨c1, hf⟩ | ⟨c1, hf⟩
  · refine lv_tableOut (tgt := 103) hx hb dX4_now_1 c1 (by decide) ?_
    refine lv_aload_n hx hb dX4_now_103 rfl (lv_at hl 0 rfl) ?_
    refine q_ldc fx k_206 dX4_now_104 ?_
    obtain ⟨r2, k2, hg, hf⟩ := bR_inv hf
    refine q_ci (rest := []) (ws' := (wX4_now cI cJ cZ cS a_t a_party a_party_kinds a_party_costs a_party_terms a_party_known a_kept a_tape a_telephone a_sheets a_findings v_isKept v_party_size v_party_list v_party_told v_party_kinds v_party_costs v_party_terms v_party_known k2)) (w1 := (wX4_found cI cJ cZ cS a_t a_party a_kept a_tape a_telephone a_sheets a_findings v_isKept k2)) fx h [0, 6] rfl rfl rfl rfl (q_runV fx h hl.1 [0, 6] rfl rfl (tX4_found l D cI cJ cZ cS tb a_t a_party a_kept a_tape a_telephone a_sheets a_findings H.size v_isKept v_findings (-1000000001) r2 k2 hg) mvX4_found k_207 ⟨rfl, rfl⟩ ⟨Nat.le_of_ble_eq_true rfl, Nat.le_of_ble_eq_true rfl⟩ rfl rfl rfl rfl (Nat.le_of_ble_eq_true rfl) dX4_now_106 ⟨Nat.le_of_ble_eq_true rfl, Nat.le_of_ble_eq_true rfl⟩) (fun H locs h => ?_)
    exact q_reti (fun k : (Nat → Int32) × (Nat → Int32) => (wX4_now cI cJ cZ cS a_t a_party a_party_kinds a_party_costs a_party_terms a_party_known a_kept a_tape a_telephone a_sheets a_findings v_isKept v_party_size v_party_list v_party_told v_party_kinds v_party_costs v_party_terms k.1 k.2)) fx hf h dX4_now_109
  have c1 := not_or.mp c1
  rcases it_or hf with ⟨c3, hf⟩ | ⟨c3, hf⟩
  · refine lv_tableIn (off := 35) (tgt := 36) hx hb dX4_now_1 c1.1 c1.2 (by rw [c3]; rfl) (by decide) ?_
    refine lv_aload_n hx hb dX4_now_36 rfl (lv_at hl 0 rfl) ?_
    refine q_get (v := .ref a_party) fx inX4 h 0 rfl rfl 0 (by decide) k_174 rfl dX4_now_37 ?_
    refine q_getN (v := .int v_party_list) fx inX0 h 1 rfl rfl 1 (by decide) nf_3 rfl dX4_now_40 ?_
    exact q_reti (fun k : (Nat → Int32) × (Nat → Int32) => (wX4_now cI cJ cZ cS a_t a_party a_party_kinds a_party_costs a_party_terms a_party_known a_kept a_tape a_telephone a_sheets a_findings v_isKept v_party_size v_party_list v_party_told v_party_kinds v_party_costs v_party_terms k.1 k.2)) fx hf h dX4_now_43
  rcases it_or hf with ⟨c4, hf⟩ | ⟨c4, hf⟩
  · refine lv_tableIn (off := 43) (tgt := 44) hx hb dX4_now_1 c1.1 c1.2 (by rw [c4]; rfl) (by decide) ?_
    refine lv_aload_n hx hb dX4_now_44 rfl (lv_at hl 0 rfl) ?_
    refine q_get (v := .ref a_party) fx inX4 h 0 rfl rfl 0 (by decide) k_174 rfl dX4_now_45 ?_
    refine q_getN (v := .int v_party_list) fx inX0 h 1 rfl rfl 1 (by decide) nf_3 rfl dX4_now_48 ?_
    obtain ⟨r5, k5, hg, hf⟩ := bR_inv hf
    refine q_ci (rest := []) (ws' := (wX4_now cI cJ cZ cS a_t a_party a_party_kinds a_party_costs a_party_terms a_party_known a_kept a_tape a_telephone a_sheets a_findings v_isKept v_party_size v_party_list v_party_told v_party_kinds v_party_costs v_party_terms v_party_known v_findings)) (w1 := (wJ6_bitCount_0f7a4 cI cJ cZ cS)) fx h [] rfl rfl rfl rfl (q_runS fx h hl.1 [] rfl rfl (tJ6_bitCount_0f7a4 l D cI cJ cZ cS tb H.size v_party_list r5 k5 hg) msJ6_bitCount_0f7a4 k_239 ⟨rfl, rfl⟩ ⟨Nat.le_of_ble_eq_true rfl, Nat.le_of_ble_eq_true rfl⟩ rfl rfl (Nat.le_of_ble_eq_true rfl) dX4_now_51 ⟨Nat.le_of_ble_eq_true rfl, Nat.le_of_ble_eq_true rfl⟩) (fun H locs h => ?_)
    exact q_reti (fun k : (Nat → Int32) × (Nat → Int32) => (wX4_now cI cJ cZ cS a_t a_party a_party_kinds a_party_costs a_party_terms a_party_known a_kept a_tape a_telephone a_sheets a_findings v_isKept v_party_size v_party_list v_party_told v_party_kinds v_party_costs v_party_terms k.1 k.2)) fx hf h dX4_now_54
  rcases it_or hf with ⟨c6, hf⟩ | ⟨c6, hf⟩
  · refine lv_tableIn (off := 54) (tgt := 55) hx hb dX4_now_1 c1.1 c1.2 (by rw [c6]; rfl) (by decide) ?_
    refine lv_aload_n hx hb dX4_now_55 rfl (lv_at hl 0 rfl) ?_
    refine q_get (v := .ref a_party) fx inX4 h 0 rfl rfl 0 (by decide) k_174 rfl dX4_now_56 ?_
    refine lv_aload_n hx hb dX4_now_59 rfl (lv_at hl 0 rfl) ?_
    refine q_get (v := .ref a_party) fx inX4 h 0 rfl rfl 0 (by decide) k_174 rfl dX4_now_60 ?_
    refine q_getN (v := .int v_party_list) fx inX0 h 1 rfl rfl 1 (by decide) nf_3 rfl dX4_now_63 ?_
    obtain ⟨r7, k7, hg, hf⟩ := bR_inv hf
    refine q_ci (rest := []) (ws' := (wX4_now cI cJ cZ cS a_t a_party a_party_kinds a_party_costs a_party_terms a_party_known a_kept a_tape a_telephone a_sheets a_findings v_isKept v_party_size v_party_list v_party_told v_party_kinds v_party_costs v_party_terms k7 v_findings)) (w1 := (wX0_comers cI cJ cZ cS a_party a_party_kinds a_party_costs a_party_terms a_party_known v_party_size v_party_list v_party_told v_party_kinds v_party_terms k7)) fx h [1, 2, 4, 5] rfl rfl rfl rfl (q_runV fx h hl.1 [1, 2, 4, 5] rfl rfl (tX0_comers l D cI cJ cZ cS tb a_party a_party_kinds a_party_costs a_party_terms a_party_known H.size v_party_size v_party_list v_party_told v_party_kinds v_party_terms v_party_known v_party_list r7 k7 hg) mvX0_comers k_224 ⟨rfl, rfl⟩ ⟨Nat.le_of_ble_eq_true rfl, Nat.le_of_ble_eq_true rfl⟩ rfl rfl rfl rfl (Nat.le_of_ble_eq_true rfl) dX4_now_66 ⟨Nat.le_of_ble_eq_true rfl, Nat.le_of_ble_eq_true rfl⟩) (fun H locs h => ?_)
    exact q_reti (fun k : (Nat → Int32) × (Nat → Int32) => (wX4_now cI cJ cZ cS a_t a_party a_party_kinds a_party_costs a_party_terms a_party_known a_kept a_tape a_telephone a_sheets a_findings v_isKept v_party_size v_party_list v_party_told v_party_kinds v_party_costs v_party_terms k.1 k.2)) fx hf h dX4_now_69
  rcases it_or hf with ⟨c8, hf⟩ | ⟨c8, hf⟩
  · refine lv_tableIn (off := 69) (tgt := 70) hx hb dX4_now_1 c1.1 c1.2 (by rw [c8]; rfl) (by decide) ?_
    refine lv_aload_n hx hb dX4_now_70 rfl (lv_at hl 0 rfl) ?_
    refine q_get (v := .ref a_party) fx inX4 h 0 rfl rfl 0 (by decide) k_174 rfl dX4_now_71 ?_
    refine lv_aload_n hx hb dX4_now_74 rfl (lv_at hl 0 rfl) ?_
    refine q_get (v := .ref a_party) fx inX4 h 0 rfl rfl 0 (by decide) k_174 rfl dX4_now_75 ?_
    refine q_getN (v := .int v_party_list) fx inX0 h 1 rfl rfl 1 (by decide) nf_3 rfl dX4_now_78 ?_
    obtain ⟨r9, k9, hg, hf⟩ := bR_inv hf
    refine q_ci (rest := []) (ws' := (wX4_now cI cJ cZ cS a_t a_party a_party_kinds a_party_costs a_party_terms a_party_known a_kept a_tape a_telephone a_sheets a_findings v_isKept v_party_size v_party_list v_party_told v_party_kinds v_party_costs v_party_terms k9 v_findings)) (w1 := (wX0_isSettled cI cJ cZ cS a_party a_party_kinds a_party_costs a_party_terms a_party_known v_party_size v_party_list v_party_told v_party_kinds v_party_terms k9)) fx h [1, 2, 4, 5] rfl rfl rfl rfl (q_runV fx h hl.1 [1, 2, 4, 5] rfl rfl (tX0_isSettled l D cI cJ cZ cS tb a_party a_party_kinds a_party_costs a_party_terms a_party_known H.size v_party_size v_party_list v_party_told v_party_kinds v_party_terms v_party_known v_party_list r9 k9 hg) mvX0_isSettled k_358 ⟨rfl, rfl⟩ ⟨Nat.le_of_ble_eq_true rfl, Nat.le_of_ble_eq_true rfl⟩ rfl rfl rfl rfl (Nat.le_of_ble_eq_true rfl) dX4_now_81 ⟨Nat.le_of_ble_eq_true rfl, Nat.le_of_ble_eq_true rfl⟩) (fun H locs h => ?_)
    obtain ⟨r10, k10, hg, hf⟩ := bR_inv hf
    refine q_ci (rest := []) (ws' := (wX4_now cI cJ cZ cS a_t a_party a_party_kinds a_party_costs a_party_terms a_party_known a_kept a_tape a_telephone a_sheets a_findings v_isKept v_party_size v_party_list v_party_told v_party_kinds v_party_costs v_party_terms k9 v_findings)) (w1 := (wX4_oneIf cI cJ cZ cS)) fx h [] rfl rfl rfl rfl (q_runS fx h hl.1 [] rfl rfl (tX4_oneIf l D cI cJ cZ cS tb H.size r9 r10 k10 hg) msX4_oneIf k_246 ⟨rfl, rfl⟩ ⟨Nat.le_of_ble_eq_true rfl, Nat.le_of_ble_eq_true rfl⟩ rfl rfl (Nat.le_of_ble_eq_true rfl) dX4_now_84 ⟨Nat.le_of_ble_eq_true rfl, Nat.le_of_ble_eq_true rfl⟩) (fun H locs h => ?_)
    exact q_reti (fun k : (Nat → Int32) × (Nat → Int32) => (wX4_now cI cJ cZ cS a_t a_party a_party_kinds a_party_costs a_party_terms a_party_known a_kept a_tape a_telephone a_sheets a_findings v_isKept v_party_size v_party_list v_party_told v_party_kinds v_party_costs v_party_terms k.1 k.2)) fx hf h dX4_now_87
  rcases it_or hf with ⟨c11, hf⟩ | ⟨c11, hf⟩
  · refine lv_tableIn (off := 87) (tgt := 88) hx hb dX4_now_1 c1.1 c1.2 (by rw [c11]; rfl) (by decide) ?_
    refine lv_aload_n hx hb dX4_now_88 rfl (lv_at hl 0 rfl) ?_
    refine q_get (v := .ref a_party) fx inX4 h 0 rfl rfl 0 (by decide) k_174 rfl dX4_now_89 ?_
    refine lv_aload_n hx hb dX4_now_92 rfl (lv_at hl 0 rfl) ?_
    refine q_get (v := .ref a_party) fx inX4 h 0 rfl rfl 0 (by decide) k_174 rfl dX4_now_93 ?_
    refine q_getN (v := .int v_party_list) fx inX0 h 1 rfl rfl 1 (by decide) nf_3 rfl dX4_now_96 ?_
    obtain ⟨r12, k12, hg, hf⟩ := bR_inv hf
    refine q_ci (rest := []) (ws' := (wX4_now cI cJ cZ cS a_t a_party a_party_kinds a_party_costs a_party_terms a_party_known a_kept a_tape a_telephone a_sheets a_findings v_isKept v_party_size v_party_list v_party_told v_party_kinds v_party_costs v_party_terms v_party_known v_findings)) (w1 := (wX0_costsOf cI cJ cZ cS a_party a_party_kinds a_party_costs a_party_terms a_party_known v_party_size v_party_list v_party_told v_party_costs)) fx h [1, 3] rfl rfl rfl rfl (q_runV fx h hl.1 [1, 3] rfl rfl (tX0_costsOf l D cI cJ cZ cS tb a_party a_party_kinds a_party_costs a_party_terms a_party_known H.size v_party_size v_party_list v_party_told v_party_costs v_party_list r12 k12 hg) mvX0_costsOf k_363 ⟨rfl, rfl⟩ ⟨Nat.le_of_ble_eq_true rfl, Nat.le_of_ble_eq_true rfl⟩ rfl rfl rfl rfl (Nat.le_of_ble_eq_true rfl) dX4_now_99 ⟨Nat.le_of_ble_eq_true rfl, Nat.le_of_ble_eq_true rfl⟩) (fun H locs h => ?_)
    exact q_reti (fun k : (Nat → Int32) × (Nat → Int32) => (wX4_now cI cJ cZ cS a_t a_party a_party_kinds a_party_costs a_party_terms a_party_known a_kept a_tape a_telephone a_sheets a_findings v_isKept v_party_size v_party_list v_party_told v_party_kinds v_party_costs v_party_terms k.1 k.2)) fx hf h dX4_now_102
  cases hf
/-! X0_called -/
abbrev wX0_called (cI cJ cZ cS : ClassId) (a_t a_kinds a_costs a_terms a_known : Nat) (v_size : Int32) (v_list : Int32) (v_told : Int32) (v_kinds : Nat → Int32) (v_terms : Nat → Int64) (v_known : Nat → Int32) : va_W := [(a_t, .inr (0, [.int v_size, .int v_list, .int v_told, .ref a_kinds, .ref a_costs, .ref a_terms, .ref a_known])), (a_kinds, .inl (cI, 8, .inl v_kinds)), (a_terms, .inl (cJ, 32, .inr (.inl v_terms))), (a_known, .inl (cI, 256, .inl v_known))]
abbrev rX0_called : Room := { frames := 4, cells := 0, slots := 0, locals := 90 }
def fX0_called (v_size : Int32) (v_kinds : Nat → Int32) (v_terms : Nat → Int64) (v_known : Nat → Int32) (x1 : Int32) (x2 : Int32) : Option (Int32 × (Nat → Int32)) :=
  bR (fX0_comers v_size v_kinds v_terms v_known x2) (fun r1 k1 =>
  some ((x2 &&& ((jshl 1 x1) ^^^ (-1))) ||| (r1 &&& (jshl 1 x1)), k1))
set_option maxRecDepth 100000 in
set_option maxHeartbeats 4000000 in
theorem tX0_called (l : Launch) (D : va_G) (cI cJ cZ cS : ClassId) (tb : Nat) (a_t a_kinds a_costs a_terms a_known : Nat) (sz : Nat) (v_size : Int32) (v_list : Int32) (v_told : Int32) (v_kinds : Nat → Int32) (v_terms : Nat → Int64) (v_known : Nat → Int32) (x1 : Int32) (x2 : Int32) (rr : Int32) (kk' : (Nat → Int32)) (hf : fX0_called v_size v_kinds v_terms v_known x1 x2 = some (rr, kk')) : Met l yX0_called (Cond.code yX0_called cX0_called 3 (some .int) :: wA) rX0_called (q_Pre D cI cJ cZ cS tb [.ref a_t, .int x1, .int x2] sz (wX0_called cI cJ cZ cS a_t a_kinds a_costs a_terms a_known v_size v_list v_told v_kinds v_terms v_known)) (q_Ri D rr (va_A (wX0_called cI cJ cZ cS a_t a_kinds a_costs a_terms a_known v_size v_list v_told v_kinds v_terms v_known) sz) ((fun k : (Nat → Int32) => (wX0_called cI cJ cZ cS a_t a_kinds a_costs a_terms a_known v_size v_list v_told v_kinds v_terms k)) kk')) 0 0 (va_A (wX0_called cI cJ cZ cS a_t a_kinds a_costs a_terms a_known v_size v_list v_told v_kinds v_terms v_known) sz) := by
  refine q_enter (Qf := fun A => (q_Ri D rr A ((fun k : (Nat → Int32) => (wX0_called cI cJ cZ cS a_t a_kinds a_costs a_terms a_known v_size v_list v_told v_kinds v_terms k)) kk'))) (by decide) rfl (Nat.le_of_ble_eq_true rfl) ?_
  intro p e s m below meth c A ls fx hname h hl
  have hx := fx.1
  have hb := fx.2.1
  have hl : lv_has ls 3 [(0, .ref a_t), (1, .int x1), (2, .int x2)] := hl
  generalize h9 : s.heap = H at h ⊢
  clear h9
  generalize h9 : ([] : List Loc) = locs at h ⊢
  clear h9
  unfold fX0_called at hf
  refine lv_iload_n hx hb dX0_called_0 rfl (lv_at hl 2 rfl) ?_
  refine lv_iconst (v := 1) hx hb dX0_called_1 (by decide) ?_
  refine lv_iload_n hx hb dX0_called_2 rfl (lv_at hl 1 rfl) ?_
  refine lv_ishl hx hb dX0_called_3 ?_
  refine lv_iconst (v := -1) hx hb dX0_called_4 (by decide) ?_
  refine lv_ixor hx hb dX0_called_5 ?_
  refine lv_iand hx hb dX0_called_6 ?_
  refine lv_aload_n hx hb dX0_called_7 rfl (lv_at hl 0 rfl) ?_
  refine lv_iload_n hx hb dX0_called_8 rfl (lv_at hl 2 rfl) ?_
  obtain ⟨r1, k1, hg, hf⟩ := bR_inv hf
  refine q_ci (rest := [.int (x2 &&& ((jshl 1 x1) ^^^ (-1)))]) (ws' := (wX0_called cI cJ cZ cS a_t a_kinds a_costs a_terms a_known v_size v_list v_told v_kinds v_terms k1)) (w1 := (wX0_comers cI cJ cZ cS a_t a_kinds a_costs a_terms a_known v_size v_list v_told v_kinds v_terms k1)) fx h [0, 1, 2, 3] rfl rfl rfl rfl (q_runV fx h hl.1 [0, 1, 2, 3] rfl rfl (tX0_comers l D cI cJ cZ cS tb a_t a_kinds a_costs a_terms a_known H.size v_size v_list v_told v_kinds v_terms v_known x2 r1 k1 hg) mvX0_comers k_362 ⟨rfl, rfl⟩ ⟨Nat.le_of_ble_eq_true rfl, Nat.le_of_ble_eq_true rfl⟩ rfl rfl rfl rfl (Nat.le_of_ble_eq_true rfl) dX0_called_9 ⟨Nat.le_of_ble_eq_true rfl, Nat.le_of_ble_eq_true rfl⟩) (fun H locs h => ?_)
  refine lv_iconst (v := 1) hx hb dX0_called_12 (by decide) ?_
  refine lv_iload_n hx hb dX0_called_13 rfl (lv_at hl 1 rfl) ?_
  refine lv_ishl hx hb dX0_called_14 ?_
  refine lv_iand hx hb dX0_called_15 ?_
  refine lv_ior hx hb dX0_called_16 ?_
  exact q_reti (fun k : (Nat → Int32) => (wX0_called cI cJ cZ cS a_t a_kinds a_costs a_terms a_known v_size v_list v_told v_kinds v_terms k)) fx hf h dX0_called_17
/-! X0_ringUp -/
abbrev wX0_ringUp (cI cJ cZ cS : ClassId) (a_t a_kinds a_costs a_terms a_known : Nat) (v_size : Int32) (v_list : Int32) (v_told : Int32) (v_kinds : Nat → Int32) (v_terms : Nat → Int64) (v_known : Nat → Int32) : va_W := [(a_t, .inr (0, [.int v_size, .int v_list, .int v_told, .ref a_kinds, .ref a_costs, .ref a_terms, .ref a_known])), (a_kinds, .inl (cI, 8, .inl v_kinds)), (a_terms, .inl (cJ, 32, .inr (.inl v_terms))), (a_known, .inl (cI, 256, .inl v_known))]
abbrev rX0_ringUp : Room := { frames := 5, cells := 0, slots := 0, locals := 112 }
def fX0_ringUp_28 (v_size : Int32) (v_kinds : Nat → Int32) (v_terms : Nat → Int64) (v_list : Int32) (v_known : Nat → Int32) (s0 : Int32) : Option (Int32 × Int32 × (Nat → Int32)) :=
  bR (fX4_oneIf s0) (fun r1 k1 =>
  some (r1, (v_list, v_known)))
set_option maxRecDepth 100000 in
set_option maxHeartbeats 4000000 in
theorem LX0_ringUp_28 {p : Program} {l : Launch} {e : Env} {s : State} {m : MethodId} {args : Array Value} {below : List Frame} {meth : Method} {c : Code} {D : va_G} {cI cJ cZ cS : ClassId} {tb : Nat} {A : Nat → Prop} {a_t a_kinds a_costs a_terms a_known : Nat} {v_size : Int32} {v_told : Int32} {v_kinds : Nat → Int32} {v_terms : Nat → Int64} {rr : Int32} {kk' : Int32 × (Nat → Int32)} (fx : q_Fx p s m args meth c cX0_ringUp 3 RX0 (some .int) D cI cJ cZ cS tb A) : ∀ {v_list : Int32} {v_known : Nat → Int32} {s0 : Int32} {H : Heap} {locs : List Loc} {ls : Array Slot}, q_H D A s (wX0_ringUp cI cJ cZ cS a_t a_kinds a_costs a_terms a_known v_size v_list v_told v_kinds v_terms v_known) H locs → lv_has ls 3 [] → fX0_ringUp_28 v_size v_kinds v_terms v_list v_known s0 = some (rr, kk') → W p l e rX0_ringUp s m args below meth c H locs 0 0 (MQ below (q_Ri D rr A ((fun k : Int32 × (Nat → Int32) => (wX0_ringUp cI cJ cZ cS a_t a_kinds a_costs a_terms a_known v_size k.1 v_told v_kinds v_terms k.2)) kk')) args s 0 0 A) (F0 m 28 ls [.int s0]) := by
  intro v_list v_known s0 H locs ls h hl hf
  have hx := fx.1
  have hb := fx.2.1
  unfold fX0_ringUp_28 at hf
  obtain ⟨r1, k1, hg, hf⟩ := bR_inv hf
  refine q_ci (rest := []) (ws' := (wX0_ringUp cI cJ cZ cS a_t a_kinds a_costs a_terms a_known v_size v_list v_told v_kinds v_terms v_known)) (w1 := (wX4_oneIf cI cJ cZ cS)) fx h [] rfl rfl rfl rfl (q_runSN fx h hl.1 [] rfl rfl (tX4_oneIf l D cI cJ cZ cS tb H.size s0 r1 k1 hg) msX4_oneIf nm_4 ⟨rfl, rfl⟩ ⟨Nat.le_of_ble_eq_true rfl, Nat.le_of_ble_eq_true rfl⟩ rfl rfl (Nat.le_of_ble_eq_true rfl) dX0_ringUp_28 ⟨Nat.le_of_ble_eq_true rfl, Nat.le_of_ble_eq_true rfl⟩) (fun H locs h => ?_)
  exact q_reti (fun k : Int32 × (Nat → Int32) => (wX0_ringUp cI cJ cZ cS a_t a_kinds a_costs a_terms a_known v_size k.1 v_told v_kinds v_terms k.2)) fx hf h dX0_ringUp_31
def fX0_ringUp (v_size : Int32) (v_list : Int32) (v_kinds : Nat → Int32) (v_terms : Nat → Int64) (v_known : Nat → Int32) (x1 : Int32) : Option (Int32 × Int32 × (Nat → Int32)) :=
  bR (fX0_called v_size v_kinds v_terms v_known x1 v_list) (fun r2 k2 =>
  (if r2 = v_list then (
  fX0_ringUp_28 v_size v_kinds v_terms r2 k2 0)
  else (
  fX0_ringUp_28 v_size v_kinds v_terms r2 k2 1)))
set_option maxRecDepth 100000 in
set_option maxHeartbeats 4000000 in
theorem tX0_ringUp (l : Launch) (D : va_G) (cI cJ cZ cS : ClassId) (tb : Nat) (a_t a_kinds a_costs a_terms a_known : Nat) (sz : Nat) (v_size : Int32) (v_list : Int32) (v_told : Int32) (v_kinds : Nat → Int32) (v_terms : Nat → Int64) (v_known : Nat → Int32) (x1 : Int32) (rr : Int32) (kk' : Int32 × (Nat → Int32)) (hf : fX0_ringUp v_size v_list v_kinds v_terms v_known x1 = some (rr, kk')) : Met l yX0_ringUp (Cond.code yX0_ringUp cX0_ringUp 3 (some .int) :: wA) rX0_ringUp (q_Pre D cI cJ cZ cS tb [.ref a_t, .int x1] sz (wX0_ringUp cI cJ cZ cS a_t a_kinds a_costs a_terms a_known v_size v_list v_told v_kinds v_terms v_known)) (q_Ri D rr (va_A (wX0_ringUp cI cJ cZ cS a_t a_kinds a_costs a_terms a_known v_size v_list v_told v_kinds v_terms v_known) sz) ((fun k : Int32 × (Nat → Int32) => (wX0_ringUp cI cJ cZ cS a_t a_kinds a_costs a_terms a_known v_size k.1 v_told v_kinds v_terms k.2)) kk')) 0 0 (va_A (wX0_ringUp cI cJ cZ cS a_t a_kinds a_costs a_terms a_known v_size v_list v_told v_kinds v_terms v_known) sz) := by
  refine q_enter (Qf := fun A => (q_Ri D rr A ((fun k : Int32 × (Nat → Int32) => (wX0_ringUp cI cJ cZ cS a_t a_kinds a_costs a_terms a_known v_size k.1 v_told v_kinds v_terms k.2)) kk'))) (by decide) rfl (Nat.le_of_ble_eq_true rfl) ?_
  intro p e s m below meth c A ls fx hname h hl
  have hx := fx.1
  have hb := fx.2.1
  have hl : lv_has ls 3 [(0, .ref a_t), (1, .int x1)] := hl
  generalize h9 : s.heap = H at h ⊢
  clear h9
  generalize h9 : ([] : List Loc) = locs at h ⊢
  clear h9
  unfold fX0_ringUp at hf
  refine lv_aload_n hx hb dX0_ringUp_0 rfl (lv_at hl 0 rfl) ?_
  refine q_get (v := .int v_list) fx inX0 h 0 rfl rfl 1 (by decide) k_85 rfl dX0_ringUp_1 ?_
  refine lv_istore_n (lv' := [(2, .int v_list), (0, .ref a_t), (1, .int x1)]) hx hb dX0_ringUp_4 rfl hl (by decide) rfl (fun ls hl => ?_)
  refine lv_aload_n hx hb dX0_ringUp_5 rfl (lv_at hl 1 rfl) ?_
  refine lv_aload_n hx hb dX0_ringUp_6 rfl (lv_at hl 1 rfl) ?_
  refine lv_iload_n hx hb dX0_ringUp_7 rfl (lv_at hl 2 rfl) ?_
  refine lv_iload_n hx hb dX0_ringUp_8 rfl (lv_at hl 0 rfl) ?_
  obtain ⟨r2, k2, hg, hf⟩ := bR_inv hf
  refine q_ci (rest := [.ref a_t]) (ws' := (wX0_ringUp cI cJ cZ cS a_t a_kinds a_costs a_terms a_known v_size v_list v_told v_kinds v_terms k2)) (w1 := (wX0_called cI cJ cZ cS a_t a_kinds a_costs a_terms a_known v_size v_list v_told v_kinds v_terms k2)) fx h [0, 1, 2, 3] rfl rfl rfl rfl (q_runV fx h hl.1 [0, 1, 2, 3] rfl rfl (tX0_called l D cI cJ cZ cS tb a_t a_kinds a_costs a_terms a_known H.size v_size v_list v_told v_kinds v_terms v_known x1 v_list r2 k2 hg) mvX0_called k_376 ⟨rfl, rfl⟩ ⟨Nat.le_of_ble_eq_true rfl, Nat.le_of_ble_eq_true rfl⟩ rfl rfl rfl rfl (Nat.le_of_ble_eq_true rfl) dX0_ringUp_9 ⟨Nat.le_of_ble_eq_true rfl, Nat.le_of_ble_eq_true rfl⟩) (fun H locs h => ?_)
  refine q_put (v := .int r2) (ws' := (wX0_ringUp cI cJ cZ cS a_t a_kinds a_costs a_terms a_known v_size r2 v_told v_kinds v_terms k2)) fx inX0 tyX0 tyX0_ok nmX0 h 0 rfl rfl 1 (by decide) k_85 rfl rfl rfl (Nat.le_of_ble_eq_true rfl) rfl dX0_ringUp_12 (fun H locs h => ?_)
  refine lv_aload_n hx hb dX0_ringUp_15 rfl (lv_at hl 1 rfl) ?_
  refine q_get (v := .int r2) fx inX0 h 0 rfl rfl 1 (by decide) k_85 rfl dX0_ringUp_16 ?_
  refine lv_iload_n hx hb dX0_ringUp_19 rfl (lv_at hl 0 rfl) ?_
  refine lv_icmp_eq (tgt := 27) hx hb dX0_ringUp_20 (by decide) (fun c3 => ?_) (fun c3 => ?_)
  · have hf := it_t c3 hf
    refine lv_iconst (v := 0) hx hb dX0_ringUp_27 (by decide) ?_
    exact LX0_ringUp_28 fx h (lv_sub hl [] rfl) hf
  have hf := it_f c3 hf
  refine lv_iconst (v := 1) hx hb dX0_ringUp_23 (by decide) ?_
  refine lv_goto (tgt := 28) hx hb dX0_ringUp_24 (by decide) ?_
  exact LX0_ringUp_28 fx h (lv_sub hl [] rfl) hf
/-! X4_call -/
abbrev wX4_call (cI cJ cZ cS : ClassId) (a_t a_party a_party_kinds a_party_costs a_party_terms a_party_known a_kept a_tape a_telephone a_sheets a_findings : Nat) (v_isKept : Int32) (v_party_size : Int32) (v_party_list : Int32) (v_party_told : Int32) (v_party_kinds : Nat → Int32) (v_party_terms : Nat → Int64) (v_party_known : Nat → Int32) (v_findings : Nat → Int32) : va_W := [(a_t, .inr (4, [.ref a_party, .ref a_kept, .int v_isKept, .ref a_tape, .ref a_telephone, .ref a_sheets, .ref a_findings])), (a_party, .inr (0, [.int v_party_size, .int v_party_list, .int v_party_told, .ref a_party_kinds, .ref a_party_costs, .ref a_party_terms, .ref a_party_known])), (a_party_kinds, .inl (cI, 8, .inl v_party_kinds)), (a_party_terms, .inl (cJ, 32, .inr (.inl v_party_terms))), (a_party_known, .inl (cI, 256, .inl v_party_known)), (a_findings, .inl (cI, 7, .inl v_findings))]
abbrev rX4_call : Room := { frames := 6, cells := 0, slots := 0, locals := 134 }
def fX4_call (v_party_size : Int32) (v_party_list : Int32) (v_party_kinds : Nat → Int32) (v_party_terms : Nat → Int64) (v_party_known : Nat → Int32) (v_findings : Nat → Int32) (x1 : Int32) : Option (Int32 × Int32 × (Nat → Int32) × (Nat → Int32)) :=
  bR (fX0_has v_party_size x1) (fun r1 k1 =>
  (if r1 = 0 then (
  bR (fX4_found v_findings (-1000000001)) (fun r3 k3 =>
  some (r3, (v_party_list, v_party_known, k3))))
  else (
  bR (fX0_ringUp v_party_size v_party_list v_party_kinds v_party_terms v_party_known x1) (fun r4 k4 =>
  some (r4, (k4.1, k4.2, v_findings))))))
set_option maxRecDepth 100000 in
set_option maxHeartbeats 4000000 in
theorem tX4_call (l : Launch) (D : va_G) (cI cJ cZ cS : ClassId) (tb : Nat) (a_t a_party a_party_kinds a_party_costs a_party_terms a_party_known a_kept a_tape a_telephone a_sheets a_findings : Nat) (sz : Nat) (v_isKept : Int32) (v_party_size : Int32) (v_party_list : Int32) (v_party_told : Int32) (v_party_kinds : Nat → Int32) (v_party_terms : Nat → Int64) (v_party_known : Nat → Int32) (v_findings : Nat → Int32) (x1 : Int32) (rr : Int32) (kk' : Int32 × (Nat → Int32) × (Nat → Int32)) (hf : fX4_call v_party_size v_party_list v_party_kinds v_party_terms v_party_known v_findings x1 = some (rr, kk')) : Met l yX4_call (Cond.code yX4_call cX4_call 2 (some .int) :: wA) rX4_call (q_Pre D cI cJ cZ cS tb [.ref a_t, .int x1] sz (wX4_call cI cJ cZ cS a_t a_party a_party_kinds a_party_costs a_party_terms a_party_known a_kept a_tape a_telephone a_sheets a_findings v_isKept v_party_size v_party_list v_party_told v_party_kinds v_party_terms v_party_known v_findings)) (q_Ri D rr (va_A (wX4_call cI cJ cZ cS a_t a_party a_party_kinds a_party_costs a_party_terms a_party_known a_kept a_tape a_telephone a_sheets a_findings v_isKept v_party_size v_party_list v_party_told v_party_kinds v_party_terms v_party_known v_findings) sz) ((fun k : Int32 × (Nat → Int32) × (Nat → Int32) => (wX4_call cI cJ cZ cS a_t a_party a_party_kinds a_party_costs a_party_terms a_party_known a_kept a_tape a_telephone a_sheets a_findings v_isKept v_party_size k.1 v_party_told v_party_kinds v_party_terms k.2.1 k.2.2)) kk')) 0 0 (va_A (wX4_call cI cJ cZ cS a_t a_party a_party_kinds a_party_costs a_party_terms a_party_known a_kept a_tape a_telephone a_sheets a_findings v_isKept v_party_size v_party_list v_party_told v_party_kinds v_party_terms v_party_known v_findings) sz) := by
  refine q_enter (Qf := fun A => (q_Ri D rr A ((fun k : Int32 × (Nat → Int32) × (Nat → Int32) => (wX4_call cI cJ cZ cS a_t a_party a_party_kinds a_party_costs a_party_terms a_party_known a_kept a_tape a_telephone a_sheets a_findings v_isKept v_party_size k.1 v_party_told v_party_kinds v_party_terms k.2.1 k.2.2)) kk'))) (by decide) rfl (Nat.le_of_ble_eq_true rfl) ?_
  intro p e s m below meth c A ls fx hname h hl
  have hx := fx.1
  have hb := fx.2.1
  have hl : lv_has ls 2 [(0, .ref a_t), (1, .int x1)] := hl
  generalize h9 : s.heap = H at h ⊢
  clear h9
  generalize h9 : ([] : List Loc) = locs at h ⊢
  clear h9
  unfold fX4_call at hf
  refine lv_aload_n hx hb dX4_call_0 rfl (lv_at hl 0 rfl) ?_
  refine q_get (v := .ref a_party) fx inX4 h 0 rfl rfl 0 (by decide) k_174 rfl dX4_call_1 ?_
  refine lv_iload_n hx hb dX4_call_4 rfl (lv_at hl 1 rfl) ?_
  obtain ⟨r1, k1, hg, hf⟩ := bR_inv hf
  refine q_ci (rest := []) (ws' := (wX4_call cI cJ cZ cS a_t a_party a_party_kinds a_party_costs a_party_terms a_party_known a_kept a_tape a_telephone a_sheets a_findings v_isKept v_party_size v_party_list v_party_told v_party_kinds v_party_terms v_party_known v_findings)) (w1 := (wX0_has cI cJ cZ cS a_party a_party_kinds a_party_costs a_party_terms a_party_known v_party_size v_party_list v_party_told)) fx h [1] rfl rfl rfl rfl (q_runV fx h hl.1 [1] rfl rfl (tX0_has l D cI cJ cZ cS tb a_party a_party_kinds a_party_costs a_party_terms a_party_known H.size v_party_size v_party_list v_party_told x1 r1 k1 hg) mvX0_has k_220 ⟨rfl, rfl⟩ ⟨Nat.le_of_ble_eq_true rfl, Nat.le_of_ble_eq_true rfl⟩ rfl rfl rfl rfl (Nat.le_of_ble_eq_true rfl) dX4_call_5 ⟨Nat.le_of_ble_eq_true rfl, Nat.le_of_ble_eq_true rfl⟩) (fun H locs h => ?_)
  refine lv_if_eq (tgt := 22) hx hb dX4_call_8 (by decide) (fun c2 => ?_) (fun c2 => ?_)
  · have hf := it_t c2 hf
    refine lv_aload_n hx hb dX4_call_22 rfl (lv_at hl 0 rfl) ?_
    refine q_ldc fx k_206 dX4_call_23 ?_
    obtain ⟨r3, k3, hg, hf⟩ := bR_inv hf
    refine q_ci (rest := []) (ws' := (wX4_call cI cJ cZ cS a_t a_party a_party_kinds a_party_costs a_party_terms a_party_known a_kept a_tape a_telephone a_sheets a_findings v_isKept v_party_size v_party_list v_party_told v_party_kinds v_party_terms v_party_known k3)) (w1 := (wX4_found cI cJ cZ cS a_t a_party a_kept a_tape a_telephone a_sheets a_findings v_isKept k3)) fx h [0, 5] rfl rfl rfl rfl (q_runV fx h hl.1 [0, 5] rfl rfl (tX4_found l D cI cJ cZ cS tb a_t a_party a_kept a_tape a_telephone a_sheets a_findings H.size v_isKept v_findings (-1000000001) r3 k3 hg) mvX4_found k_207 ⟨rfl, rfl⟩ ⟨Nat.le_of_ble_eq_true rfl, Nat.le_of_ble_eq_true rfl⟩ rfl rfl rfl rfl (Nat.le_of_ble_eq_true rfl) dX4_call_25 ⟨Nat.le_of_ble_eq_true rfl, Nat.le_of_ble_eq_true rfl⟩) (fun H locs h => ?_)
    exact q_reti (fun k : Int32 × (Nat → Int32) × (Nat → Int32) => (wX4_call cI cJ cZ cS a_t a_party a_party_kinds a_party_costs a_party_terms a_party_known a_kept a_tape a_telephone a_sheets a_findings v_isKept v_party_size k.1 v_party_told v_party_kinds v_party_terms k.2.1 k.2.2)) fx hf h dX4_call_28
  have hf := it_f c2 hf
  refine lv_aload_n hx hb dX4_call_11 rfl (lv_at hl 0 rfl) ?_
  refine q_get (v := .ref a_party) fx inX4 h 0 rfl rfl 0 (by decide) k_174 rfl dX4_call_12 ?_
  refine lv_iload_n hx hb dX4_call_15 rfl (lv_at hl 1 rfl) ?_
  obtain ⟨r4, k4, hg, hf⟩ := bR_inv hf
  refine q_ci (rest := []) (ws' := (wX4_call cI cJ cZ cS a_t a_party a_party_kinds a_party_costs a_party_terms a_party_known a_kept a_tape a_telephone a_sheets a_findings v_isKept v_party_size k4.1 v_party_told v_party_kinds v_party_terms k4.2 v_findings)) (w1 := (wX0_ringUp cI cJ cZ cS a_party a_party_kinds a_party_costs a_party_terms a_party_known v_party_size k4.1 v_party_told v_party_kinds v_party_terms k4.2)) fx h [1, 2, 3, 4] rfl rfl rfl rfl (q_runV fx h hl.1 [1, 2, 3, 4] rfl rfl (tX0_ringUp l D cI cJ cZ cS tb a_party a_party_kinds a_party_costs a_party_terms a_party_known H.size v_party_size v_party_list v_party_told v_party_kinds v_party_terms v_party_known x1 r4 k4 hg) mvX0_ringUp k_372 ⟨rfl, rfl⟩ ⟨Nat.le_of_ble_eq_true rfl, Nat.le_of_ble_eq_true rfl⟩ rfl rfl rfl rfl (Nat.le_of_ble_eq_true rfl) dX4_call_16 ⟨Nat.le_of_ble_eq_true rfl, Nat.le_of_ble_eq_true rfl⟩) (fun H locs h => ?_)
  refine lv_goto (tgt := 28) hx hb dX4_call_19 (by decide) ?_
  exact q_reti (fun k : Int32 × (Nat → Int32) × (Nat → Int32) => (wX4_call cI cJ cZ cS a_t a_party a_party_kinds a_party_costs a_party_terms a_party_known a_kept a_tape a_telephone a_sheets a_findings v_isKept v_party_size k.1 v_party_told v_party_kinds v_party_terms k.2.1 k.2.2)) fx hf h dX4_call_28
/-! X4_calls -/
abbrev wX4_calls (cI cJ cZ cS : ClassId) (a_t a_party a_party_kinds a_party_costs a_party_terms a_party_known a_kept a_tape a_telephone a_sheets a_findings : Nat) (v_isKept : Int32) (v_party_size : Int32) (v_party_list : Int32) (v_party_told : Int32) (v_party_kinds : Nat → Int32) (v_party_terms : Nat → Int64) (v_party_known : Nat → Int32) (v_findings : Nat → Int32) : va_W := [(a_t, .inr (4, [.ref a_party, .ref a_kept, .int v_isKept, .ref a_tape, .ref a_telephone, .ref a_sheets, .ref a_findings])), (a_party, .inr (0, [.int v_party_size, .int v_party_list, .int v_party_told, .ref a_party_kinds, .ref a_party_costs, .ref a_party_terms, .ref a_party_known])), (a_party_kinds, .inl (cI, 8, .inl v_party_kinds)), (a_party_terms, .inl (cJ, 32, .inr (.inl v_party_terms))), (a_party_known, .inl (cI, 256, .inl v_party_known)), (a_findings, .inl (cI, 7, .inl v_findings))]
abbrev rX4_calls : Room := { frames := 6, cells := 0, slots := 0, locals := 134 }
def fX4_calls_30 (v_party_size : Int32) (v_party_kinds : Nat → Int32) (v_party_terms : Nat → Int64) (ag22 : Int32 → (Nat → Int32) → (Nat → Int32) → Int32 → Int32 → Int32 → Option (Int32 × Int32 × (Nat → Int32) × (Nat → Int32))) (ag30 : Int32 → (Nat → Int32) → (Nat → Int32) → Int32 → Int32 → Int32 → Int32 → Option (Int32 × Int32 × (Nat → Int32) × (Nat → Int32))) (v_party_list : Int32) (v_party_known : Nat → Int32) (v_findings : Nat → Int32) (y1 : Int32) (y2 : Int32) (y3 : Int32) (y4 : Int32) : Option (Int32 × Int32 × (Nat → Int32) × (Nat → Int32)) :=
  (if v_party_size ≤ y4 then (
  nm (y3 + 1) (fun u2 =>
  ag22 v_party_list v_party_known v_findings y1 y2 u2))
  else (
  bR (fX0_ringUp v_party_size v_party_list v_party_kinds v_party_terms v_party_known y4) (fun r3 k3 =>
  nm (y2 + r3) (fun u4 =>
  nm (y4 + 1) (fun u5 =>
  ag30 k3.1 k3.2 v_findings y1 u4 y3 u5)))))
set_option maxRecDepth 100000 in
set_option maxHeartbeats 4000000 in
theorem LX4_calls_30 {p : Program} {l : Launch} {e : Env} {s : State} {m : MethodId} {args : Array Value} {below : List Frame} {meth : Method} {c : Code} {D : va_G} {cI cJ cZ cS : ClassId} {tb : Nat} {A : Nat → Prop} {a_t a_party a_party_kinds a_party_costs a_party_terms a_party_known a_kept a_tape a_telephone a_sheets a_findings : Nat} {v_isKept : Int32} {v_party_size : Int32} {v_party_told : Int32} {v_party_kinds : Nat → Int32} {v_party_terms : Nat → Int64} {rr : Int32} {kk' : Int32 × (Nat → Int32) × (Nat → Int32)} (fx : q_Fx p s m args meth c cX4_calls 5 RX4 (some .int) D cI cJ cZ cS tb A) {ag22 : Int32 → (Nat → Int32) → (Nat → Int32) → Int32 → Int32 → Int32 → Option (Int32 × Int32 × (Nat → Int32) × (Nat → Int32))} (hag22 : ∀ {v_party_list : Int32} {v_party_known : Nat → Int32} {v_findings : Nat → Int32} {y1 : Int32} {y2 : Int32} {y3 : Int32} {H : Heap} {locs : List Loc} {ls : Array Slot}, q_H D A s (wX4_calls cI cJ cZ cS a_t a_party a_party_kinds a_party_costs a_party_terms a_party_known a_kept a_tape a_telephone a_sheets a_findings v_isKept v_party_size v_party_list v_party_told v_party_kinds v_party_terms v_party_known v_findings) H locs → lv_has ls 5 [(0, .ref a_t), (1, .int y1), (2, .int y2), (3, .int y3)] → ag22 v_party_list v_party_known v_findings y1 y2 y3 = some (rr, kk') → W p l e rX4_calls s m args below meth c H locs 0 0 (MQ below (q_Ri D rr A ((fun k : Int32 × (Nat → Int32) × (Nat → Int32) => (wX4_calls cI cJ cZ cS a_t a_party a_party_kinds a_party_costs a_party_terms a_party_known a_kept a_tape a_telephone a_sheets a_findings v_isKept v_party_size k.1 v_party_told v_party_kinds v_party_terms k.2.1 k.2.2)) kk')) args s 0 0 A) (F0 m 22 ls [])) {ag30 : Int32 → (Nat → Int32) → (Nat → Int32) → Int32 → Int32 → Int32 → Int32 → Option (Int32 × Int32 × (Nat → Int32) × (Nat → Int32))} (hag30 : ∀ {v_party_list : Int32} {v_party_known : Nat → Int32} {v_findings : Nat → Int32} {y1 : Int32} {y2 : Int32} {y3 : Int32} {y4 : Int32} {H : Heap} {locs : List Loc} {ls : Array Slot}, q_H D A s (wX4_calls cI cJ cZ cS a_t a_party a_party_kinds a_party_costs a_party_terms a_party_known a_kept a_tape a_telephone a_sheets a_findings v_isKept v_party_size v_party_list v_party_told v_party_kinds v_party_terms v_party_known v_findings) H locs → lv_has ls 5 [(0, .ref a_t), (1, .int y1), (2, .int y2), (3, .int y3), (4, .int y4)] → ag30 v_party_list v_party_known v_findings y1 y2 y3 y4 = some (rr, kk') → W p l e rX4_calls s m args below meth c H locs 0 0 (MQ below (q_Ri D rr A ((fun k : Int32 × (Nat → Int32) × (Nat → Int32) => (wX4_calls cI cJ cZ cS a_t a_party a_party_kinds a_party_costs a_party_terms a_party_known a_kept a_tape a_telephone a_sheets a_findings v_isKept v_party_size k.1 v_party_told v_party_kinds v_party_terms k.2.1 k.2.2)) kk')) args s 0 0 A) (F0 m 30 ls [])) : ∀ {v_party_list : Int32} {v_party_known : Nat → Int32} {v_findings : Nat → Int32} {y1 : Int32} {y2 : Int32} {y3 : Int32} {y4 : Int32} {H : Heap} {locs : List Loc} {ls : Array Slot}, q_H D A s (wX4_calls cI cJ cZ cS a_t a_party a_party_kinds a_party_costs a_party_terms a_party_known a_kept a_tape a_telephone a_sheets a_findings v_isKept v_party_size v_party_list v_party_told v_party_kinds v_party_terms v_party_known v_findings) H locs → lv_has ls 5 [(0, .ref a_t), (1, .int y1), (2, .int y2), (3, .int y3), (4, .int y4)] → fX4_calls_30 v_party_size v_party_kinds v_party_terms ag22 ag30 v_party_list v_party_known v_findings y1 y2 y3 y4 = some (rr, kk') → W p l e rX4_calls s m args below meth c H locs 0 0 (MQ below (q_Ri D rr A ((fun k : Int32 × (Nat → Int32) × (Nat → Int32) => (wX4_calls cI cJ cZ cS a_t a_party a_party_kinds a_party_costs a_party_terms a_party_known a_kept a_tape a_telephone a_sheets a_findings v_isKept v_party_size k.1 v_party_told v_party_kinds v_party_terms k.2.1 k.2.2)) kk')) args s 0 0 A) (F0 m 30 ls []) := by
  intro v_party_list v_party_known v_findings y1 y2 y3 y4 H locs ls h hl hf
  have hx := fx.1
  have hb := fx.2.1
  unfold fX4_calls_30 at hf
  refine lv_iload hx hb dX4_calls_30 (lv_at hl 4 rfl) ?_
  refine lv_aload_n hx hb dX4_calls_32 rfl (lv_at hl 0 rfl) ?_
  refine q_get (v := .ref a_party) fx inX4 h 0 rfl rfl 0 (by decide) k_174 rfl dX4_calls_33 ?_
  refine q_getN (v := .int v_party_size) fx inX0 h 1 rfl rfl 0 (by decide) nf_0 rfl dX4_calls_36 ?_
  refine lv_icmp_ge (tgt := 60) hx hb dX4_calls_39 (by decide) (fun c1 => ?_) (fun c1 => ?_)
  · have hf := it_t c1 hf
    obtain ⟨u2, eu2, hf⟩ := nm_inv hf
    refine lv_iinc (v := u2) (lv' := [(3, .int u2), (0, .ref a_t), (1, .int y1), (2, .int y2), (4, .int y4)]) hx hb dX4_calls_60 hl (k := 3) rfl (by rw [eu2]; rfl) (by decide) rfl (fun ls hl => ?_)
    refine lv_goto (tgt := 22) hx hb dX4_calls_63 (by decide) ?_
    exact hag22 h (lv_sub hl [1, 2, 3, 0] rfl) hf
  have hf := it_f c1 hf
  refine lv_iload_n hx hb dX4_calls_42 rfl (lv_at hl 2 rfl) ?_
  refine lv_aload_n hx hb dX4_calls_43 rfl (lv_at hl 0 rfl) ?_
  refine q_get (v := .ref a_party) fx inX4 h 0 rfl rfl 0 (by decide) k_174 rfl dX4_calls_44 ?_
  refine lv_iload hx hb dX4_calls_47 (lv_at hl 4 rfl) ?_
  obtain ⟨r3, k3, hg, hf⟩ := bR_inv hf
  refine q_ci (rest := [.int y2]) (ws' := (wX4_calls cI cJ cZ cS a_t a_party a_party_kinds a_party_costs a_party_terms a_party_known a_kept a_tape a_telephone a_sheets a_findings v_isKept v_party_size k3.1 v_party_told v_party_kinds v_party_terms k3.2 v_findings)) (w1 := (wX0_ringUp cI cJ cZ cS a_party a_party_kinds a_party_costs a_party_terms a_party_known v_party_size k3.1 v_party_told v_party_kinds v_party_terms k3.2)) fx h [1, 2, 3, 4] rfl rfl rfl rfl (q_runV fx h hl.1 [1, 2, 3, 4] rfl rfl (tX0_ringUp l D cI cJ cZ cS tb a_party a_party_kinds a_party_costs a_party_terms a_party_known H.size v_party_size v_party_list v_party_told v_party_kinds v_party_terms v_party_known y4 r3 k3 hg) mvX0_ringUp k_372 ⟨rfl, rfl⟩ ⟨Nat.le_of_ble_eq_true rfl, Nat.le_of_ble_eq_true rfl⟩ rfl rfl rfl rfl (Nat.le_of_ble_eq_true rfl) dX4_calls_49 ⟨Nat.le_of_ble_eq_true rfl, Nat.le_of_ble_eq_true rfl⟩) (fun H locs h => ?_)
  refine lv_iadd hx hb dX4_calls_52 ?_
  obtain ⟨u4, eu4, hf⟩ := nm_inv hf
  refine lv_eqi eu4 ?_
  refine lv_istore_n (lv' := [(2, .int u4), (0, .ref a_t), (1, .int y1), (3, .int y3), (4, .int y4)]) hx hb dX4_calls_53 rfl hl (by decide) rfl (fun ls hl => ?_)
  obtain ⟨u5, eu5, hf⟩ := nm_inv hf
  refine lv_iinc (v := u5) (lv' := [(4, .int u5), (2, .int u4), (0, .ref a_t), (1, .int y1), (3, .int y3)]) hx hb dX4_calls_54 hl (k := 4) rfl (by rw [eu5]; rfl) (by decide) rfl (fun ls hl => ?_)
  refine lv_goto (tgt := 30) hx hb dX4_calls_57 (by decide) ?_
  exact hag30 h (lv_sub hl [2, 3, 1, 4, 0] rfl) hf
set_option maxRecDepth 100000 in
theorem EX4_calls_30 {p : Program} {l : Launch} {e : Env} {s : State} {m : MethodId} {args : Array Value} {below : List Frame} {meth : Method} {c : Code} {D : va_G} {cI cJ cZ cS : ClassId} {tb : Nat} {A : Nat → Prop} {a_t a_party a_party_kinds a_party_costs a_party_terms a_party_known a_kept a_tape a_telephone a_sheets a_findings : Nat} {v_isKept : Int32} {v_party_size : Int32} {v_party_told : Int32} {v_party_kinds : Nat → Int32} {v_party_terms : Nat → Int64} {rr : Int32} {kk' : Int32 × (Nat → Int32) × (Nat → Int32)} (fx : q_Fx p s m args meth c cX4_calls 5 RX4 (some .int) D cI cJ cZ cS tb A) {ag22 : Int32 → (Nat → Int32) → (Nat → Int32) → Int32 → Int32 → Int32 → Option (Int32 × Int32 × (Nat → Int32) × (Nat → Int32))} (hag22 : ∀ {v_party_list : Int32} {v_party_known : Nat → Int32} {v_findings : Nat → Int32} {y1 : Int32} {y2 : Int32} {y3 : Int32} {H : Heap} {locs : List Loc} {ls : Array Slot}, q_H D A s (wX4_calls cI cJ cZ cS a_t a_party a_party_kinds a_party_costs a_party_terms a_party_known a_kept a_tape a_telephone a_sheets a_findings v_isKept v_party_size v_party_list v_party_told v_party_kinds v_party_terms v_party_known v_findings) H locs → lv_has ls 5 [(0, .ref a_t), (1, .int y1), (2, .int y2), (3, .int y3)] → ag22 v_party_list v_party_known v_findings y1 y2 y3 = some (rr, kk') → W p l e rX4_calls s m args below meth c H locs 0 0 (MQ below (q_Ri D rr A ((fun k : Int32 × (Nat → Int32) × (Nat → Int32) => (wX4_calls cI cJ cZ cS a_t a_party a_party_kinds a_party_costs a_party_terms a_party_known a_kept a_tape a_telephone a_sheets a_findings v_isKept v_party_size k.1 v_party_told v_party_kinds v_party_terms k.2.1 k.2.2)) kk')) args s 0 0 A) (F0 m 22 ls [])) : ∀ (n : Nat), ∀ {v_party_list : Int32} {v_party_known : Nat → Int32} {v_findings : Nat → Int32} {y1 : Int32} {y2 : Int32} {y3 : Int32} {y4 : Int32} {H : Heap} {locs : List Loc} {ls : Array Slot}, q_H D A s (wX4_calls cI cJ cZ cS a_t a_party a_party_kinds a_party_costs a_party_terms a_party_known a_kept a_tape a_telephone a_sheets a_findings v_isKept v_party_size v_party_list v_party_told v_party_kinds v_party_terms v_party_known v_findings) H locs → lv_has ls 5 [(0, .ref a_t), (1, .int y1), (2, .int y2), (3, .int y3), (4, .int y4)] → ll7 (fX4_calls_30 v_party_size v_party_kinds v_party_terms ag22) n v_party_list v_party_known v_findings y1 y2 y3 y4 = some (rr, kk') → W p l e rX4_calls s m args below meth c H locs 0 0 (MQ below (q_Ri D rr A ((fun k : Int32 × (Nat → Int32) × (Nat → Int32) => (wX4_calls cI cJ cZ cS a_t a_party a_party_kinds a_party_costs a_party_terms a_party_known a_kept a_tape a_telephone a_sheets a_findings v_isKept v_party_size k.1 v_party_told v_party_kinds v_party_terms k.2.1 k.2.2)) kk')) args s 0 0 A) (F0 m 30 ls []) := by
  intro n
  induction n with
  | zero => intro v_party_list v_party_known v_findings y1 y2 y3 y4 H locs ls h hl hf; exact (ll7_z hf).elim
  | succ n ih => intro v_party_list v_party_known v_findings y1 y2 y3 y4 H locs ls h hl hf; exact LX4_calls_30 fx hag22 ih h hl (ll7_s hf)
def fX4_calls_22 (v_party_size : Int32) (v_party_kinds : Nat → Int32) (v_party_terms : Nat → Int64) (ag22 : Int32 → (Nat → Int32) → (Nat → Int32) → Int32 → Int32 → Int32 → Option (Int32 × Int32 × (Nat → Int32) × (Nat → Int32))) (v_party_list : Int32) (v_party_known : Nat → Int32) (v_findings : Nat → Int32) (y1 : Int32) (y2 : Int32) (y3 : Int32) : Option (Int32 × Int32 × (Nat → Int32) × (Nat → Int32)) :=
  (if y1 ≤ y3 then (
  some (y2, (v_party_list, v_party_known, v_findings)))
  else (
  ll7 (fX4_calls_30 v_party_size v_party_kinds v_party_terms ag22) qF v_party_list v_party_known v_findings y1 y2 y3 0))
set_option maxRecDepth 100000 in
set_option maxHeartbeats 4000000 in
theorem LX4_calls_22 {p : Program} {l : Launch} {e : Env} {s : State} {m : MethodId} {args : Array Value} {below : List Frame} {meth : Method} {c : Code} {D : va_G} {cI cJ cZ cS : ClassId} {tb : Nat} {A : Nat → Prop} {a_t a_party a_party_kinds a_party_costs a_party_terms a_party_known a_kept a_tape a_telephone a_sheets a_findings : Nat} {v_isKept : Int32} {v_party_size : Int32} {v_party_told : Int32} {v_party_kinds : Nat → Int32} {v_party_terms : Nat → Int64} {rr : Int32} {kk' : Int32 × (Nat → Int32) × (Nat → Int32)} (fx : q_Fx p s m args meth c cX4_calls 5 RX4 (some .int) D cI cJ cZ cS tb A) {ag22 : Int32 → (Nat → Int32) → (Nat → Int32) → Int32 → Int32 → Int32 → Option (Int32 × Int32 × (Nat → Int32) × (Nat → Int32))} (hag22 : ∀ {v_party_list : Int32} {v_party_known : Nat → Int32} {v_findings : Nat → Int32} {y1 : Int32} {y2 : Int32} {y3 : Int32} {H : Heap} {locs : List Loc} {ls : Array Slot}, q_H D A s (wX4_calls cI cJ cZ cS a_t a_party a_party_kinds a_party_costs a_party_terms a_party_known a_kept a_tape a_telephone a_sheets a_findings v_isKept v_party_size v_party_list v_party_told v_party_kinds v_party_terms v_party_known v_findings) H locs → lv_has ls 5 [(0, .ref a_t), (1, .int y1), (2, .int y2), (3, .int y3)] → ag22 v_party_list v_party_known v_findings y1 y2 y3 = some (rr, kk') → W p l e rX4_calls s m args below meth c H locs 0 0 (MQ below (q_Ri D rr A ((fun k : Int32 × (Nat → Int32) × (Nat → Int32) => (wX4_calls cI cJ cZ cS a_t a_party a_party_kinds a_party_costs a_party_terms a_party_known a_kept a_tape a_telephone a_sheets a_findings v_isKept v_party_size k.1 v_party_told v_party_kinds v_party_terms k.2.1 k.2.2)) kk')) args s 0 0 A) (F0 m 22 ls [])) : ∀ {v_party_list : Int32} {v_party_known : Nat → Int32} {v_findings : Nat → Int32} {y1 : Int32} {y2 : Int32} {y3 : Int32} {H : Heap} {locs : List Loc} {ls : Array Slot}, q_H D A s (wX4_calls cI cJ cZ cS a_t a_party a_party_kinds a_party_costs a_party_terms a_party_known a_kept a_tape a_telephone a_sheets a_findings v_isKept v_party_size v_party_list v_party_told v_party_kinds v_party_terms v_party_known v_findings) H locs → lv_has ls 5 [(0, .ref a_t), (1, .int y1), (2, .int y2), (3, .int y3)] → fX4_calls_22 v_party_size v_party_kinds v_party_terms ag22 v_party_list v_party_known v_findings y1 y2 y3 = some (rr, kk') → W p l e rX4_calls s m args below meth c H locs 0 0 (MQ below (q_Ri D rr A ((fun k : Int32 × (Nat → Int32) × (Nat → Int32) => (wX4_calls cI cJ cZ cS a_t a_party a_party_kinds a_party_costs a_party_terms a_party_known a_kept a_tape a_telephone a_sheets a_findings v_isKept v_party_size k.1 v_party_told v_party_kinds v_party_terms k.2.1 k.2.2)) kk')) args s 0 0 A) (F0 m 22 ls []) := by
  intro v_party_list v_party_known v_findings y1 y2 y3 H locs ls h hl hf
  have hx := fx.1
  have hb := fx.2.1
  unfold fX4_calls_22 at hf
  refine lv_iload_n hx hb dX4_calls_22 rfl (lv_at hl 3 rfl) ?_
  refine lv_iload_n hx hb dX4_calls_23 rfl (lv_at hl 1 rfl) ?_
  refine lv_icmp_ge (tgt := 66) hx hb dX4_calls_24 (by decide) (fun c6 => ?_) (fun c6 => ?_)
  · have hf := it_t c6 hf
    refine lv_iload_n hx hb dX4_calls_66 rfl (lv_at hl 2 rfl) ?_
    exact q_reti (fun k : Int32 × (Nat → Int32) × (Nat → Int32) => (wX4_calls cI cJ cZ cS a_t a_party a_party_kinds a_party_costs a_party_terms a_party_known a_kept a_tape a_telephone a_sheets a_findings v_isKept v_party_size k.1 v_party_told v_party_kinds v_party_terms k.2.1 k.2.2)) fx hf h dX4_calls_67
  have hf := it_f c6 hf
  refine lv_iconst (v := 0) hx hb dX4_calls_27 (by decide) ?_
  refine lv_istore (lv' := [(4, .int 0), (0, .ref a_t), (1, .int y1), (2, .int y2), (3, .int y3)]) hx hb dX4_calls_28 hl (by decide) rfl (fun ls hl => ?_)
  exact EX4_calls_30 fx hag22 qF h (lv_sub hl [1, 2, 3, 4, 0] rfl) hf
set_option maxRecDepth 100000 in
theorem EX4_calls_22 {p : Program} {l : Launch} {e : Env} {s : State} {m : MethodId} {args : Array Value} {below : List Frame} {meth : Method} {c : Code} {D : va_G} {cI cJ cZ cS : ClassId} {tb : Nat} {A : Nat → Prop} {a_t a_party a_party_kinds a_party_costs a_party_terms a_party_known a_kept a_tape a_telephone a_sheets a_findings : Nat} {v_isKept : Int32} {v_party_size : Int32} {v_party_told : Int32} {v_party_kinds : Nat → Int32} {v_party_terms : Nat → Int64} {rr : Int32} {kk' : Int32 × (Nat → Int32) × (Nat → Int32)} (fx : q_Fx p s m args meth c cX4_calls 5 RX4 (some .int) D cI cJ cZ cS tb A) : ∀ (n : Nat), ∀ {v_party_list : Int32} {v_party_known : Nat → Int32} {v_findings : Nat → Int32} {y1 : Int32} {y2 : Int32} {y3 : Int32} {H : Heap} {locs : List Loc} {ls : Array Slot}, q_H D A s (wX4_calls cI cJ cZ cS a_t a_party a_party_kinds a_party_costs a_party_terms a_party_known a_kept a_tape a_telephone a_sheets a_findings v_isKept v_party_size v_party_list v_party_told v_party_kinds v_party_terms v_party_known v_findings) H locs → lv_has ls 5 [(0, .ref a_t), (1, .int y1), (2, .int y2), (3, .int y3)] → ll6 (fX4_calls_22 v_party_size v_party_kinds v_party_terms) n v_party_list v_party_known v_findings y1 y2 y3 = some (rr, kk') → W p l e rX4_calls s m args below meth c H locs 0 0 (MQ below (q_Ri D rr A ((fun k : Int32 × (Nat → Int32) × (Nat → Int32) => (wX4_calls cI cJ cZ cS a_t a_party a_party_kinds a_party_costs a_party_terms a_party_known a_kept a_tape a_telephone a_sheets a_findings v_isKept v_party_size k.1 v_party_told v_party_kinds v_party_terms k.2.1 k.2.2)) kk')) args s 0 0 A) (F0 m 22 ls []) := by
  intro n
  induction n with
  | zero => intro v_party_list v_party_known v_findings y1 y2 y3 H locs ls h hl hf; exact (ll6_z hf).elim
  | succ n ih => intro v_party_list v_party_known v_findings y1 y2 y3 H locs ls h hl hf; exact LX4_calls_22 fx ih h hl (ll6_s hf)
def fX4_calls_11 (v_party_size : Int32) (v_party_kinds : Nat → Int32) (v_party_terms : Nat → Int64) (v_party_list : Int32) (v_party_known : Nat → Int32) (v_findings : Nat → Int32) : Option (Int32 × Int32 × (Nat → Int32) × (Nat → Int32)) :=
  bR (fX4_found v_findings (-1000000001)) (fun r7 k7 =>
  some (r7, (v_party_list, v_party_known, k7)))
set_option maxRecDepth 100000 in
set_option maxHeartbeats 4000000 in
theorem LX4_calls_11 {p : Program} {l : Launch} {e : Env} {s : State} {m : MethodId} {args : Array Value} {below : List Frame} {meth : Method} {c : Code} {D : va_G} {cI cJ cZ cS : ClassId} {tb : Nat} {A : Nat → Prop} {a_t a_party a_party_kinds a_party_costs a_party_terms a_party_known a_kept a_tape a_telephone a_sheets a_findings : Nat} {v_isKept : Int32} {v_party_size : Int32} {v_party_told : Int32} {v_party_kinds : Nat → Int32} {v_party_terms : Nat → Int64} {rr : Int32} {kk' : Int32 × (Nat → Int32) × (Nat → Int32)} (fx : q_Fx p s m args meth c cX4_calls 5 RX4 (some .int) D cI cJ cZ cS tb A) : ∀ {v_party_list : Int32} {v_party_known : Nat → Int32} {v_findings : Nat → Int32} {H : Heap} {locs : List Loc} {ls : Array Slot}, q_H D A s (wX4_calls cI cJ cZ cS a_t a_party a_party_kinds a_party_costs a_party_terms a_party_known a_kept a_tape a_telephone a_sheets a_findings v_isKept v_party_size v_party_list v_party_told v_party_kinds v_party_terms v_party_known v_findings) H locs → lv_has ls 5 [(0, .ref a_t)] → fX4_calls_11 v_party_size v_party_kinds v_party_terms v_party_list v_party_known v_findings = some (rr, kk') → W p l e rX4_calls s m args below meth c H locs 0 0 (MQ below (q_Ri D rr A ((fun k : Int32 × (Nat → Int32) × (Nat → Int32) => (wX4_calls cI cJ cZ cS a_t a_party a_party_kinds a_party_costs a_party_terms a_party_known a_kept a_tape a_telephone a_sheets a_findings v_isKept v_party_size k.1 v_party_told v_party_kinds v_party_terms k.2.1 k.2.2)) kk')) args s 0 0 A) (F0 m 11 ls []) := by
  intro v_party_list v_party_known v_findings H locs ls h hl hf
  have hx := fx.1
  have hb := fx.2.1
  unfold fX4_calls_11 at hf
  refine lv_aload_n hx hb dX4_calls_11 rfl (lv_at hl 0 rfl) ?_
  refine q_ldc fx k_206 dX4_calls_12 ?_
  obtain ⟨r7, k7, hg, hf⟩ := bR_inv hf
  refine q_ci (rest := []) (ws' := (wX4_calls cI cJ cZ cS a_t a_party a_party_kinds a_party_costs a_party_terms a_party_known a_kept a_tape a_telephone a_sheets a_findings v_isKept v_party_size v_party_list v_party_told v_party_kinds v_party_terms v_party_known k7)) (w1 := (wX4_found cI cJ cZ cS a_t a_party a_kept a_tape a_telephone a_sheets a_findings v_isKept k7)) fx h [0, 5] rfl rfl rfl rfl (q_runV fx h hl.1 [0, 5] rfl rfl (tX4_found l D cI cJ cZ cS tb a_t a_party a_kept a_tape a_telephone a_sheets a_findings H.size v_isKept v_findings (-1000000001) r7 k7 hg) mvX4_found k_207 ⟨rfl, rfl⟩ ⟨Nat.le_of_ble_eq_true rfl, Nat.le_of_ble_eq_true rfl⟩ rfl rfl rfl rfl (Nat.le_of_ble_eq_true rfl) dX4_calls_14 ⟨Nat.le_of_ble_eq_true rfl, Nat.le_of_ble_eq_true rfl⟩) (fun H locs h => ?_)
  exact q_reti (fun k : Int32 × (Nat → Int32) × (Nat → Int32) => (wX4_calls cI cJ cZ cS a_t a_party a_party_kinds a_party_costs a_party_terms a_party_known a_kept a_tape a_telephone a_sheets a_findings v_isKept v_party_size k.1 v_party_told v_party_kinds v_party_terms k.2.1 k.2.2)) fx hf h dX4_calls_17
def fX4_calls (v_party_size : Int32) (v_party_list : Int32) (v_party_kinds : Nat → Int32) (v_party_terms : Nat → Int64) (v_party_known : Nat → Int32) (v_findings : Nat → Int32) (x1 : Int32) : Option (Int32 × Int32 × (Nat → Int32) × (Nat → Int32)) :=
  (if x1 < 1 then (
  fX4_calls_11 v_party_size v_party_kinds v_party_terms v_party_list v_party_known v_findings)
  else (
  (if x1 ≤ 20 then (
  ll6 (fX4_calls_22 v_party_size v_party_kinds v_party_terms) qF v_party_list v_party_known v_findings x1 0 0)
  else (
  fX4_calls_11 v_party_size v_party_kinds v_party_terms v_party_list v_party_known v_findings))))
set_option maxRecDepth 100000 in
set_option maxHeartbeats 4000000 in
theorem tX4_calls (l : Launch) (D : va_G) (cI cJ cZ cS : ClassId) (tb : Nat) (a_t a_party a_party_kinds a_party_costs a_party_terms a_party_known a_kept a_tape a_telephone a_sheets a_findings : Nat) (sz : Nat) (v_isKept : Int32) (v_party_size : Int32) (v_party_list : Int32) (v_party_told : Int32) (v_party_kinds : Nat → Int32) (v_party_terms : Nat → Int64) (v_party_known : Nat → Int32) (v_findings : Nat → Int32) (x1 : Int32) (rr : Int32) (kk' : Int32 × (Nat → Int32) × (Nat → Int32)) (hf : fX4_calls v_party_size v_party_list v_party_kinds v_party_terms v_party_known v_findings x1 = some (rr, kk')) : Met l yX4_calls (Cond.code yX4_calls cX4_calls 5 (some .int) :: wA) rX4_calls (q_Pre D cI cJ cZ cS tb [.ref a_t, .int x1] sz (wX4_calls cI cJ cZ cS a_t a_party a_party_kinds a_party_costs a_party_terms a_party_known a_kept a_tape a_telephone a_sheets a_findings v_isKept v_party_size v_party_list v_party_told v_party_kinds v_party_terms v_party_known v_findings)) (q_Ri D rr (va_A (wX4_calls cI cJ cZ cS a_t a_party a_party_kinds a_party_costs a_party_terms a_party_known a_kept a_tape a_telephone a_sheets a_findings v_isKept v_party_size v_party_list v_party_told v_party_kinds v_party_terms v_party_known v_findings) sz) ((fun k : Int32 × (Nat → Int32) × (Nat → Int32) => (wX4_calls cI cJ cZ cS a_t a_party a_party_kinds a_party_costs a_party_terms a_party_known a_kept a_tape a_telephone a_sheets a_findings v_isKept v_party_size k.1 v_party_told v_party_kinds v_party_terms k.2.1 k.2.2)) kk')) 0 0 (va_A (wX4_calls cI cJ cZ cS a_t a_party a_party_kinds a_party_costs a_party_terms a_party_known a_kept a_tape a_telephone a_sheets a_findings v_isKept v_party_size v_party_list v_party_told v_party_kinds v_party_terms v_party_known v_findings) sz) := by
  refine q_enter (Qf := fun A => (q_Ri D rr A ((fun k : Int32 × (Nat → Int32) × (Nat → Int32) => (wX4_calls cI cJ cZ cS a_t a_party a_party_kinds a_party_costs a_party_terms a_party_known a_kept a_tape a_telephone a_sheets a_findings v_isKept v_party_size k.1 v_party_told v_party_kinds v_party_terms k.2.1 k.2.2)) kk'))) (by decide) rfl (Nat.le_of_ble_eq_true rfl) ?_
  intro p e s m below meth c A ls fx hname h hl
  have hx := fx.1
  have hb := fx.2.1
  have hl : lv_has ls 5 [(0, .ref a_t), (1, .int x1)] := hl
  generalize h9 : s.heap = H at h ⊢
  clear h9
  generalize h9 : ([] : List Loc) = locs at h ⊢
  clear h9
  unfold fX4_calls at hf
  refine lv_iload_n hx hb dX4_calls_0 rfl (lv_at hl 1 rfl) ?_
  refine lv_iconst (v := 1) hx hb dX4_calls_1 (by decide) ?_
  refine lv_icmp_lt (tgt := 11) hx hb dX4_calls_2 (by decide) (fun c8 => ?_) (fun c8 => ?_)
  · have hf := it_t c8 hf
    exact LX4_calls_11 fx h (lv_sub hl [0] rfl) hf
  have hf := it_f c8 hf
  refine lv_iload_n hx hb dX4_calls_5 rfl (lv_at hl 1 rfl) ?_
  refine lv_bipush (v := 20) hx hb dX4_calls_6 (by decide) ?_
  refine lv_icmp_le (tgt := 18) hx hb dX4_calls_8 (by decide) (fun c9 => ?_) (fun c9 => ?_)
  · have hf := it_t c9 hf
    refine lv_iconst (v := 0) hx hb dX4_calls_18 (by decide) ?_
    refine lv_istore_n (lv' := [(2, .int 0), (0, .ref a_t), (1, .int x1)]) hx hb dX4_calls_19 rfl hl (by decide) rfl (fun ls hl => ?_)
    refine lv_iconst (v := 0) hx hb dX4_calls_20 (by decide) ?_
    refine lv_istore_n (lv' := [(3, .int 0), (2, .int 0), (0, .ref a_t), (1, .int x1)]) hx hb dX4_calls_21 rfl hl (by decide) rfl (fun ls hl => ?_)
    exact EX4_calls_22 fx qF h (lv_sub hl [2, 3, 1, 0] rfl) hf
  have hf := it_f c9 hf
  exact LX4_calls_11 fx h (lv_sub hl [0] rfl) hf
/-! X0_behind -/
abbrev wX0_behind (cI cJ cZ cS : ClassId) (a_t a_kinds a_costs a_terms a_known : Nat) (v_size : Int32) (v_list : Int32) (v_told : Int32) (v_kinds : Nat → Int32) (v_terms : Nat → Int64) (v_known : Nat → Int32) : va_W := [(a_t, .inr (0, [.int v_size, .int v_list, .int v_told, .ref a_kinds, .ref a_costs, .ref a_terms, .ref a_known])), (a_kinds, .inl (cI, 8, .inl v_kinds)), (a_terms, .inl (cJ, 32, .inr (.inl v_terms))), (a_known, .inl (cI, 256, .inl v_known))]
abbrev rX0_behind : Room := { frames := 5, cells := 0, slots := 0, locals := 111 }
def fX0_behind_5 (v_size : Int32) (v_kinds : Nat → Int32) (v_terms : Nat → Int64) (ag5 : (Nat → Int32) → Int32 → Int32 → Int32 → Option (Int32 × (Nat → Int32))) (v_known : Nat → Int32) (y2 : Int32) (y3 : Int32) (y4 : Int32) : Option (Int32 × (Nat → Int32)) :=
  (if y2 ≤ y4 then (
  some (y3, v_known))
  else (
  bR (fX0_isSettled v_size v_kinds v_terms v_known y3) (fun r2 k2 =>
  (if r2 = 0 then (
  bR (fX0_comers v_size v_kinds v_terms k2 y3) (fun r4 k4 =>
  nm (y4 + 1) (fun u5 =>
  ag5 k4 y2 r4 u5)))
  else (
  some (y3, k2))))))
set_option maxRecDepth 100000 in
set_option maxHeartbeats 4000000 in
theorem LX0_behind_5 {p : Program} {l : Launch} {e : Env} {s : State} {m : MethodId} {args : Array Value} {below : List Frame} {meth : Method} {c : Code} {D : va_G} {cI cJ cZ cS : ClassId} {tb : Nat} {A : Nat → Prop} {a_t a_kinds a_costs a_terms a_known : Nat} {v_size : Int32} {v_list : Int32} {v_told : Int32} {v_kinds : Nat → Int32} {v_terms : Nat → Int64} {rr : Int32} {kk' : (Nat → Int32)} (fx : q_Fx p s m args meth c cX0_behind 5 RX0 (some .int) D cI cJ cZ cS tb A) {ag5 : (Nat → Int32) → Int32 → Int32 → Int32 → Option (Int32 × (Nat → Int32))} (hag5 : ∀ {v_known : Nat → Int32} {y2 : Int32} {y3 : Int32} {y4 : Int32} {H : Heap} {locs : List Loc} {ls : Array Slot}, q_H D A s (wX0_behind cI cJ cZ cS a_t a_kinds a_costs a_terms a_known v_size v_list v_told v_kinds v_terms v_known) H locs → lv_has ls 5 [(0, .ref a_t), (2, .int y2), (3, .int y3), (4, .int y4)] → ag5 v_known y2 y3 y4 = some (rr, kk') → W p l e rX0_behind s m args below meth c H locs 0 0 (MQ below (q_Ri D rr A ((fun k : (Nat → Int32) => (wX0_behind cI cJ cZ cS a_t a_kinds a_costs a_terms a_known v_size v_list v_told v_kinds v_terms k)) kk')) args s 0 0 A) (F0 m 5 ls [])) : ∀ {v_known : Nat → Int32} {y2 : Int32} {y3 : Int32} {y4 : Int32} {H : Heap} {locs : List Loc} {ls : Array Slot}, q_H D A s (wX0_behind cI cJ cZ cS a_t a_kinds a_costs a_terms a_known v_size v_list v_told v_kinds v_terms v_known) H locs → lv_has ls 5 [(0, .ref a_t), (2, .int y2), (3, .int y3), (4, .int y4)] → fX0_behind_5 v_size v_kinds v_terms ag5 v_known y2 y3 y4 = some (rr, kk') → W p l e rX0_behind s m args below meth c H locs 0 0 (MQ below (q_Ri D rr A ((fun k : (Nat → Int32) => (wX0_behind cI cJ cZ cS a_t a_kinds a_costs a_terms a_known v_size v_list v_told v_kinds v_terms k)) kk')) args s 0 0 A) (F0 m 5 ls []) := by
  intro v_known y2 y3 y4 H locs ls h hl hf
  have hx := fx.1
  have hb := fx.2.1
  unfold fX0_behind_5 at hf
  refine lv_iload hx hb dX0_behind_5 (lv_at hl 3 rfl) ?_
  refine lv_iload_n hx hb dX0_behind_7 rfl (lv_at hl 1 rfl) ?_
  refine lv_icmp_ge (tgt := 31) hx hb dX0_behind_8 (by decide) (fun c1 => ?_) (fun c1 => ?_)
  · have hf := it_t c1 hf
    refine lv_iload_n hx hb dX0_behind_31 rfl (lv_at hl 2 rfl) ?_
    exact q_reti (fun k : (Nat → Int32) => (wX0_behind cI cJ cZ cS a_t a_kinds a_costs a_terms a_known v_size v_list v_told v_kinds v_terms k)) fx hf h dX0_behind_32
  have hf := it_f c1 hf
  refine lv_aload_n hx hb dX0_behind_11 rfl (lv_at hl 0 rfl) ?_
  refine lv_iload_n hx hb dX0_behind_12 rfl (lv_at hl 2 rfl) ?_
  obtain ⟨r2, k2, hg, hf⟩ := bR_inv hf
  refine q_ci (rest := []) (ws' := (wX0_behind cI cJ cZ cS a_t a_kinds a_costs a_terms a_known v_size v_list v_told v_kinds v_terms k2)) (w1 := (wX0_isSettled cI cJ cZ cS a_t a_kinds a_costs a_terms a_known v_size v_list v_told v_kinds v_terms k2)) fx h [0, 1, 2, 3] rfl rfl rfl rfl (q_runV fx h hl.1 [0, 1, 2, 3] rfl rfl (tX0_isSettled l D cI cJ cZ cS tb a_t a_kinds a_costs a_terms a_known H.size v_size v_list v_told v_kinds v_terms v_known y3 r2 k2 hg) mvX0_isSettled k_393 ⟨rfl, rfl⟩ ⟨Nat.le_of_ble_eq_true rfl, Nat.le_of_ble_eq_true rfl⟩ rfl rfl rfl rfl (Nat.le_of_ble_eq_true rfl) dX0_behind_13 ⟨Nat.le_of_ble_eq_true rfl, Nat.le_of_ble_eq_true rfl⟩) (fun H locs h => ?_)
  refine lv_if_ne (tgt := 31) hx hb dX0_behind_16 (by decide) (fun c3 => ?_) (fun c3 => ?_)
  · have hf := it_f c3 hf
    refine lv_iload_n hx hb dX0_behind_31 rfl (lv_at hl 2 rfl) ?_
    exact q_reti (fun k : (Nat → Int32) => (wX0_behind cI cJ cZ cS a_t a_kinds a_costs a_terms a_known v_size v_list v_told v_kinds v_terms k)) fx hf h dX0_behind_32
  have hf := it_t c3 hf
  refine lv_aload_n hx hb dX0_behind_19 rfl (lv_at hl 0 rfl) ?_
  refine lv_iload_n hx hb dX0_behind_20 rfl (lv_at hl 2 rfl) ?_
  obtain ⟨r4, k4, hg, hf⟩ := bR_inv hf
  refine q_ci (rest := []) (ws' := (wX0_behind cI cJ cZ cS a_t a_kinds a_costs a_terms a_known v_size v_list v_told v_kinds v_terms k4)) (w1 := (wX0_comers cI cJ cZ cS a_t a_kinds a_costs a_terms a_known v_size v_list v_told v_kinds v_terms k4)) fx h [0, 1, 2, 3] rfl rfl rfl rfl (q_runV fx h hl.1 [0, 1, 2, 3] rfl rfl (tX0_comers l D cI cJ cZ cS tb a_t a_kinds a_costs a_terms a_known H.size v_size v_list v_told v_kinds v_terms k2 y3 r4 k4 hg) mvX0_comers k_362 ⟨rfl, rfl⟩ ⟨Nat.le_of_ble_eq_true rfl, Nat.le_of_ble_eq_true rfl⟩ rfl rfl rfl rfl (Nat.le_of_ble_eq_true rfl) dX0_behind_21 ⟨Nat.le_of_ble_eq_true rfl, Nat.le_of_ble_eq_true rfl⟩) (fun H locs h => ?_)
  refine lv_istore_n (lv' := [(3, .int r4), (0, .ref a_t), (2, .int y2), (4, .int y4)]) hx hb dX0_behind_24 rfl hl (by decide) rfl (fun ls hl => ?_)
  obtain ⟨u5, eu5, hf⟩ := nm_inv hf
  refine lv_iinc (v := u5) (lv' := [(4, .int u5), (3, .int r4), (0, .ref a_t), (2, .int y2)]) hx hb dX0_behind_25 hl (k := 3) rfl (by rw [eu5]; rfl) (by decide) rfl (fun ls hl => ?_)
  refine lv_goto (tgt := 5) hx hb dX0_behind_28 (by decide) ?_
  exact hag5 h (lv_sub hl [2, 3, 1, 0] rfl) hf
set_option maxRecDepth 100000 in
theorem EX0_behind_5 {p : Program} {l : Launch} {e : Env} {s : State} {m : MethodId} {args : Array Value} {below : List Frame} {meth : Method} {c : Code} {D : va_G} {cI cJ cZ cS : ClassId} {tb : Nat} {A : Nat → Prop} {a_t a_kinds a_costs a_terms a_known : Nat} {v_size : Int32} {v_list : Int32} {v_told : Int32} {v_kinds : Nat → Int32} {v_terms : Nat → Int64} {rr : Int32} {kk' : (Nat → Int32)} (fx : q_Fx p s m args meth c cX0_behind 5 RX0 (some .int) D cI cJ cZ cS tb A) : ∀ (n : Nat), ∀ {v_known : Nat → Int32} {y2 : Int32} {y3 : Int32} {y4 : Int32} {H : Heap} {locs : List Loc} {ls : Array Slot}, q_H D A s (wX0_behind cI cJ cZ cS a_t a_kinds a_costs a_terms a_known v_size v_list v_told v_kinds v_terms v_known) H locs → lv_has ls 5 [(0, .ref a_t), (2, .int y2), (3, .int y3), (4, .int y4)] → ll4 (fX0_behind_5 v_size v_kinds v_terms) n v_known y2 y3 y4 = some (rr, kk') → W p l e rX0_behind s m args below meth c H locs 0 0 (MQ below (q_Ri D rr A ((fun k : (Nat → Int32) => (wX0_behind cI cJ cZ cS a_t a_kinds a_costs a_terms a_known v_size v_list v_told v_kinds v_terms k)) kk')) args s 0 0 A) (F0 m 5 ls []) := by
  intro n
  induction n with
  | zero => intro v_known y2 y3 y4 H locs ls h hl hf; exact (ll4_z hf).elim
  | succ n ih => intro v_known y2 y3 y4 H locs ls h hl hf; exact LX0_behind_5 fx ih h hl (ll4_s hf)
def fX0_behind (v_size : Int32) (v_kinds : Nat → Int32) (v_terms : Nat → Int64) (v_known : Nat → Int32) (x1 : Int32) (x2 : Int32) : Option (Int32 × (Nat → Int32)) :=
  ll4 (fX0_behind_5 v_size v_kinds v_terms) qF v_known x2 x1 0
set_option maxRecDepth 100000 in
set_option maxHeartbeats 4000000 in
theorem tX0_behind (l : Launch) (D : va_G) (cI cJ cZ cS : ClassId) (tb : Nat) (a_t a_kinds a_costs a_terms a_known : Nat) (sz : Nat) (v_size : Int32) (v_list : Int32) (v_told : Int32) (v_kinds : Nat → Int32) (v_terms : Nat → Int64) (v_known : Nat → Int32) (x1 : Int32) (x2 : Int32) (rr : Int32) (kk' : (Nat → Int32)) (hf : fX0_behind v_size v_kinds v_terms v_known x1 x2 = some (rr, kk')) : Met l yX0_behind (Cond.code yX0_behind cX0_behind 5 (some .int) :: wA) rX0_behind (q_Pre D cI cJ cZ cS tb [.ref a_t, .int x1, .int x2] sz (wX0_behind cI cJ cZ cS a_t a_kinds a_costs a_terms a_known v_size v_list v_told v_kinds v_terms v_known)) (q_Ri D rr (va_A (wX0_behind cI cJ cZ cS a_t a_kinds a_costs a_terms a_known v_size v_list v_told v_kinds v_terms v_known) sz) ((fun k : (Nat → Int32) => (wX0_behind cI cJ cZ cS a_t a_kinds a_costs a_terms a_known v_size v_list v_told v_kinds v_terms k)) kk')) 0 0 (va_A (wX0_behind cI cJ cZ cS a_t a_kinds a_costs a_terms a_known v_size v_list v_told v_kinds v_terms v_known) sz) := by
  refine q_enter (Qf := fun A => (q_Ri D rr A ((fun k : (Nat → Int32) => (wX0_behind cI cJ cZ cS a_t a_kinds a_costs a_terms a_known v_size v_list v_told v_kinds v_terms k)) kk'))) (by decide) rfl (Nat.le_of_ble_eq_true rfl) ?_
  intro p e s m below meth c A ls fx hname h hl
  have hx := fx.1
  have hb := fx.2.1
  have hl : lv_has ls 5 [(0, .ref a_t), (1, .int x1), (2, .int x2)] := hl
  generalize h9 : s.heap = H at h ⊢
  clear h9
  generalize h9 : ([] : List Loc) = locs at h ⊢
  clear h9
  unfold fX0_behind at hf
  refine lv_iload_n hx hb dX0_behind_0 rfl (lv_at hl 1 rfl) ?_
  refine lv_istore_n (lv' := [(3, .int x1), (0, .ref a_t), (1, .int x1), (2, .int x2)]) hx hb dX0_behind_1 rfl hl (by decide) rfl (fun ls hl => ?_)
  refine lv_iconst (v := 0) hx hb dX0_behind_2 (by decide) ?_
  refine lv_istore (lv' := [(4, .int 0), (3, .int x1), (0, .ref a_t), (1, .int x1), (2, .int x2)]) hx hb dX0_behind_3 hl (by decide) rfl (fun ls hl => ?_)
  exact EX0_behind_5 fx qF h (lv_sub hl [2, 4, 1, 0] rfl) hf
