/-! X4_read -/
abbrev wX4_read (cI cJ cZ cS : ClassId) (a_t a_party a_party_kinds a_party_costs a_party_terms a_party_known a_kept a_tape a_telephone a_sheets a_sheets0 a_sheets0_numbers a_sheets1 a_sheets1_numbers a_sheets2 a_sheets2_numbers a_sheets3 a_sheets3_numbers a_findings : Nat) (v_isKept : Int32) (v_party_size : Int32) (v_party_list : Int32) (v_party_told : Int32) (v_party_kinds : Nat → Int32) (v_party_terms : Nat → Int64) (v_party_known : Nat → Int32) (v_sheets0_bits : Int32) (v_sheets0_size : Int32) (v_sheets0_numbers : Nat → Int64) (v_sheets1_bits : Int32) (v_sheets1_size : Int32) (v_sheets1_numbers : Nat → Int64) (v_sheets2_bits : Int32) (v_sheets2_size : Int32) (v_sheets2_numbers : Nat → Int64) (v_sheets3_bits : Int32) (v_sheets3_size : Int32) (v_sheets3_numbers : Nat → Int64) (v_findings : Nat → Int32) : va_W := [(a_t, .inr (4, [.ref a_party, .ref a_kept, .int v_isKept, .ref a_tape, .ref a_telephone, .ref a_sheets, .ref a_findings])), (a_party, .inr (0, [.int v_party_size, .int v_party_list, .int v_party_told, .ref a_party_kinds, .ref a_party_costs, .ref a_party_terms, .ref a_party_known])), (a_party_kinds, .inl (cI, 8, .inl v_party_kinds)), (a_party_terms, .inl (cJ, 32, .inr (.inl v_party_terms))), (a_party_known, .inl (cI, 256, .inl v_party_known)), (a_sheets, .inl (cS, 4, .inr (.inr (.inr (.inr (q_sh a_sheets0 a_sheets1 a_sheets2 a_sheets3)))))), (a_sheets0, .inr (1, [.int v_sheets0_bits, .int v_sheets0_size, .ref a_sheets0_numbers])), (a_sheets0_numbers, .inl (cJ, 40, .inr (.inl v_sheets0_numbers))), (a_sheets1, .inr (1, [.int v_sheets1_bits, .int v_sheets1_size, .ref a_sheets1_numbers])), (a_sheets1_numbers, .inl (cJ, 40, .inr (.inl v_sheets1_numbers))), (a_sheets2, .inr (1, [.int v_sheets2_bits, .int v_sheets2_size, .ref a_sheets2_numbers])), (a_sheets2_numbers, .inl (cJ, 40, .inr (.inl v_sheets2_numbers))), (a_sheets3, .inr (1, [.int v_sheets3_bits, .int v_sheets3_size, .ref a_sheets3_numbers])), (a_sheets3_numbers, .inl (cJ, 40, .inr (.inl v_sheets3_numbers))), (a_findings, .inl (cI, 7, .inl v_findings))]
abbrev rX4_read : Room := { frames := 6, cells := 0, slots := 0, locals := 138 }
def fX4_read_57 (v_party_size : Int32) (v_party_kinds : Nat → Int32) (v_party_terms : Nat → Int64) (v_sheets0_bits : Int32) (v_sheets0_size : Int32) (v_sheets0_numbers : Nat → Int64) (v_sheets1_bits : Int32) (v_sheets1_size : Int32) (v_sheets1_numbers : Nat → Int64) (v_sheets2_bits : Int32) (v_sheets2_size : Int32) (v_sheets2_numbers : Nat → Int64) (v_sheets3_bits : Int32) (v_sheets3_size : Int32) (v_sheets3_numbers : Nat → Int64) (ag42 : (Nat → Int32) → (Nat → Int32) → Int32 → Int32 → Int32 → Option (Int32 × (Nat → Int32) × (Nat → Int32))) (ag57 : (Nat → Int32) → (Nat → Int32) → Int32 → Int32 → Int32 → Int32 → Option (Int32 × (Nat → Int32) × (Nat → Int32))) (v_party_known : Nat → Int32) (v_findings : Nat → Int32) (y1 : Int32) (y3 : Int32) (y4 : Int32) (y5 : Int32) : Option (Int32 × (Nat → Int32) × (Nat → Int32)) :=
  (if (6 : Int32) ≤ y5 then (
  nm (y4 + 1) (fun u2 =>
  ag42 v_party_known v_findings y1 y3 u2))
  else (
  sel4 y1 (
  bR (fX4_explains v_party_size v_party_kinds v_party_terms v_party_known v_sheets0_bits v_sheets0_size v_sheets0_numbers y4 y5) (fun r4 k4 =>
  bR (fX4_oneIf r4) (fun r5 k5 =>
  nm (y3 + r5) (fun u6 =>
  nm (y5 + 1) (fun u7 =>
  ag57 k4 v_findings y1 u6 y4 u7)))))
  (bR (fX4_explains v_party_size v_party_kinds v_party_terms v_party_known v_sheets1_bits v_sheets1_size v_sheets1_numbers y4 y5) (fun r8 k8 =>
  bR (fX4_oneIf r8) (fun r9 k9 =>
  nm (y3 + r9) (fun u10 =>
  nm (y5 + 1) (fun u11 =>
  ag57 k8 v_findings y1 u10 y4 u11)))))
  (bR (fX4_explains v_party_size v_party_kinds v_party_terms v_party_known v_sheets2_bits v_sheets2_size v_sheets2_numbers y4 y5) (fun r12 k12 =>
  bR (fX4_oneIf r12) (fun r13 k13 =>
  nm (y3 + r13) (fun u14 =>
  nm (y5 + 1) (fun u15 =>
  ag57 k12 v_findings y1 u14 y4 u15)))))
  (bR (fX4_explains v_party_size v_party_kinds v_party_terms v_party_known v_sheets3_bits v_sheets3_size v_sheets3_numbers y4 y5) (fun r16 k16 =>
  bR (fX4_oneIf r16) (fun r17 k17 =>
  nm (y3 + r17) (fun u18 =>
  nm (y5 + 1) (fun u19 =>
  ag57 k16 v_findings y1 u18 y4 u19)))))))
set_option maxRecDepth 100000 in
set_option maxHeartbeats 4000000 in
theorem LX4_read_57 {p : Program} {l : Launch} {e : Env} {s : State} {m : MethodId} {args : Array Value} {below : List Frame} {meth : Method} {c : Code} {D : va_G} {cI cJ cZ cS : ClassId} {tb : Nat} {A : Nat → Prop} {a_t a_party a_party_kinds a_party_costs a_party_terms a_party_known a_kept a_tape a_telephone a_sheets a_sheets0 a_sheets0_numbers a_sheets1 a_sheets1_numbers a_sheets2 a_sheets2_numbers a_sheets3 a_sheets3_numbers a_findings : Nat} {v_isKept : Int32} {v_party_size : Int32} {v_party_list : Int32} {v_party_told : Int32} {v_party_kinds : Nat → Int32} {v_party_terms : Nat → Int64} {v_sheets0_bits : Int32} {v_sheets0_size : Int32} {v_sheets0_numbers : Nat → Int64} {v_sheets1_bits : Int32} {v_sheets1_size : Int32} {v_sheets1_numbers : Nat → Int64} {v_sheets2_bits : Int32} {v_sheets2_size : Int32} {v_sheets2_numbers : Nat → Int64} {v_sheets3_bits : Int32} {v_sheets3_size : Int32} {v_sheets3_numbers : Nat → Int64} {rr : Int32} {kk' : (Nat → Int32) × (Nat → Int32)} (fx : q_Fx p s m args meth c cX4_read 6 RX4 (some .int) D cI cJ cZ cS tb A) {ag42 : (Nat → Int32) → (Nat → Int32) → Int32 → Int32 → Int32 → Option (Int32 × (Nat → Int32) × (Nat → Int32))} (hag42 : ∀ {v_party_known : Nat → Int32} {v_findings : Nat → Int32} {y1 : Int32} {y3 : Int32} {y4 : Int32} {H : Heap} {locs : List Loc} {ls : Array Slot}, q_H D A s (wX4_read cI cJ cZ cS a_t a_party a_party_kinds a_party_costs a_party_terms a_party_known a_kept a_tape a_telephone a_sheets a_sheets0 a_sheets0_numbers a_sheets1 a_sheets1_numbers a_sheets2 a_sheets2_numbers a_sheets3 a_sheets3_numbers a_findings v_isKept v_party_size v_party_list v_party_told v_party_kinds v_party_terms v_party_known v_sheets0_bits v_sheets0_size v_sheets0_numbers v_sheets1_bits v_sheets1_size v_sheets1_numbers v_sheets2_bits v_sheets2_size v_sheets2_numbers v_sheets3_bits v_sheets3_size v_sheets3_numbers v_findings) H locs → lv_has ls 6 [(0, .ref a_t), (1, .int y1), (3, .int y3), (4, .int y4)] → ag42 v_party_known v_findings y1 y3 y4 = some (rr, kk') → W p l e rX4_read s m args below meth c H locs 0 0 (MQ below (q_Ri D rr A ((fun k : (Nat → Int32) × (Nat → Int32) => (wX4_read cI cJ cZ cS a_t a_party a_party_kinds a_party_costs a_party_terms a_party_known a_kept a_tape a_telephone a_sheets a_sheets0 a_sheets0_numbers a_sheets1 a_sheets1_numbers a_sheets2 a_sheets2_numbers a_sheets3 a_sheets3_numbers a_findings v_isKept v_party_size v_party_list v_party_told v_party_kinds v_party_terms k.1 v_sheets0_bits v_sheets0_size v_sheets0_numbers v_sheets1_bits v_sheets1_size v_sheets1_numbers v_sheets2_bits v_sheets2_size v_sheets2_numbers v_sheets3_bits v_sheets3_size v_sheets3_numbers k.2)) kk')) args s 0 0 A) (F0 m 42 ls [])) {ag57 : (Nat → Int32) → (Nat → Int32) → Int32 → Int32 → Int32 → Int32 → Option (Int32 × (Nat → Int32) × (Nat → Int32))} (hag57 : ∀ {v_party_known : Nat → Int32} {v_findings : Nat → Int32} {y1 : Int32} {y3 : Int32} {y4 : Int32} {y5 : Int32} {H : Heap} {locs : List Loc} {ls : Array Slot}, q_H D A s (wX4_read cI cJ cZ cS a_t a_party a_party_kinds a_party_costs a_party_terms a_party_known a_kept a_tape a_telephone a_sheets a_sheets0 a_sheets0_numbers a_sheets1 a_sheets1_numbers a_sheets2 a_sheets2_numbers a_sheets3 a_sheets3_numbers a_findings v_isKept v_party_size v_party_list v_party_told v_party_kinds v_party_terms v_party_known v_sheets0_bits v_sheets0_size v_sheets0_numbers v_sheets1_bits v_sheets1_size v_sheets1_numbers v_sheets2_bits v_sheets2_size v_sheets2_numbers v_sheets3_bits v_sheets3_size v_sheets3_numbers v_findings) H locs → lv_has ls 6 [(0, .ref a_t), (1, .int y1), (3, .int y3), (4, .int y4), (5, .int y5)] → ag57 v_party_known v_findings y1 y3 y4 y5 = some (rr, kk') → W p l e rX4_read s m args below meth c H locs 0 0 (MQ below (q_Ri D rr A ((fun k : (Nat → Int32) × (Nat → Int32) => (wX4_read cI cJ cZ cS a_t a_party a_party_kinds a_party_costs a_party_terms a_party_known a_kept a_tape a_telephone a_sheets a_sheets0 a_sheets0_numbers a_sheets1 a_sheets1_numbers a_sheets2 a_sheets2_numbers a_sheets3 a_sheets3_numbers a_findings v_isKept v_party_size v_party_list v_party_told v_party_kinds v_party_terms k.1 v_sheets0_bits v_sheets0_size v_sheets0_numbers v_sheets1_bits v_sheets1_size v_sheets1_numbers v_sheets2_bits v_sheets2_size v_sheets2_numbers v_sheets3_bits v_sheets3_size v_sheets3_numbers k.2)) kk')) args s 0 0 A) (F0 m 57 ls [])) : ∀ {v_party_known : Nat → Int32} {v_findings : Nat → Int32} {y1 : Int32} {y3 : Int32} {y4 : Int32} {y5 : Int32} {H : Heap} {locs : List Loc} {ls : Array Slot}, q_H D A s (wX4_read cI cJ cZ cS a_t a_party a_party_kinds a_party_costs a_party_terms a_party_known a_kept a_tape a_telephone a_sheets a_sheets0 a_sheets0_numbers a_sheets1 a_sheets1_numbers a_sheets2 a_sheets2_numbers a_sheets3 a_sheets3_numbers a_findings v_isKept v_party_size v_party_list v_party_told v_party_kinds v_party_terms v_party_known v_sheets0_bits v_sheets0_size v_sheets0_numbers v_sheets1_bits v_sheets1_size v_sheets1_numbers v_sheets2_bits v_sheets2_size v_sheets2_numbers v_sheets3_bits v_sheets3_size v_sheets3_numbers v_findings) H locs → lv_has ls 6 [(0, .ref a_t), (1, .int y1), (3, .int y3), (4, .int y4), (5, .int y5)] → fX4_read_57 v_party_size v_party_kinds v_party_terms v_sheets0_bits v_sheets0_size v_sheets0_numbers v_sheets1_bits v_sheets1_size v_sheets1_numbers v_sheets2_bits v_sheets2_size v_sheets2_numbers v_sheets3_bits v_sheets3_size v_sheets3_numbers ag42 ag57 v_party_known v_findings y1 y3 y4 y5 = some (rr, kk') → W p l e rX4_read s m args below meth c H locs 0 0 (MQ below (q_Ri D rr A ((fun k : (Nat → Int32) × (Nat → Int32) => (wX4_read cI cJ cZ cS a_t a_party a_party_kinds a_party_costs a_party_terms a_party_known a_kept a_tape a_telephone a_sheets a_sheets0 a_sheets0_numbers a_sheets1 a_sheets1_numbers a_sheets2 a_sheets2_numbers a_sheets3 a_sheets3_numbers a_findings v_isKept v_party_size v_party_list v_party_told v_party_kinds v_party_terms k.1 v_sheets0_bits v_sheets0_size v_sheets0_numbers v_sheets1_bits v_sheets1_size v_sheets1_numbers v_sheets2_bits v_sheets2_size v_sheets2_numbers v_sheets3_bits v_sheets3_size v_sheets3_numbers k.2)) kk')) args s 0 0 A) (F0 m 57 ls []) := by
  intro v_party_known v_findings y1 y3 y4 y5 H locs ls h hl hf
  have hx := fx.1
  have hb := fx.2.1
  unfold fX4_read_57 at hf
  refine lv_iload hx hb dX4_read_57 (lv_at hl 4 rfl) ?_
  refine lv_bipush (v := 6) hx hb dX4_read_59 (by decide) ?_
  refine lv_icmp_ge (tgt := 90) hx hb dX4_read_61 (by decide) (fun c1 => ?_) (fun c1 => ?_)
  · have hf := it_t c1 hf
    obtain ⟨u2, eu2, hf⟩ := nm_inv hf
    refine lv_iinc (v := u2) (lv' := [(4, .int u2), (0, .ref a_t), (1, .int y1), (3, .int y3), (5, .int y5)]) hx hb dX4_read_90 hl (k := 3) rfl (by rw [eu2]; rfl) (by decide) rfl (fun ls hl => ?_)
    refine lv_goto (tgt := 42) hx hb dX4_read_93 (by decide) ?_
    exact hag42 h (lv_sub hl [1, 2, 3, 0] rfl) hf
  have hf := it_f c1 hf
  refine lv_iload_n hx hb dX4_read_64 rfl (lv_at hl 2 rfl) ?_
  refine lv_aload_n hx hb dX4_read_65 rfl (lv_at hl 0 rfl) ?_
  refine lv_aload_n hx hb dX4_read_66 rfl (lv_at hl 0 rfl) ?_
  refine q_get (v := .ref a_sheets) fx inX4 h 0 rfl rfl 5 (by decide) k_179 rfl dX4_read_67 ?_
  refine lv_iload_n hx hb dX4_read_70 rfl (lv_at hl 1 rfl) ?_
  rcases sel4_inv hf with ⟨c3, hf⟩ | ⟨c3, hf⟩ | ⟨c3, hf⟩ | ⟨c3, hf⟩
  · refine q_aald (v := a_sheets0) fx h 5 rfl c3 (vinK (by decide)) rfl dX4_read_71 ?_
    refine lv_iload hx hb dX4_read_72 (lv_at hl 3 rfl) ?_
    refine lv_iload hx hb dX4_read_74 (lv_at hl 4 rfl) ?_
    obtain ⟨r4, k4, hg, hf⟩ := bR_inv hf
    refine q_ci (rest := [.int y3]) (ws' := (wX4_read cI cJ cZ cS a_t a_party a_party_kinds a_party_costs a_party_terms a_party_known a_kept a_tape a_telephone a_sheets a_sheets0 a_sheets0_numbers a_sheets1 a_sheets1_numbers a_sheets2 a_sheets2_numbers a_sheets3 a_sheets3_numbers a_findings v_isKept v_party_size v_party_list v_party_told v_party_kinds v_party_terms k4 v_sheets0_bits v_sheets0_size v_sheets0_numbers v_sheets1_bits v_sheets1_size v_sheets1_numbers v_sheets2_bits v_sheets2_size v_sheets2_numbers v_sheets3_bits v_sheets3_size v_sheets3_numbers v_findings)) (w1 := (wX4_explains cI cJ cZ cS a_t a_party a_party_kinds a_party_costs a_party_terms a_party_known a_kept a_tape a_telephone a_sheets a_findings a_sheets0 a_sheets0_numbers v_isKept v_party_size v_party_list v_party_told v_party_kinds v_party_terms k4 v_sheets0_bits v_sheets0_size v_sheets0_numbers)) fx h [0, 1, 2, 3, 4, 6, 7] rfl rfl rfl rfl (q_runV fx h hl.1 [0, 1, 2, 3, 4, 6, 7] rfl rfl (tX4_explains l D cI cJ cZ cS tb a_t a_party a_party_kinds a_party_costs a_party_terms a_party_known a_kept a_tape a_telephone a_sheets a_findings a_sheets0 a_sheets0_numbers H.size v_isKept v_party_size v_party_list v_party_told v_party_kinds v_party_terms v_party_known v_sheets0_bits v_sheets0_size v_sheets0_numbers y4 y5 r4 k4 hg) mvX4_explains k_596 ⟨rfl, rfl⟩ ⟨Nat.le_of_ble_eq_true rfl, Nat.le_of_ble_eq_true rfl⟩ rfl rfl rfl rfl (Nat.le_of_ble_eq_true rfl) dX4_read_76 ⟨Nat.le_of_ble_eq_true rfl, Nat.le_of_ble_eq_true rfl⟩) (fun H locs h => ?_)
    obtain ⟨r5, k5, hg, hf⟩ := bR_inv hf
    refine q_ci (rest := [.int y3]) (ws' := (wX4_read cI cJ cZ cS a_t a_party a_party_kinds a_party_costs a_party_terms a_party_known a_kept a_tape a_telephone a_sheets a_sheets0 a_sheets0_numbers a_sheets1 a_sheets1_numbers a_sheets2 a_sheets2_numbers a_sheets3 a_sheets3_numbers a_findings v_isKept v_party_size v_party_list v_party_told v_party_kinds v_party_terms k4 v_sheets0_bits v_sheets0_size v_sheets0_numbers v_sheets1_bits v_sheets1_size v_sheets1_numbers v_sheets2_bits v_sheets2_size v_sheets2_numbers v_sheets3_bits v_sheets3_size v_sheets3_numbers v_findings)) (w1 := (wX4_oneIf cI cJ cZ cS)) fx h [] rfl rfl rfl rfl (q_runS fx h hl.1 [] rfl rfl (tX4_oneIf l D cI cJ cZ cS tb H.size r4 r5 k5 hg) msX4_oneIf k_246 ⟨rfl, rfl⟩ ⟨Nat.le_of_ble_eq_true rfl, Nat.le_of_ble_eq_true rfl⟩ rfl rfl (Nat.le_of_ble_eq_true rfl) dX4_read_79 ⟨Nat.le_of_ble_eq_true rfl, Nat.le_of_ble_eq_true rfl⟩) (fun H locs h => ?_)
    refine lv_iadd hx hb dX4_read_82 ?_
    obtain ⟨u6, eu6, hf⟩ := nm_inv hf
    refine lv_eqi eu6 ?_
    refine lv_istore_n (lv' := [(3, .int u6), (0, .ref a_t), (1, .int y1), (4, .int y4), (5, .int y5)]) hx hb dX4_read_83 rfl hl (by decide) rfl (fun ls hl => ?_)
    obtain ⟨u7, eu7, hf⟩ := nm_inv hf
    refine lv_iinc (v := u7) (lv' := [(5, .int u7), (3, .int u6), (0, .ref a_t), (1, .int y1), (4, .int y4)]) hx hb dX4_read_84 hl (k := 4) rfl (by rw [eu7]; rfl) (by decide) rfl (fun ls hl => ?_)
    refine lv_goto (tgt := 57) hx hb dX4_read_87 (by decide) ?_
    exact hag57 h (lv_sub hl [2, 3, 1, 4, 0] rfl) hf
  · refine q_aald (v := a_sheets1) fx h 5 rfl c3 (vinK (by decide)) rfl dX4_read_71 ?_
    refine lv_iload hx hb dX4_read_72 (lv_at hl 3 rfl) ?_
    refine lv_iload hx hb dX4_read_74 (lv_at hl 4 rfl) ?_
    obtain ⟨r8, k8, hg, hf⟩ := bR_inv hf
    refine q_ci (rest := [.int y3]) (ws' := (wX4_read cI cJ cZ cS a_t a_party a_party_kinds a_party_costs a_party_terms a_party_known a_kept a_tape a_telephone a_sheets a_sheets0 a_sheets0_numbers a_sheets1 a_sheets1_numbers a_sheets2 a_sheets2_numbers a_sheets3 a_sheets3_numbers a_findings v_isKept v_party_size v_party_list v_party_told v_party_kinds v_party_terms k8 v_sheets0_bits v_sheets0_size v_sheets0_numbers v_sheets1_bits v_sheets1_size v_sheets1_numbers v_sheets2_bits v_sheets2_size v_sheets2_numbers v_sheets3_bits v_sheets3_size v_sheets3_numbers v_findings)) (w1 := (wX4_explains cI cJ cZ cS a_t a_party a_party_kinds a_party_costs a_party_terms a_party_known a_kept a_tape a_telephone a_sheets a_findings a_sheets1 a_sheets1_numbers v_isKept v_party_size v_party_list v_party_told v_party_kinds v_party_terms k8 v_sheets1_bits v_sheets1_size v_sheets1_numbers)) fx h [0, 1, 2, 3, 4, 8, 9] rfl rfl rfl rfl (q_runV fx h hl.1 [0, 1, 2, 3, 4, 8, 9] rfl rfl (tX4_explains l D cI cJ cZ cS tb a_t a_party a_party_kinds a_party_costs a_party_terms a_party_known a_kept a_tape a_telephone a_sheets a_findings a_sheets1 a_sheets1_numbers H.size v_isKept v_party_size v_party_list v_party_told v_party_kinds v_party_terms v_party_known v_sheets1_bits v_sheets1_size v_sheets1_numbers y4 y5 r8 k8 hg) mvX4_explains k_596 ⟨rfl, rfl⟩ ⟨Nat.le_of_ble_eq_true rfl, Nat.le_of_ble_eq_true rfl⟩ rfl rfl rfl rfl (Nat.le_of_ble_eq_true rfl) dX4_read_76 ⟨Nat.le_of_ble_eq_true rfl, Nat.le_of_ble_eq_true rfl⟩) (fun H locs h => ?_)
    obtain ⟨r9, k9, hg, hf⟩ := bR_inv hf
    refine q_ci (rest := [.int y3]) (ws' := (wX4_read cI cJ cZ cS a_t a_party a_party_kinds a_party_costs a_party_terms a_party_known a_kept a_tape a_telephone a_sheets a_sheets0 a_sheets0_numbers a_sheets1 a_sheets1_numbers a_sheets2 a_sheets2_numbers a_sheets3 a_sheets3_numbers a_findings v_isKept v_party_size v_party_list v_party_told v_party_kinds v_party_terms k8 v_sheets0_bits v_sheets0_size v_sheets0_numbers v_sheets1_bits v_sheets1_size v_sheets1_numbers v_sheets2_bits v_sheets2_size v_sheets2_numbers v_sheets3_bits v_sheets3_size v_sheets3_numbers v_findings)) (w1 := (wX4_oneIf cI cJ cZ cS)) fx h [] rfl rfl rfl rfl (q_runS fx h hl.1 [] rfl rfl (tX4_oneIf l D cI cJ cZ cS tb H.size r8 r9 k9 hg) msX4_oneIf k_246 ⟨rfl, rfl⟩ ⟨Nat.le_of_ble_eq_true rfl, Nat.le_of_ble_eq_true rfl⟩ rfl rfl (Nat.le_of_ble_eq_true rfl) dX4_read_79 ⟨Nat.le_of_ble_eq_true rfl, Nat.le_of_ble_eq_true rfl⟩) (fun H locs h => ?_)
    refine lv_iadd hx hb dX4_read_82 ?_
    obtain ⟨u10, eu10, hf⟩ := nm_inv hf
    refine lv_eqi eu10 ?_
    refine lv_istore_n (lv' := [(3, .int u10), (0, .ref a_t), (1, .int y1), (4, .int y4), (5, .int y5)]) hx hb dX4_read_83 rfl hl (by decide) rfl (fun ls hl => ?_)
    obtain ⟨u11, eu11, hf⟩ := nm_inv hf
    refine lv_iinc (v := u11) (lv' := [(5, .int u11), (3, .int u10), (0, .ref a_t), (1, .int y1), (4, .int y4)]) hx hb dX4_read_84 hl (k := 4) rfl (by rw [eu11]; rfl) (by decide) rfl (fun ls hl => ?_)
    refine lv_goto (tgt := 57) hx hb dX4_read_87 (by decide) ?_
    exact hag57 h (lv_sub hl [2, 3, 1, 4, 0] rfl) hf
  · refine q_aald (v := a_sheets2) fx h 5 rfl c3 (vinK (by decide)) rfl dX4_read_71 ?_
    refine lv_iload hx hb dX4_read_72 (lv_at hl 3 rfl) ?_
    refine lv_iload hx hb dX4_read_74 (lv_at hl 4 rfl) ?_
    obtain ⟨r12, k12, hg, hf⟩ := bR_inv hf
    refine q_ci (rest := [.int y3]) (ws' := (wX4_read cI cJ cZ cS a_t a_party a_party_kinds a_party_costs a_party_terms a_party_known a_kept a_tape a_telephone a_sheets a_sheets0 a_sheets0_numbers a_sheets1 a_sheets1_numbers a_sheets2 a_sheets2_numbers a_sheets3 a_sheets3_numbers a_findings v_isKept v_party_size v_party_list v_party_told v_party_kinds v_party_terms k12 v_sheets0_bits v_sheets0_size v_sheets0_numbers v_sheets1_bits v_sheets1_size v_sheets1_numbers v_sheets2_bits v_sheets2_size v_sheets2_numbers v_sheets3_bits v_sheets3_size v_sheets3_numbers v_findings)) (w1 := (wX4_explains cI cJ cZ cS a_t a_party a_party_kinds a_party_costs a_party_terms a_party_known a_kept a_tape a_telephone a_sheets a_findings a_sheets2 a_sheets2_numbers v_isKept v_party_size v_party_list v_party_told v_party_kinds v_party_terms k12 v_sheets2_bits v_sheets2_size v_sheets2_numbers)) fx h [0, 1, 2, 3, 4, 10, 11] rfl rfl rfl rfl (q_runV fx h hl.1 [0, 1, 2, 3, 4, 10, 11] rfl rfl (tX4_explains l D cI cJ cZ cS tb a_t a_party a_party_kinds a_party_costs a_party_terms a_party_known a_kept a_tape a_telephone a_sheets a_findings a_sheets2 a_sheets2_numbers H.size v_isKept v_party_size v_party_list v_party_told v_party_kinds v_party_terms v_party_known v_sheets2_bits v_sheets2_size v_sheets2_numbers y4 y5 r12 k12 hg) mvX4_explains k_596 ⟨rfl, rfl⟩ ⟨Nat.le_of_ble_eq_true rfl, Nat.le_of_ble_eq_true rfl⟩ rfl rfl rfl rfl (Nat.le_of_ble_eq_true rfl) dX4_read_76 ⟨Nat.le_of_ble_eq_true rfl, Nat.le_of_ble_eq_true rfl⟩) (fun H locs h => ?_)
    obtain ⟨r13, k13, hg, hf⟩ := bR_inv hf
    refine q_ci (rest := [.int y3]) (ws' := (wX4_read cI cJ cZ cS a_t a_party a_party_kinds a_party_costs a_party_terms a_party_known a_kept a_tape a_telephone a_sheets a_sheets0 a_sheets0_numbers a_sheets1 a_sheets1_numbers a_sheets2 a_sheets2_numbers a_sheets3 a_sheets3_numbers a_findings v_isKept v_party_size v_party_list v_party_told v_party_kinds v_party_terms k12 v_sheets0_bits v_sheets0_size v_sheets0_numbers v_sheets1_bits v_sheets1_size v_sheets1_numbers v_sheets2_bits v_sheets2_size v_sheets2_numbers v_sheets3_bits v_sheets3_size v_sheets3_numbers v_findings)) (w1 := (wX4_oneIf cI cJ cZ cS)) fx h [] rfl rfl rfl rfl (q_runS fx h hl.1 [] rfl rfl (tX4_oneIf l D cI cJ cZ cS tb H.size r12 r13 k13 hg) msX4_oneIf k_246 ⟨rfl, rfl⟩ ⟨Nat.le_of_ble_eq_true rfl, Nat.le_of_ble_eq_true rfl⟩ rfl rfl (Nat.le_of_ble_eq_true rfl) dX4_read_79 ⟨Nat.le_of_ble_eq_true rfl, Nat.le_of_ble_eq_true rfl⟩) (fun H locs h => ?_)
    refine lv_iadd hx hb dX4_read_82 ?_
    obtain ⟨u14, eu14, hf⟩ := nm_inv hf
    refine lv_eqi eu14 ?_
    refine lv_istore_n (lv' := [(3, .int u14), (0, .ref a_t), (1, .int y1), (4, .int y4), (5, .int y5)]) hx hb dX4_read_83 rfl hl (by decide) rfl (fun ls hl => ?_)
    obtain ⟨u15, eu15, hf⟩ := nm_inv hf
    refine lv_iinc (v := u15) (lv' := [(5, .int u15), (3, .int u14), (0, .ref a_t), (1, .int y1), (4, .int y4)]) hx hb dX4_read_84 hl (k := 4) rfl (by rw [eu15]; rfl) (by decide) rfl (fun ls hl => ?_)
    refine lv_goto (tgt := 57) hx hb dX4_read_87 (by decide) ?_
    exact hag57 h (lv_sub hl [2, 3, 1, 4, 0] rfl) hf
  · refine q_aald (v := a_sheets3) fx h 5 rfl c3 (vinK (by decide)) rfl dX4_read_71 ?_
    refine lv_iload hx hb dX4_read_72 (lv_at hl 3 rfl) ?_
    refine lv_iload hx hb dX4_read_74 (lv_at hl 4 rfl) ?_
    obtain ⟨r16, k16, hg, hf⟩ := bR_inv hf
    refine q_ci (rest := [.int y3]) (ws' := (wX4_read cI cJ cZ cS a_t a_party a_party_kinds a_party_costs a_party_terms a_party_known a_kept a_tape a_telephone a_sheets a_sheets0 a_sheets0_numbers a_sheets1 a_sheets1_numbers a_sheets2 a_sheets2_numbers a_sheets3 a_sheets3_numbers a_findings v_isKept v_party_size v_party_list v_party_told v_party_kinds v_party_terms k16 v_sheets0_bits v_sheets0_size v_sheets0_numbers v_sheets1_bits v_sheets1_size v_sheets1_numbers v_sheets2_bits v_sheets2_size v_sheets2_numbers v_sheets3_bits v_sheets3_size v_sheets3_numbers v_findings)) (w1 := (wX4_explains cI cJ cZ cS a_t a_party a_party_kinds a_party_costs a_party_terms a_party_known a_kept a_tape a_telephone a_sheets a_findings a_sheets3 a_sheets3_numbers v_isKept v_party_size v_party_list v_party_told v_party_kinds v_party_terms k16 v_sheets3_bits v_sheets3_size v_sheets3_numbers)) fx h [0, 1, 2, 3, 4, 12, 13] rfl rfl rfl rfl (q_runV fx h hl.1 [0, 1, 2, 3, 4, 12, 13] rfl rfl (tX4_explains l D cI cJ cZ cS tb a_t a_party a_party_kinds a_party_costs a_party_terms a_party_known a_kept a_tape a_telephone a_sheets a_findings a_sheets3 a_sheets3_numbers H.size v_isKept v_party_size v_party_list v_party_told v_party_kinds v_party_terms v_party_known v_sheets3_bits v_sheets3_size v_sheets3_numbers y4 y5 r16 k16 hg) mvX4_explains k_596 ⟨rfl, rfl⟩ ⟨Nat.le_of_ble_eq_true rfl, Nat.le_of_ble_eq_true rfl⟩ rfl rfl rfl rfl (Nat.le_of_ble_eq_true rfl) dX4_read_76 ⟨Nat.le_of_ble_eq_true rfl, Nat.le_of_ble_eq_true rfl⟩) (fun H locs h => ?_)
    obtain ⟨r17, k17, hg, hf⟩ := bR_inv hf
    refine q_ci (rest := [.int y3]) (ws' := (wX4_read cI cJ cZ cS a_t a_party a_party_kinds a_party_costs a_party_terms a_party_known a_kept a_tape a_telephone a_sheets a_sheets0 a_sheets0_numbers a_sheets1 a_sheets1_numbers a_sheets2 a_sheets2_numbers a_sheets3 a_sheets3_numbers a_findings v_isKept v_party_size v_party_list v_party_told v_party_kinds v_party_terms k16 v_sheets0_bits v_sheets0_size v_sheets0_numbers v_sheets1_bits v_sheets1_size v_sheets1_numbers v_sheets2_bits v_sheets2_size v_sheets2_numbers v_sheets3_bits v_sheets3_size v_sheets3_numbers v_findings)) (w1 := (wX4_oneIf cI cJ cZ cS)) fx h [] rfl rfl rfl rfl (q_runS fx h hl.1 [] rfl rfl (tX4_oneIf l D cI cJ cZ cS tb H.size r16 r17 k17 hg) msX4_oneIf k_246 ⟨rfl, rfl⟩ ⟨Nat.le_of_ble_eq_true rfl, Nat.le_of_ble_eq_true rfl⟩ rfl rfl (Nat.le_of_ble_eq_true rfl) dX4_read_79 ⟨Nat.le_of_ble_eq_true rfl, Nat.le_of_ble_eq_true rfl⟩) (fun H locs h => ?_)
    refine lv_iadd hx hb dX4_read_82 ?_
    obtain ⟨u18, eu18, hf⟩ := nm_inv hf
    refine lv_eqi eu18 ?_
    refine lv_istore_n (lv' := [(3, .int u18), (0, .ref a_t), (1, .int y1), (4, .int y4), (5, .int y5)]) hx hb dX4_read_83 rfl hl (by decide) rfl (fun ls hl => ?_)
    obtain ⟨u19, eu19, hf⟩ := nm_inv hf
    refine lv_iinc (v := u19) (lv' := [(5, .int u19), (3, .int u18), (0, .ref a_t), (1, .int y1), (4, .int y4)]) hx hb dX4_read_84 hl (k := 4) rfl (by rw [eu19]; rfl) (by decide) rfl (fun ls hl => ?_)
    refine lv_goto (tgt := 57) hx hb dX4_read_87 (by decide) ?_
    exact hag57 h (lv_sub hl [2, 3, 1, 4, 0] rfl) hf
set_option maxRecDepth 100000 in
theorem EX4_read_57 {p : Program} {l : Launch} {e : Env} {s : State} {m : MethodId} {args : Array Value} {below : List Frame} {meth : Method} {c : Code} {D : va_G} {cI cJ cZ cS : ClassId} {tb : Nat} {A : Nat → Prop} {a_t a_party a_party_kinds a_party_costs a_party_terms a_party_known a_kept a_tape a_telephone a_sheets a_sheets0 a_sheets0_numbers a_sheets1 a_sheets1_numbers a_sheets2 a_sheets2_numbers a_sheets3 a_sheets3_numbers a_findings : Nat} {v_isKept : Int32} {v_party_size : Int32} {v_party_list : Int32} {v_party_told : Int32} {v_party_kinds : Nat → Int32} {v_party_terms : Nat → Int64} {v_sheets0_bits : Int32} {v_sheets0_size : Int32} {v_sheets0_numbers : Nat → Int64} {v_sheets1_bits : Int32} {v_sheets1_size : Int32} {v_sheets1_numbers : Nat → Int64} {v_sheets2_bits : Int32} {v_sheets2_size : Int32} {v_sheets2_numbers : Nat → Int64} {v_sheets3_bits : Int32} {v_sheets3_size : Int32} {v_sheets3_numbers : Nat → Int64} {rr : Int32} {kk' : (Nat → Int32) × (Nat → Int32)} (fx : q_Fx p s m args meth c cX4_read 6 RX4 (some .int) D cI cJ cZ cS tb A) {ag42 : (Nat → Int32) → (Nat → Int32) → Int32 → Int32 → Int32 → Option (Int32 × (Nat → Int32) × (Nat → Int32))} (hag42 : ∀ {v_party_known : Nat → Int32} {v_findings : Nat → Int32} {y1 : Int32} {y3 : Int32} {y4 : Int32} {H : Heap} {locs : List Loc} {ls : Array Slot}, q_H D A s (wX4_read cI cJ cZ cS a_t a_party a_party_kinds a_party_costs a_party_terms a_party_known a_kept a_tape a_telephone a_sheets a_sheets0 a_sheets0_numbers a_sheets1 a_sheets1_numbers a_sheets2 a_sheets2_numbers a_sheets3 a_sheets3_numbers a_findings v_isKept v_party_size v_party_list v_party_told v_party_kinds v_party_terms v_party_known v_sheets0_bits v_sheets0_size v_sheets0_numbers v_sheets1_bits v_sheets1_size v_sheets1_numbers v_sheets2_bits v_sheets2_size v_sheets2_numbers v_sheets3_bits v_sheets3_size v_sheets3_numbers v_findings) H locs → lv_has ls 6 [(0, .ref a_t), (1, .int y1), (3, .int y3), (4, .int y4)] → ag42 v_party_known v_findings y1 y3 y4 = some (rr, kk') → W p l e rX4_read s m args below meth c H locs 0 0 (MQ below (q_Ri D rr A ((fun k : (Nat → Int32) × (Nat → Int32) => (wX4_read cI cJ cZ cS a_t a_party a_party_kinds a_party_costs a_party_terms a_party_known a_kept a_tape a_telephone a_sheets a_sheets0 a_sheets0_numbers a_sheets1 a_sheets1_numbers a_sheets2 a_sheets2_numbers a_sheets3 a_sheets3_numbers a_findings v_isKept v_party_size v_party_list v_party_told v_party_kinds v_party_terms k.1 v_sheets0_bits v_sheets0_size v_sheets0_numbers v_sheets1_bits v_sheets1_size v_sheets1_numbers v_sheets2_bits v_sheets2_size v_sheets2_numbers v_sheets3_bits v_sheets3_size v_sheets3_numbers k.2)) kk')) args s 0 0 A) (F0 m 42 ls [])) : ∀ (n : Nat), ∀ {v_party_known : Nat → Int32} {v_findings : Nat → Int32} {y1 : Int32} {y3 : Int32} {y4 : Int32} {y5 : Int32} {H : Heap} {locs : List Loc} {ls : Array Slot}, q_H D A s (wX4_read cI cJ cZ cS a_t a_party a_party_kinds a_party_costs a_party_terms a_party_known a_kept a_tape a_telephone a_sheets a_sheets0 a_sheets0_numbers a_sheets1 a_sheets1_numbers a_sheets2 a_sheets2_numbers a_sheets3 a_sheets3_numbers a_findings v_isKept v_party_size v_party_list v_party_told v_party_kinds v_party_terms v_party_known v_sheets0_bits v_sheets0_size v_sheets0_numbers v_sheets1_bits v_sheets1_size v_sheets1_numbers v_sheets2_bits v_sheets2_size v_sheets2_numbers v_sheets3_bits v_sheets3_size v_sheets3_numbers v_findings) H locs → lv_has ls 6 [(0, .ref a_t), (1, .int y1), (3, .int y3), (4, .int y4), (5, .int y5)] → ll6 (fX4_read_57 v_party_size v_party_kinds v_party_terms v_sheets0_bits v_sheets0_size v_sheets0_numbers v_sheets1_bits v_sheets1_size v_sheets1_numbers v_sheets2_bits v_sheets2_size v_sheets2_numbers v_sheets3_bits v_sheets3_size v_sheets3_numbers ag42) n v_party_known v_findings y1 y3 y4 y5 = some (rr, kk') → W p l e rX4_read s m args below meth c H locs 0 0 (MQ below (q_Ri D rr A ((fun k : (Nat → Int32) × (Nat → Int32) => (wX4_read cI cJ cZ cS a_t a_party a_party_kinds a_party_costs a_party_terms a_party_known a_kept a_tape a_telephone a_sheets a_sheets0 a_sheets0_numbers a_sheets1 a_sheets1_numbers a_sheets2 a_sheets2_numbers a_sheets3 a_sheets3_numbers a_findings v_isKept v_party_size v_party_list v_party_told v_party_kinds v_party_terms k.1 v_sheets0_bits v_sheets0_size v_sheets0_numbers v_sheets1_bits v_sheets1_size v_sheets1_numbers v_sheets2_bits v_sheets2_size v_sheets2_numbers v_sheets3_bits v_sheets3_size v_sheets3_numbers k.2)) kk')) args s 0 0 A) (F0 m 57 ls []) := by
  intro n
  induction n with
  | zero => intro v_party_known v_findings y1 y3 y4 y5 H locs ls h hl hf; exact (ll6_z hf).elim
  | succ n ih => intro v_party_known v_findings y1 y3 y4 y5 H locs ls h hl hf; exact LX4_read_57 fx hag42 ih h hl (ll6_s hf)
def fX4_read_42 (v_party_size : Int32) (v_party_kinds : Nat → Int32) (v_party_terms : Nat → Int64) (v_sheets0_bits : Int32) (v_sheets0_size : Int32) (v_sheets0_numbers : Nat → Int64) (v_sheets1_bits : Int32) (v_sheets1_size : Int32) (v_sheets1_numbers : Nat → Int64) (v_sheets2_bits : Int32) (v_sheets2_size : Int32) (v_sheets2_numbers : Nat → Int64) (v_sheets3_bits : Int32) (v_sheets3_size : Int32) (v_sheets3_numbers : Nat → Int64) (ag42 : (Nat → Int32) → (Nat → Int32) → Int32 → Int32 → Int32 → Option (Int32 × (Nat → Int32) × (Nat → Int32))) (v_party_known : Nat → Int32) (v_findings : Nat → Int32) (y1 : Int32) (y3 : Int32) (y4 : Int32) : Option (Int32 × (Nat → Int32) × (Nat → Int32)) :=
  (if v_party_size ≤ y4 then (
  some (y3, (v_party_known, v_findings)))
  else (
  ll6 (fX4_read_57 v_party_size v_party_kinds v_party_terms v_sheets0_bits v_sheets0_size v_sheets0_numbers v_sheets1_bits v_sheets1_size v_sheets1_numbers v_sheets2_bits v_sheets2_size v_sheets2_numbers v_sheets3_bits v_sheets3_size v_sheets3_numbers ag42) qF v_party_known v_findings y1 y3 y4 0))
set_option maxRecDepth 100000 in
set_option maxHeartbeats 4000000 in
theorem LX4_read_42 {p : Program} {l : Launch} {e : Env} {s : State} {m : MethodId} {args : Array Value} {below : List Frame} {meth : Method} {c : Code} {D : va_G} {cI cJ cZ cS : ClassId} {tb : Nat} {A : Nat → Prop} {a_t a_party a_party_kinds a_party_costs a_party_terms a_party_known a_kept a_tape a_telephone a_sheets a_sheets0 a_sheets0_numbers a_sheets1 a_sheets1_numbers a_sheets2 a_sheets2_numbers a_sheets3 a_sheets3_numbers a_findings : Nat} {v_isKept : Int32} {v_party_size : Int32} {v_party_list : Int32} {v_party_told : Int32} {v_party_kinds : Nat → Int32} {v_party_terms : Nat → Int64} {v_sheets0_bits : Int32} {v_sheets0_size : Int32} {v_sheets0_numbers : Nat → Int64} {v_sheets1_bits : Int32} {v_sheets1_size : Int32} {v_sheets1_numbers : Nat → Int64} {v_sheets2_bits : Int32} {v_sheets2_size : Int32} {v_sheets2_numbers : Nat → Int64} {v_sheets3_bits : Int32} {v_sheets3_size : Int32} {v_sheets3_numbers : Nat → Int64} {rr : Int32} {kk' : (Nat → Int32) × (Nat → Int32)} (fx : q_Fx p s m args meth c cX4_read 6 RX4 (some .int) D cI cJ cZ cS tb A) {ag42 : (Nat → Int32) → (Nat → Int32) → Int32 → Int32 → Int32 → Option (Int32 × (Nat → Int32) × (Nat → Int32))} (hag42 : ∀ {v_party_known : Nat → Int32} {v_findings : Nat → Int32} {y1 : Int32} {y3 : Int32} {y4 : Int32} {H : Heap} {locs : List Loc} {ls : Array Slot}, q_H D A s (wX4_read cI cJ cZ cS a_t a_party a_party_kinds a_party_costs a_party_terms a_party_known a_kept a_tape a_telephone a_sheets a_sheets0 a_sheets0_numbers a_sheets1 a_sheets1_numbers a_sheets2 a_sheets2_numbers a_sheets3 a_sheets3_numbers a_findings v_isKept v_party_size v_party_list v_party_told v_party_kinds v_party_terms v_party_known v_sheets0_bits v_sheets0_size v_sheets0_numbers v_sheets1_bits v_sheets1_size v_sheets1_numbers v_sheets2_bits v_sheets2_size v_sheets2_numbers v_sheets3_bits v_sheets3_size v_sheets3_numbers v_findings) H locs → lv_has ls 6 [(0, .ref a_t), (1, .int y1), (3, .int y3), (4, .int y4)] → ag42 v_party_known v_findings y1 y3 y4 = some (rr, kk') → W p l e rX4_read s m args below meth c H locs 0 0 (MQ below (q_Ri D rr A ((fun k : (Nat → Int32) × (Nat → Int32) => (wX4_read cI cJ cZ cS a_t a_party a_party_kinds a_party_costs a_party_terms a_party_known a_kept a_tape a_telephone a_sheets a_sheets0 a_sheets0_numbers a_sheets1 a_sheets1_numbers a_sheets2 a_sheets2_numbers a_sheets3 a_sheets3_numbers a_findings v_isKept v_party_size v_party_list v_party_told v_party_kinds v_party_terms k.1 v_sheets0_bits v_sheets0_size v_sheets0_numbers v_sheets1_bits v_sheets1_size v_sheets1_numbers v_sheets2_bits v_sheets2_size v_sheets2_numbers v_sheets3_bits v_sheets3_size v_sheets3_numbers k.2)) kk')) args s 0 0 A) (F0 m 42 ls [])) : ∀ {v_party_known : Nat → Int32} {v_findings : Nat → Int32} {y1 : Int32} {y3 : Int32} {y4 : Int32} {H : Heap} {locs : List Loc} {ls : Array Slot}, q_H D A s (wX4_read cI cJ cZ cS a_t a_party a_party_kinds a_party_costs a_party_terms a_party_known a_kept a_tape a_telephone a_sheets a_sheets0 a_sheets0_numbers a_sheets1 a_sheets1_numbers a_sheets2 a_sheets2_numbers a_sheets3 a_sheets3_numbers a_findings v_isKept v_party_size v_party_list v_party_told v_party_kinds v_party_terms v_party_known v_sheets0_bits v_sheets0_size v_sheets0_numbers v_sheets1_bits v_sheets1_size v_sheets1_numbers v_sheets2_bits v_sheets2_size v_sheets2_numbers v_sheets3_bits v_sheets3_size v_sheets3_numbers v_findings) H locs → lv_has ls 6 [(0, .ref a_t), (1, .int y1), (3, .int y3), (4, .int y4)] → fX4_read_42 v_party_size v_party_kinds v_party_terms v_sheets0_bits v_sheets0_size v_sheets0_numbers v_sheets1_bits v_sheets1_size v_sheets1_numbers v_sheets2_bits v_sheets2_size v_sheets2_numbers v_sheets3_bits v_sheets3_size v_sheets3_numbers ag42 v_party_known v_findings y1 y3 y4 = some (rr, kk') → W p l e rX4_read s m args below meth c H locs 0 0 (MQ below (q_Ri D rr A ((fun k : (Nat → Int32) × (Nat → Int32) => (wX4_read cI cJ cZ cS a_t a_party a_party_kinds a_party_costs a_party_terms a_party_known a_kept a_tape a_telephone a_sheets a_sheets0 a_sheets0_numbers a_sheets1 a_sheets1_numbers a_sheets2 a_sheets2_numbers a_sheets3 a_sheets3_numbers a_findings v_isKept v_party_size v_party_list v_party_told v_party_kinds v_party_terms k.1 v_sheets0_bits v_sheets0_size v_sheets0_numbers v_sheets1_bits v_sheets1_size v_sheets1_numbers v_sheets2_bits v_sheets2_size v_sheets2_numbers v_sheets3_bits v_sheets3_size v_sheets3_numbers k.2)) kk')) args s 0 0 A) (F0 m 42 ls []) := by
  intro v_party_known v_findings y1 y3 y4 H locs ls h hl hf
  have hx := fx.1
  have hb := fx.2.1
  unfold fX4_read_42 at hf
  refine lv_iload hx hb dX4_read_42 (lv_at hl 3 rfl) ?_
  refine lv_aload_n hx hb dX4_read_44 rfl (lv_at hl 0 rfl) ?_
  refine q_get (v := .ref a_party) fx inX4 h 0 rfl rfl 0 (by decide) k_174 rfl dX4_read_45 ?_
  refine q_getN (v := .int v_party_size) fx inX0 h 1 rfl rfl 0 (by decide) nf_0 rfl dX4_read_48 ?_
  refine lv_icmp_ge (tgt := 96) hx hb dX4_read_51 (by decide) (fun c20 => ?_) (fun c20 => ?_)
  · have hf := it_t c20 hf
    refine lv_iload_n hx hb dX4_read_96 rfl (lv_at hl 2 rfl) ?_
    exact q_reti (fun k : (Nat → Int32) × (Nat → Int32) => (wX4_read cI cJ cZ cS a_t a_party a_party_kinds a_party_costs a_party_terms a_party_known a_kept a_tape a_telephone a_sheets a_sheets0 a_sheets0_numbers a_sheets1 a_sheets1_numbers a_sheets2 a_sheets2_numbers a_sheets3 a_sheets3_numbers a_findings v_isKept v_party_size v_party_list v_party_told v_party_kinds v_party_terms k.1 v_sheets0_bits v_sheets0_size v_sheets0_numbers v_sheets1_bits v_sheets1_size v_sheets1_numbers v_sheets2_bits v_sheets2_size v_sheets2_numbers v_sheets3_bits v_sheets3_size v_sheets3_numbers k.2)) fx hf h dX4_read_97
  have hf := it_f c20 hf
  refine lv_iconst (v := 0) hx hb dX4_read_54 (by decide) ?_
  refine lv_istore (lv' := [(5, .int 0), (0, .ref a_t), (1, .int y1), (3, .int y3), (4, .int y4)]) hx hb dX4_read_55 hl (by decide) rfl (fun ls hl => ?_)
  exact EX4_read_57 fx hag42 qF h (lv_sub hl [1, 2, 3, 4, 0] rfl) hf
set_option maxRecDepth 100000 in
theorem EX4_read_42 {p : Program} {l : Launch} {e : Env} {s : State} {m : MethodId} {args : Array Value} {below : List Frame} {meth : Method} {c : Code} {D : va_G} {cI cJ cZ cS : ClassId} {tb : Nat} {A : Nat → Prop} {a_t a_party a_party_kinds a_party_costs a_party_terms a_party_known a_kept a_tape a_telephone a_sheets a_sheets0 a_sheets0_numbers a_sheets1 a_sheets1_numbers a_sheets2 a_sheets2_numbers a_sheets3 a_sheets3_numbers a_findings : Nat} {v_isKept : Int32} {v_party_size : Int32} {v_party_list : Int32} {v_party_told : Int32} {v_party_kinds : Nat → Int32} {v_party_terms : Nat → Int64} {v_sheets0_bits : Int32} {v_sheets0_size : Int32} {v_sheets0_numbers : Nat → Int64} {v_sheets1_bits : Int32} {v_sheets1_size : Int32} {v_sheets1_numbers : Nat → Int64} {v_sheets2_bits : Int32} {v_sheets2_size : Int32} {v_sheets2_numbers : Nat → Int64} {v_sheets3_bits : Int32} {v_sheets3_size : Int32} {v_sheets3_numbers : Nat → Int64} {rr : Int32} {kk' : (Nat → Int32) × (Nat → Int32)} (fx : q_Fx p s m args meth c cX4_read 6 RX4 (some .int) D cI cJ cZ cS tb A) : ∀ (n : Nat), ∀ {v_party_known : Nat → Int32} {v_findings : Nat → Int32} {y1 : Int32} {y3 : Int32} {y4 : Int32} {H : Heap} {locs : List Loc} {ls : Array Slot}, q_H D A s (wX4_read cI cJ cZ cS a_t a_party a_party_kinds a_party_costs a_party_terms a_party_known a_kept a_tape a_telephone a_sheets a_sheets0 a_sheets0_numbers a_sheets1 a_sheets1_numbers a_sheets2 a_sheets2_numbers a_sheets3 a_sheets3_numbers a_findings v_isKept v_party_size v_party_list v_party_told v_party_kinds v_party_terms v_party_known v_sheets0_bits v_sheets0_size v_sheets0_numbers v_sheets1_bits v_sheets1_size v_sheets1_numbers v_sheets2_bits v_sheets2_size v_sheets2_numbers v_sheets3_bits v_sheets3_size v_sheets3_numbers v_findings) H locs → lv_has ls 6 [(0, .ref a_t), (1, .int y1), (3, .int y3), (4, .int y4)] → ll5 (fX4_read_42 v_party_size v_party_kinds v_party_terms v_sheets0_bits v_sheets0_size v_sheets0_numbers v_sheets1_bits v_sheets1_size v_sheets1_numbers v_sheets2_bits v_sheets2_size v_sheets2_numbers v_sheets3_bits v_sheets3_size v_sheets3_numbers) n v_party_known v_findings y1 y3 y4 = some (rr, kk') → W p l e rX4_read s m args below meth c H locs 0 0 (MQ below (q_Ri D rr A ((fun k : (Nat → Int32) × (Nat → Int32) => (wX4_read cI cJ cZ cS a_t a_party a_party_kinds a_party_costs a_party_terms a_party_known a_kept a_tape a_telephone a_sheets a_sheets0 a_sheets0_numbers a_sheets1 a_sheets1_numbers a_sheets2 a_sheets2_numbers a_sheets3 a_sheets3_numbers a_findings v_isKept v_party_size v_party_list v_party_told v_party_kinds v_party_terms k.1 v_sheets0_bits v_sheets0_size v_sheets0_numbers v_sheets1_bits v_sheets1_size v_sheets1_numbers v_sheets2_bits v_sheets2_size v_sheets2_numbers v_sheets3_bits v_sheets3_size v_sheets3_numbers k.2)) kk')) args s 0 0 A) (F0 m 42 ls []) := by
  intro n
  induction n with
  | zero => intro v_party_known v_findings y1 y3 y4 H locs ls h hl hf; exact (ll5_z hf).elim
  | succ n ih => intro v_party_known v_findings y1 y3 y4 H locs ls h hl hf; exact LX4_read_42 fx ih h hl (ll5_s hf)
def fX4_read (v_party_size : Int32) (v_party_kinds : Nat → Int32) (v_party_terms : Nat → Int64) (v_party_known : Nat → Int32) (v_sheets0_bits : Int32) (v_sheets0_size : Int32) (v_sheets0_numbers : Nat → Int64) (v_sheets1_bits : Int32) (v_sheets1_size : Int32) (v_sheets1_numbers : Nat → Int64) (v_sheets2_bits : Int32) (v_sheets2_size : Int32) (v_sheets2_numbers : Nat → Int64) (v_sheets3_bits : Int32) (v_sheets3_size : Int32) (v_sheets3_numbers : Nat → Int64) (v_findings : Nat → Int32) (x1 : Int32) : Option (Int32 × (Nat → Int32) × (Nat → Int32)) :=
  bR (fX4_sheetLack v_sheets0_bits v_sheets1_bits v_sheets2_bits v_sheets3_bits x1) (fun r21 k21 =>
  (if r21 = 0 then (
  sel4 x1 (
  bR (fX0_everyone v_party_size) (fun r24 k24 =>
  bR (fX1_holdsOnly v_sheets0_bits v_sheets0_size v_sheets0_numbers r24) (fun r25 k25 =>
  (if r25 = 0 then (
  some (0, (v_party_known, v_findings)))
  else (
  ll5 (fX4_read_42 v_party_size v_party_kinds v_party_terms v_sheets0_bits v_sheets0_size v_sheets0_numbers v_sheets1_bits v_sheets1_size v_sheets1_numbers v_sheets2_bits v_sheets2_size v_sheets2_numbers v_sheets3_bits v_sheets3_size v_sheets3_numbers) qF v_party_known v_findings x1 0 0)))))
  (bR (fX0_everyone v_party_size) (fun r27 k27 =>
  bR (fX1_holdsOnly v_sheets1_bits v_sheets1_size v_sheets1_numbers r27) (fun r28 k28 =>
  (if r28 = 0 then (
  some (0, (v_party_known, v_findings)))
  else (
  ll5 (fX4_read_42 v_party_size v_party_kinds v_party_terms v_sheets0_bits v_sheets0_size v_sheets0_numbers v_sheets1_bits v_sheets1_size v_sheets1_numbers v_sheets2_bits v_sheets2_size v_sheets2_numbers v_sheets3_bits v_sheets3_size v_sheets3_numbers) qF v_party_known v_findings x1 0 0)))))
  (bR (fX0_everyone v_party_size) (fun r30 k30 =>
  bR (fX1_holdsOnly v_sheets2_bits v_sheets2_size v_sheets2_numbers r30) (fun r31 k31 =>
  (if r31 = 0 then (
  some (0, (v_party_known, v_findings)))
  else (
  ll5 (fX4_read_42 v_party_size v_party_kinds v_party_terms v_sheets0_bits v_sheets0_size v_sheets0_numbers v_sheets1_bits v_sheets1_size v_sheets1_numbers v_sheets2_bits v_sheets2_size v_sheets2_numbers v_sheets3_bits v_sheets3_size v_sheets3_numbers) qF v_party_known v_findings x1 0 0)))))
  (bR (fX0_everyone v_party_size) (fun r33 k33 =>
  bR (fX1_holdsOnly v_sheets3_bits v_sheets3_size v_sheets3_numbers r33) (fun r34 k34 =>
  (if r34 = 0 then (
  some (0, (v_party_known, v_findings)))
  else (
  ll5 (fX4_read_42 v_party_size v_party_kinds v_party_terms v_sheets0_bits v_sheets0_size v_sheets0_numbers v_sheets1_bits v_sheets1_size v_sheets1_numbers v_sheets2_bits v_sheets2_size v_sheets2_numbers v_sheets3_bits v_sheets3_size v_sheets3_numbers) qF v_party_known v_findings x1 0 0))))))
  else (
  bR (fX4_found v_findings r21) (fun r36 k36 =>
  some (r36, (v_party_known, k36))))))
set_option maxRecDepth 100000 in
set_option maxHeartbeats 4000000 in
theorem tX4_read (l : Launch) (D : va_G) (cI cJ cZ cS : ClassId) (tb : Nat) (a_t a_party a_party_kinds a_party_costs a_party_terms a_party_known a_kept a_tape a_telephone a_sheets a_sheets0 a_sheets0_numbers a_sheets1 a_sheets1_numbers a_sheets2 a_sheets2_numbers a_sheets3 a_sheets3_numbers a_findings : Nat) (sz : Nat) (v_isKept : Int32) (v_party_size : Int32) (v_party_list : Int32) (v_party_told : Int32) (v_party_kinds : Nat → Int32) (v_party_terms : Nat → Int64) (v_party_known : Nat → Int32) (v_sheets0_bits : Int32) (v_sheets0_size : Int32) (v_sheets0_numbers : Nat → Int64) (v_sheets1_bits : Int32) (v_sheets1_size : Int32) (v_sheets1_numbers : Nat → Int64) (v_sheets2_bits : Int32) (v_sheets2_size : Int32) (v_sheets2_numbers : Nat → Int64) (v_sheets3_bits : Int32) (v_sheets3_size : Int32) (v_sheets3_numbers : Nat → Int64) (v_findings : Nat → Int32) (x1 : Int32) (rr : Int32) (kk' : (Nat → Int32) × (Nat → Int32)) (hf : fX4_read v_party_size v_party_kinds v_party_terms v_party_known v_sheets0_bits v_sheets0_size v_sheets0_numbers v_sheets1_bits v_sheets1_size v_sheets1_numbers v_sheets2_bits v_sheets2_size v_sheets2_numbers v_sheets3_bits v_sheets3_size v_sheets3_numbers v_findings x1 = some (rr, kk')) : Met l yX4_read (Cond.code yX4_read cX4_read 6 (some .int) :: wA) rX4_read (q_Pre D cI cJ cZ cS tb [.ref a_t, .int x1] sz (wX4_read cI cJ cZ cS a_t a_party a_party_kinds a_party_costs a_party_terms a_party_known a_kept a_tape a_telephone a_sheets a_sheets0 a_sheets0_numbers a_sheets1 a_sheets1_numbers a_sheets2 a_sheets2_numbers a_sheets3 a_sheets3_numbers a_findings v_isKept v_party_size v_party_list v_party_told v_party_kinds v_party_terms v_party_known v_sheets0_bits v_sheets0_size v_sheets0_numbers v_sheets1_bits v_sheets1_size v_sheets1_numbers v_sheets2_bits v_sheets2_size v_sheets2_numbers v_sheets3_bits v_sheets3_size v_sheets3_numbers v_findings)) (q_Ri D rr (va_A (wX4_read cI cJ cZ cS a_t a_party a_party_kinds a_party_costs a_party_terms a_party_known a_kept a_tape a_telephone a_sheets a_sheets0 a_sheets0_numbers a_sheets1 a_sheets1_numbers a_sheets2 a_sheets2_numbers a_sheets3 a_sheets3_numbers a_findings v_isKept v_party_size v_party_list v_party_told v_party_kinds v_party_terms v_party_known v_sheets0_bits v_sheets0_size v_sheets0_numbers v_sheets1_bits v_sheets1_size v_sheets1_numbers v_sheets2_bits v_sheets2_size v_sheets2_numbers v_sheets3_bits v_sheets3_size v_sheets3_numbers v_findings) sz) ((fun k : (Nat → Int32) × (Nat → Int32) => (wX4_read cI cJ cZ cS a_t a_party a_party_kinds a_party_costs a_party_terms a_party_known a_kept a_tape a_telephone a_sheets a_sheets0 a_sheets0_numbers a_sheets1 a_sheets1_numbers a_sheets2 a_sheets2_numbers a_sheets3 a_sheets3_numbers a_findings v_isKept v_party_size v_party_list v_party_told v_party_kinds v_party_terms k.1 v_sheets0_bits v_sheets0_size v_sheets0_numbers v_sheets1_bits v_sheets1_size v_sheets1_numbers v_sheets2_bits v_sheets2_size v_sheets2_numbers v_sheets3_bits v_sheets3_size v_sheets3_numbers k.2)) kk')) 0 0 (va_A (wX4_read cI cJ cZ cS a_t a_party a_party_kinds a_party_costs a_party_terms a_party_known a_kept a_tape a_telephone a_sheets a_sheets0 a_sheets0_numbers a_sheets1 a_sheets1_numbers a_sheets2 a_sheets2_numbers a_sheets3 a_sheets3_numbers a_findings v_isKept v_party_size v_party_list v_party_told v_party_kinds v_party_terms v_party_known v_sheets0_bits v_sheets0_size v_sheets0_numbers v_sheets1_bits v_sheets1_size v_sheets1_numbers v_sheets2_bits v_sheets2_size v_sheets2_numbers v_sheets3_bits v_sheets3_size v_sheets3_numbers v_findings) sz) := by
  refine q_enter (Qf := fun A => (q_Ri D rr A ((fun k : (Nat → Int32) × (Nat → Int32) => (wX4_read cI cJ cZ cS a_t a_party a_party_kinds a_party_costs a_party_terms a_party_known a_kept a_tape a_telephone a_sheets a_sheets0 a_sheets0_numbers a_sheets1 a_sheets1_numbers a_sheets2 a_sheets2_numbers a_sheets3 a_sheets3_numbers a_findings v_isKept v_party_size v_party_list v_party_told v_party_kinds v_party_terms k.1 v_sheets0_bits v_sheets0_size v_sheets0_numbers v_sheets1_bits v_sheets1_size v_sheets1_numbers v_sheets2_bits v_sheets2_size v_sheets2_numbers v_sheets3_bits v_sheets3_size v_sheets3_numbers k.2)) kk'))) (by decide) rfl (Nat.le_of_ble_eq_true rfl) ?_
  intro p e s m below meth c A ls fx hname h hl
  have hx := fx.1
  have hb := fx.2.1
  have hl : lv_has ls 6 [(0, .ref a_t), (1, .int x1)] := hl
  generalize h9 : s.heap = H at h ⊢
  clear h9
  generalize h9 : ([] : List Loc) = locs at h ⊢
  clear h9
  unfold fX4_read at hf
  refine lv_aload_n hx hb dX4_read_0 rfl (lv_at hl 0 rfl) ?_
  refine lv_iload_n hx hb dX4_read_1 rfl (lv_at hl 1 rfl) ?_
  obtain ⟨r21, k21, hg, hf⟩ := bR_inv hf
  refine q_ci (rest := []) (ws' := (wX4_read cI cJ cZ cS a_t a_party a_party_kinds a_party_costs a_party_terms a_party_known a_kept a_tape a_telephone a_sheets a_sheets0 a_sheets0_numbers a_sheets1 a_sheets1_numbers a_sheets2 a_sheets2_numbers a_sheets3 a_sheets3_numbers a_findings v_isKept v_party_size v_party_list v_party_told v_party_kinds v_party_terms v_party_known v_sheets0_bits v_sheets0_size v_sheets0_numbers v_sheets1_bits v_sheets1_size v_sheets1_numbers v_sheets2_bits v_sheets2_size v_sheets2_numbers v_sheets3_bits v_sheets3_size v_sheets3_numbers v_findings)) (w1 := (wX4_sheetLack cI cJ cZ cS a_t a_party a_kept a_tape a_telephone a_sheets a_sheets0 a_sheets0_numbers a_sheets1 a_sheets1_numbers a_sheets2 a_sheets2_numbers a_sheets3 a_sheets3_numbers a_findings v_isKept v_sheets0_bits v_sheets0_size v_sheets1_bits v_sheets1_size v_sheets2_bits v_sheets2_size v_sheets3_bits v_sheets3_size)) fx h [0, 5, 6, 8, 10, 12] rfl rfl rfl rfl (q_runV fx h hl.1 [0, 5, 6, 8, 10, 12] rfl rfl (tX4_sheetLack l D cI cJ cZ cS tb a_t a_party a_kept a_tape a_telephone a_sheets a_sheets0 a_sheets0_numbers a_sheets1 a_sheets1_numbers a_sheets2 a_sheets2_numbers a_sheets3 a_sheets3_numbers a_findings H.size v_isKept v_sheets0_bits v_sheets0_size v_sheets1_bits v_sheets1_size v_sheets2_bits v_sheets2_size v_sheets3_bits v_sheets3_size x1 r21 k21 hg) mvX4_sheetLack k_549 ⟨rfl, rfl⟩ ⟨Nat.le_of_ble_eq_true rfl, Nat.le_of_ble_eq_true rfl⟩ rfl rfl rfl rfl (Nat.le_of_ble_eq_true rfl) dX4_read_2 ⟨Nat.le_of_ble_eq_true rfl, Nat.le_of_ble_eq_true rfl⟩) (fun H locs h => ?_)
  refine lv_istore_n (lv' := [(2, .int r21), (0, .ref a_t), (1, .int x1)]) hx hb dX4_read_5 rfl hl (by decide) rfl (fun ls hl => ?_)
  refine lv_iload_n hx hb dX4_read_6 rfl (lv_at hl 0 rfl) ?_
  refine lv_if_eq (tgt := 16) hx hb dX4_read_7 (by decide) (fun c22 => ?_) (fun c22 => ?_)
  · have hf := it_t c22 hf
    refine lv_aload_n hx hb dX4_read_16 rfl (lv_at hl 1 rfl) ?_
    refine q_get (v := .ref a_sheets) fx inX4 h 0 rfl rfl 5 (by decide) k_179 rfl dX4_read_17 ?_
    refine lv_iload_n hx hb dX4_read_20 rfl (lv_at hl 2 rfl) ?_
    rcases sel4_inv hf with ⟨c23, hf⟩ | ⟨c23, hf⟩ | ⟨c23, hf⟩ | ⟨c23, hf⟩
    · refine q_aald (v := a_sheets0) fx h 5 rfl c23 (vinK (by decide)) rfl dX4_read_21 ?_
      refine lv_aload_n hx hb dX4_read_22 rfl (lv_at hl 1 rfl) ?_
      refine q_get (v := .ref a_party) fx inX4 h 0 rfl rfl 0 (by decide) k_174 rfl dX4_read_23 ?_
      obtain ⟨r24, k24, hg, hf⟩ := bR_inv hf
      refine q_ci (rest := [.ref a_sheets0]) (ws' := (wX4_read cI cJ cZ cS a_t a_party a_party_kinds a_party_costs a_party_terms a_party_known a_kept a_tape a_telephone a_sheets a_sheets0 a_sheets0_numbers a_sheets1 a_sheets1_numbers a_sheets2 a_sheets2_numbers a_sheets3 a_sheets3_numbers a_findings v_isKept v_party_size v_party_list v_party_told v_party_kinds v_party_terms v_party_known v_sheets0_bits v_sheets0_size v_sheets0_numbers v_sheets1_bits v_sheets1_size v_sheets1_numbers v_sheets2_bits v_sheets2_size v_sheets2_numbers v_sheets3_bits v_sheets3_size v_sheets3_numbers v_findings)) (w1 := (wX0_everyone cI cJ cZ cS a_party a_party_kinds a_party_costs a_party_terms a_party_known v_party_size v_party_list v_party_told)) fx h [1] rfl rfl rfl rfl (q_runV fx h hl.1 [1] rfl rfl (tX0_everyone l D cI cJ cZ cS tb a_party a_party_kinds a_party_costs a_party_terms a_party_known H.size v_party_size v_party_list v_party_told r24 k24 hg) mvX0_everyone k_456 ⟨rfl, rfl⟩ ⟨Nat.le_of_ble_eq_true rfl, Nat.le_of_ble_eq_true rfl⟩ rfl rfl rfl rfl (Nat.le_of_ble_eq_true rfl) dX4_read_26 ⟨Nat.le_of_ble_eq_true rfl, Nat.le_of_ble_eq_true rfl⟩) (fun H locs h => ?_)
      obtain ⟨r25, k25, hg, hf⟩ := bR_inv hf
      refine q_ci (rest := []) (ws' := (wX4_read cI cJ cZ cS a_t a_party a_party_kinds a_party_costs a_party_terms a_party_known a_kept a_tape a_telephone a_sheets a_sheets0 a_sheets0_numbers a_sheets1 a_sheets1_numbers a_sheets2 a_sheets2_numbers a_sheets3 a_sheets3_numbers a_findings v_isKept v_party_size v_party_list v_party_told v_party_kinds v_party_terms v_party_known v_sheets0_bits v_sheets0_size v_sheets0_numbers v_sheets1_bits v_sheets1_size v_sheets1_numbers v_sheets2_bits v_sheets2_size v_sheets2_numbers v_sheets3_bits v_sheets3_size v_sheets3_numbers v_findings)) (w1 := (wX1_holdsOnly cI cJ cZ cS a_sheets0 a_sheets0_numbers v_sheets0_bits v_sheets0_size v_sheets0_numbers)) fx h [6, 7] rfl rfl rfl rfl (q_runV fx h hl.1 [6, 7] rfl rfl (tX1_holdsOnly l D cI cJ cZ cS tb a_sheets0 a_sheets0_numbers H.size v_sheets0_bits v_sheets0_size v_sheets0_numbers r24 r25 k25 hg) mvX1_holdsOnly k_585 ⟨rfl, rfl⟩ ⟨Nat.le_of_ble_eq_true rfl, Nat.le_of_ble_eq_true rfl⟩ rfl rfl rfl rfl (Nat.le_of_ble_eq_true rfl) dX4_read_29 ⟨Nat.le_of_ble_eq_true rfl, Nat.le_of_ble_eq_true rfl⟩) (fun H locs h => ?_)
      refine lv_if_ne (tgt := 37) hx hb dX4_read_32 (by decide) (fun c26 => ?_) (fun c26 => ?_)
      · have hf := it_f c26 hf
        refine lv_iconst (v := 0) hx hb dX4_read_37 (by decide) ?_
        refine lv_istore_n (lv' := [(3, .int 0), (2, .int r21), (0, .ref a_t), (1, .int x1)]) hx hb dX4_read_38 rfl hl (by decide) rfl (fun ls hl => ?_)
        refine lv_iconst (v := 0) hx hb dX4_read_39 (by decide) ?_
        refine lv_istore (lv' := [(4, .int 0), (3, .int 0), (2, .int r21), (0, .ref a_t), (1, .int x1)]) hx hb dX4_read_40 hl (by decide) rfl (fun ls hl => ?_)
        exact EX4_read_42 fx qF h (lv_sub hl [3, 4, 1, 0] rfl) hf
      have hf := it_t c26 hf
      refine lv_iconst (v := 0) hx hb dX4_read_35 (by decide) ?_
      exact q_reti (fun k : (Nat → Int32) × (Nat → Int32) => (wX4_read cI cJ cZ cS a_t a_party a_party_kinds a_party_costs a_party_terms a_party_known a_kept a_tape a_telephone a_sheets a_sheets0 a_sheets0_numbers a_sheets1 a_sheets1_numbers a_sheets2 a_sheets2_numbers a_sheets3 a_sheets3_numbers a_findings v_isKept v_party_size v_party_list v_party_told v_party_kinds v_party_terms k.1 v_sheets0_bits v_sheets0_size v_sheets0_numbers v_sheets1_bits v_sheets1_size v_sheets1_numbers v_sheets2_bits v_sheets2_size v_sheets2_numbers v_sheets3_bits v_sheets3_size v_sheets3_numbers k.2)) fx hf h dX4_read_36
    · refine q_aald (v := a_sheets1) fx h 5 rfl c23 (vinK (by decide)) rfl dX4_read_21 ?_
      refine lv_aload_n hx hb dX4_read_22 rfl (lv_at hl 1 rfl) ?_
      refine q_get (v := .ref a_party) fx inX4 h 0 rfl rfl 0 (by decide) k_174 rfl dX4_read_23 ?_
      obtain ⟨r27, k27, hg, hf⟩ := bR_inv hf
      refine q_ci (rest := [.ref a_sheets1]) (ws' := (wX4_read cI cJ cZ cS a_t a_party a_party_kinds a_party_costs a_party_terms a_party_known a_kept a_tape a_telephone a_sheets a_sheets0 a_sheets0_numbers a_sheets1 a_sheets1_numbers a_sheets2 a_sheets2_numbers a_sheets3 a_sheets3_numbers a_findings v_isKept v_party_size v_party_list v_party_told v_party_kinds v_party_terms v_party_known v_sheets0_bits v_sheets0_size v_sheets0_numbers v_sheets1_bits v_sheets1_size v_sheets1_numbers v_sheets2_bits v_sheets2_size v_sheets2_numbers v_sheets3_bits v_sheets3_size v_sheets3_numbers v_findings)) (w1 := (wX0_everyone cI cJ cZ cS a_party a_party_kinds a_party_costs a_party_terms a_party_known v_party_size v_party_list v_party_told)) fx h [1] rfl rfl rfl rfl (q_runV fx h hl.1 [1] rfl rfl (tX0_everyone l D cI cJ cZ cS tb a_party a_party_kinds a_party_costs a_party_terms a_party_known H.size v_party_size v_party_list v_party_told r27 k27 hg) mvX0_everyone k_456 ⟨rfl, rfl⟩ ⟨Nat.le_of_ble_eq_true rfl, Nat.le_of_ble_eq_true rfl⟩ rfl rfl rfl rfl (Nat.le_of_ble_eq_true rfl) dX4_read_26 ⟨Nat.le_of_ble_eq_true rfl, Nat.le_of_ble_eq_true rfl⟩) (fun H locs h => ?_)
      obtain ⟨r28, k28, hg, hf⟩ := bR_inv hf
      refine q_ci (rest := []) (ws' := (wX4_read cI cJ cZ cS a_t a_party a_party_kinds a_party_costs a_party_terms a_party_known a_kept a_tape a_telephone a_sheets a_sheets0 a_sheets0_numbers a_sheets1 a_sheets1_numbers a_sheets2 a_sheets2_numbers a_sheets3 a_sheets3_numbers a_findings v_isKept v_party_size v_party_list v_party_told v_party_kinds v_party_terms v_party_known v_sheets0_bits v_sheets0_size v_sheets0_numbers v_sheets1_bits v_sheets1_size v_sheets1_numbers v_sheets2_bits v_sheets2_size v_sheets2_numbers v_sheets3_bits v_sheets3_size v_sheets3_numbers v_findings)) (w1 := (wX1_holdsOnly cI cJ cZ cS a_sheets1 a_sheets1_numbers v_sheets1_bits v_sheets1_size v_sheets1_numbers)) fx h [8, 9] rfl rfl rfl rfl (q_runV fx h hl.1 [8, 9] rfl rfl (tX1_holdsOnly l D cI cJ cZ cS tb a_sheets1 a_sheets1_numbers H.size v_sheets1_bits v_sheets1_size v_sheets1_numbers r27 r28 k28 hg) mvX1_holdsOnly k_585 ⟨rfl, rfl⟩ ⟨Nat.le_of_ble_eq_true rfl, Nat.le_of_ble_eq_true rfl⟩ rfl rfl rfl rfl (Nat.le_of_ble_eq_true rfl) dX4_read_29 ⟨Nat.le_of_ble_eq_true rfl, Nat.le_of_ble_eq_true rfl⟩) (fun H locs h => ?_)
      refine lv_if_ne (tgt := 37) hx hb dX4_read_32 (by decide) (fun c29 => ?_) (fun c29 => ?_)
      · have hf := it_f c29 hf
        refine lv_iconst (v := 0) hx hb dX4_read_37 (by decide) ?_
        refine lv_istore_n (lv' := [(3, .int 0), (2, .int r21), (0, .ref a_t), (1, .int x1)]) hx hb dX4_read_38 rfl hl (by decide) rfl (fun ls hl => ?_)
        refine lv_iconst (v := 0) hx hb dX4_read_39 (by decide) ?_
        refine lv_istore (lv' := [(4, .int 0), (3, .int 0), (2, .int r21), (0, .ref a_t), (1, .int x1)]) hx hb dX4_read_40 hl (by decide) rfl (fun ls hl => ?_)
        exact EX4_read_42 fx qF h (lv_sub hl [3, 4, 1, 0] rfl) hf
      have hf := it_t c29 hf
      refine lv_iconst (v := 0) hx hb dX4_read_35 (by decide) ?_
      exact q_reti (fun k : (Nat → Int32) × (Nat → Int32) => (wX4_read cI cJ cZ cS a_t a_party a_party_kinds a_party_costs a_party_terms a_party_known a_kept a_tape a_telephone a_sheets a_sheets0 a_sheets0_numbers a_sheets1 a_sheets1_numbers a_sheets2 a_sheets2_numbers a_sheets3 a_sheets3_numbers a_findings v_isKept v_party_size v_party_list v_party_told v_party_kinds v_party_terms k.1 v_sheets0_bits v_sheets0_size v_sheets0_numbers v_sheets1_bits v_sheets1_size v_sheets1_numbers v_sheets2_bits v_sheets2_size v_sheets2_numbers v_sheets3_bits v_sheets3_size v_sheets3_numbers k.2)) fx hf h dX4_read_36
    · refine q_aald (v := a_sheets2) fx h 5 rfl c23 (vinK (by decide)) rfl dX4_read_21 ?_
      refine lv_aload_n hx hb dX4_read_22 rfl (lv_at hl 1 rfl) ?_
      refine q_get (v := .ref a_party) fx inX4 h 0 rfl rfl 0 (by decide) k_174 rfl dX4_read_23 ?_
      obtain ⟨r30, k30, hg, hf⟩ := bR_inv hf
      refine q_ci (rest := [.ref a_sheets2]) (ws' := (wX4_read cI cJ cZ cS a_t a_party a_party_kinds a_party_costs a_party_terms a_party_known a_kept a_tape a_telephone a_sheets a_sheets0 a_sheets0_numbers a_sheets1 a_sheets1_numbers a_sheets2 a_sheets2_numbers a_sheets3 a_sheets3_numbers a_findings v_isKept v_party_size v_party_list v_party_told v_party_kinds v_party_terms v_party_known v_sheets0_bits v_sheets0_size v_sheets0_numbers v_sheets1_bits v_sheets1_size v_sheets1_numbers v_sheets2_bits v_sheets2_size v_sheets2_numbers v_sheets3_bits v_sheets3_size v_sheets3_numbers v_findings)) (w1 := (wX0_everyone cI cJ cZ cS a_party a_party_kinds a_party_costs a_party_terms a_party_known v_party_size v_party_list v_party_told)) fx h [1] rfl rfl rfl rfl (q_runV fx h hl.1 [1] rfl rfl (tX0_everyone l D cI cJ cZ cS tb a_party a_party_kinds a_party_costs a_party_terms a_party_known H.size v_party_size v_party_list v_party_told r30 k30 hg) mvX0_everyone k_456 ⟨rfl, rfl⟩ ⟨Nat.le_of_ble_eq_true rfl, Nat.le_of_ble_eq_true rfl⟩ rfl rfl rfl rfl (Nat.le_of_ble_eq_true rfl) dX4_read_26 ⟨Nat.le_of_ble_eq_true rfl, Nat.le_of_ble_eq_true rfl⟩) (fun H locs h => ?_)
      obtain ⟨r31, k31, hg, hf⟩ := bR_inv hf
      refine q_ci (rest := []) (ws' := (wX4_read cI cJ cZ cS a_t a_party a_party_kinds a_party_costs a_party_terms a_party_known a_kept a_tape a_telephone a_sheets a_sheets0 a_sheets0_numbers a_sheets1 a_sheets1_numbers a_sheets2 a_sheets2_numbers a_sheets3 a_sheets3_numbers a_findings v_isKept v_party_size v_party_list v_party_told v_party_kinds v_party_terms v_party_known v_sheets0_bits v_sheets0_size v_sheets0_numbers v_sheets1_bits v_sheets1_size v_sheets1_numbers v_sheets2_bits v_sheets2_size v_sheets2_numbers v_sheets3_bits v_sheets3_size v_sheets3_numbers v_findings)) (w1 := (wX1_holdsOnly cI cJ cZ cS a_sheets2 a_sheets2_numbers v_sheets2_bits v_sheets2_size v_sheets2_numbers)) fx h [10, 11] rfl rfl rfl rfl (q_runV fx h hl.1 [10, 11] rfl rfl (tX1_holdsOnly l D cI cJ cZ cS tb a_sheets2 a_sheets2_numbers H.size v_sheets2_bits v_sheets2_size v_sheets2_numbers r30 r31 k31 hg) mvX1_holdsOnly k_585 ⟨rfl, rfl⟩ ⟨Nat.le_of_ble_eq_true rfl, Nat.le_of_ble_eq_true rfl⟩ rfl rfl rfl rfl (Nat.le_of_ble_eq_true rfl) dX4_read_29 ⟨Nat.le_of_ble_eq_true rfl, Nat.le_of_ble_eq_true rfl⟩) (fun H locs h => ?_)
      refine lv_if_ne (tgt := 37) hx hb dX4_read_32 (by decide) (fun c32 => ?_) (fun c32 => ?_)
      · have hf := it_f c32 hf
        refine lv_iconst (v := 0) hx hb dX4_read_37 (by decide) ?_
        refine lv_istore_n (lv' := [(3, .int 0), (2, .int r21), (0, .ref a_t), (1, .int x1)]) hx hb dX4_read_38 rfl hl (by decide) rfl (fun ls hl => ?_)
        refine lv_iconst (v := 0) hx hb dX4_read_39 (by decide) ?_
        refine lv_istore (lv' := [(4, .int 0), (3, .int 0), (2, .int r21), (0, .ref a_t), (1, .int x1)]) hx hb dX4_read_40 hl (by decide) rfl (fun ls hl => ?_)
        exact EX4_read_42 fx qF h (lv_sub hl [3, 4, 1, 0] rfl) hf
      have hf := it_t c32 hf
      refine lv_iconst (v := 0) hx hb dX4_read_35 (by decide) ?_
      exact q_reti (fun k : (Nat → Int32) × (Nat → Int32) => (wX4_read cI cJ cZ cS a_t a_party a_party_kinds a_party_costs a_party_terms a_party_known a_kept a_tape a_telephone a_sheets a_sheets0 a_sheets0_numbers a_sheets1 a_sheets1_numbers a_sheets2 a_sheets2_numbers a_sheets3 a_sheets3_numbers a_findings v_isKept v_party_size v_party_list v_party_told v_party_kinds v_party_terms k.1 v_sheets0_bits v_sheets0_size v_sheets0_numbers v_sheets1_bits v_sheets1_size v_sheets1_numbers v_sheets2_bits v_sheets2_size v_sheets2_numbers v_sheets3_bits v_sheets3_size v_sheets3_numbers k.2)) fx hf h dX4_read_36
    · refine q_aald (v := a_sheets3) fx h 5 rfl c23 (vinK (by decide)) rfl dX4_read_21 ?_
      refine lv_aload_n hx hb dX4_read_22 rfl (lv_at hl 1 rfl) ?_
      refine q_get (v := .ref a_party) fx inX4 h 0 rfl rfl 0 (by decide) k_174 rfl dX4_read_23 ?_
      obtain ⟨r33, k33, hg, hf⟩ := bR_inv hf
      refine q_ci (rest := [.ref a_sheets3]) (ws' := (wX4_read cI cJ cZ cS a_t a_party a_party_kinds a_party_costs a_party_terms a_party_known a_kept a_tape a_telephone a_sheets a_sheets0 a_sheets0_numbers a_sheets1 a_sheets1_numbers a_sheets2 a_sheets2_numbers a_sheets3 a_sheets3_numbers a_findings v_isKept v_party_size v_party_list v_party_told v_party_kinds v_party_terms v_party_known v_sheets0_bits v_sheets0_size v_sheets0_numbers v_sheets1_bits v_sheets1_size v_sheets1_numbers v_sheets2_bits v_sheets2_size v_sheets2_numbers v_sheets3_bits v_sheets3_size v_sheets3_numbers v_findings)) (w1 := (wX0_everyone cI cJ cZ cS a_party a_party_kinds a_party_costs a_party_terms a_party_known v_party_size v_party_list v_party_told)) fx h [1] rfl rfl rfl rfl (q_runV fx h hl.1 [1] rfl rfl (tX0_everyone l D cI cJ cZ cS tb a_party a_party_kinds a_party_costs a_party_terms a_party_known H.size v_party_size v_party_list v_party_told r33 k33 hg) mvX0_everyone k_456 ⟨rfl, rfl⟩ ⟨Nat.le_of_ble_eq_true rfl, Nat.le_of_ble_eq_true rfl⟩ rfl rfl rfl rfl (Nat.le_of_ble_eq_true rfl) dX4_read_26 ⟨Nat.le_of_ble_eq_true rfl, Nat.le_of_ble_eq_true rfl⟩) (fun H locs h => ?_)
      obtain ⟨r34, k34, hg, hf⟩ := bR_inv hf
      refine q_ci (rest := []) (ws' := (wX4_read cI cJ cZ cS a_t a_party a_party_kinds a_party_costs a_party_terms a_party_known a_kept a_tape a_telephone a_sheets a_sheets0 a_sheets0_numbers a_sheets1 a_sheets1_numbers a_sheets2 a_sheets2_numbers a_sheets3 a_sheets3_numbers a_findings v_isKept v_party_size v_party_list v_party_told v_party_kinds v_party_terms v_party_known v_sheets0_bits v_sheets0_size v_sheets0_numbers v_sheets1_bits v_sheets1_size v_sheets1_numbers v_sheets2_bits v_sheets2_size v_sheets2_numbers v_sheets3_bits v_sheets3_size v_sheets3_numbers v_findings)) (w1 := (wX1_holdsOnly cI cJ cZ cS a_sheets3 a_sheets3_numbers v_sheets3_bits v_sheets3_size v_sheets3_numbers)) fx h [12, 13] rfl rfl rfl rfl (q_runV fx h hl.1 [12, 13] rfl rfl (tX1_holdsOnly l D cI cJ cZ cS tb a_sheets3 a_sheets3_numbers H.size v_sheets3_bits v_sheets3_size v_sheets3_numbers r33 r34 k34 hg) mvX1_holdsOnly k_585 ⟨rfl, rfl⟩ ⟨Nat.le_of_ble_eq_true rfl, Nat.le_of_ble_eq_true rfl⟩ rfl rfl rfl rfl (Nat.le_of_ble_eq_true rfl) dX4_read_29 ⟨Nat.le_of_ble_eq_true rfl, Nat.le_of_ble_eq_true rfl⟩) (fun H locs h => ?_)
      refine lv_if_ne (tgt := 37) hx hb dX4_read_32 (by decide) (fun c35 => ?_) (fun c35 => ?_)
      · have hf := it_f c35 hf
        refine lv_iconst (v := 0) hx hb dX4_read_37 (by decide) ?_
        refine lv_istore_n (lv' := [(3, .int 0), (2, .int r21), (0, .ref a_t), (1, .int x1)]) hx hb dX4_read_38 rfl hl (by decide) rfl (fun ls hl => ?_)
        refine lv_iconst (v := 0) hx hb dX4_read_39 (by decide) ?_
        refine lv_istore (lv' := [(4, .int 0), (3, .int 0), (2, .int r21), (0, .ref a_t), (1, .int x1)]) hx hb dX4_read_40 hl (by decide) rfl (fun ls hl => ?_)
        exact EX4_read_42 fx qF h (lv_sub hl [3, 4, 1, 0] rfl) hf
      have hf := it_t c35 hf
      refine lv_iconst (v := 0) hx hb dX4_read_35 (by decide) ?_
      exact q_reti (fun k : (Nat → Int32) × (Nat → Int32) => (wX4_read cI cJ cZ cS a_t a_party a_party_kinds a_party_costs a_party_terms a_party_known a_kept a_tape a_telephone a_sheets a_sheets0 a_sheets0_numbers a_sheets1 a_sheets1_numbers a_sheets2 a_sheets2_numbers a_sheets3 a_sheets3_numbers a_findings v_isKept v_party_size v_party_list v_party_told v_party_kinds v_party_terms k.1 v_sheets0_bits v_sheets0_size v_sheets0_numbers v_sheets1_bits v_sheets1_size v_sheets1_numbers v_sheets2_bits v_sheets2_size v_sheets2_numbers v_sheets3_bits v_sheets3_size v_sheets3_numbers k.2)) fx hf h dX4_read_36
  have hf := it_f c22 hf
  refine lv_aload_n hx hb dX4_read_10 rfl (lv_at hl 1 rfl) ?_
  refine lv_iload_n hx hb dX4_read_11 rfl (lv_at hl 0 rfl) ?_
  obtain ⟨r36, k36, hg, hf⟩ := bR_inv hf
  refine q_ci (rest := []) (ws' := (wX4_read cI cJ cZ cS a_t a_party a_party_kinds a_party_costs a_party_terms a_party_known a_kept a_tape a_telephone a_sheets a_sheets0 a_sheets0_numbers a_sheets1 a_sheets1_numbers a_sheets2 a_sheets2_numbers a_sheets3 a_sheets3_numbers a_findings v_isKept v_party_size v_party_list v_party_told v_party_kinds v_party_terms v_party_known v_sheets0_bits v_sheets0_size v_sheets0_numbers v_sheets1_bits v_sheets1_size v_sheets1_numbers v_sheets2_bits v_sheets2_size v_sheets2_numbers v_sheets3_bits v_sheets3_size v_sheets3_numbers k36)) (w1 := (wX4_found cI cJ cZ cS a_t a_party a_kept a_tape a_telephone a_sheets a_findings v_isKept k36)) fx h [0, 14] rfl rfl rfl rfl (q_runV fx h hl.1 [0, 14] rfl rfl (tX4_found l D cI cJ cZ cS tb a_t a_party a_kept a_tape a_telephone a_sheets a_findings H.size v_isKept v_findings r21 r36 k36 hg) mvX4_found k_207 ⟨rfl, rfl⟩ ⟨Nat.le_of_ble_eq_true rfl, Nat.le_of_ble_eq_true rfl⟩ rfl rfl rfl rfl (Nat.le_of_ble_eq_true rfl) dX4_read_12 ⟨Nat.le_of_ble_eq_true rfl, Nat.le_of_ble_eq_true rfl⟩) (fun H locs h => ?_)
  exact q_reti (fun k : (Nat → Int32) × (Nat → Int32) => (wX4_read cI cJ cZ cS a_t a_party a_party_kinds a_party_costs a_party_terms a_party_known a_kept a_tape a_telephone a_sheets a_sheets0 a_sheets0_numbers a_sheets1 a_sheets1_numbers a_sheets2 a_sheets2_numbers a_sheets3 a_sheets3_numbers a_findings v_isKept v_party_size v_party_list v_party_told v_party_kinds v_party_terms k.1 v_sheets0_bits v_sheets0_size v_sheets0_numbers v_sheets1_bits v_sheets1_size v_sheets1_numbers v_sheets2_bits v_sheets2_size v_sheets2_numbers v_sheets3_bits v_sheets3_size v_sheets3_numbers k.2)) fx hf h dX4_read_15
/-! X0_take -/
abbrev wX0_take (cI cJ cZ cS : ClassId) (a_t a_kinds a_costs a_terms a_known a_p1 a_p1_kinds a_p1_costs a_p1_terms a_p1_known : Nat) (v_size : Int32) (v_list : Int32) (v_told : Int32) (v_kinds : Nat → Int32) (v_costs : Nat → Int32) (v_terms : Nat → Int64) (v_known : Nat → Int32) (v_p1_size : Int32) (v_p1_list : Int32) (v_p1_told : Int32) (v_p1_kinds : Nat → Int32) (v_p1_costs : Nat → Int32) (v_p1_terms : Nat → Int64) : va_W := [(a_t, .inr (0, [.int v_size, .int v_list, .int v_told, .ref a_kinds, .ref a_costs, .ref a_terms, .ref a_known])), (a_kinds, .inl (cI, 8, .inl v_kinds)), (a_costs, .inl (cI, 8, .inl v_costs)), (a_terms, .inl (cJ, 32, .inr (.inl v_terms))), (a_known, .inl (cI, 256, .inl v_known)), (a_p1, .inr (0, [.int v_p1_size, .int v_p1_list, .int v_p1_told, .ref a_p1_kinds, .ref a_p1_costs, .ref a_p1_terms, .ref a_p1_known])), (a_p1_kinds, .inl (cI, 8, .inl v_p1_kinds)), (a_p1_costs, .inl (cI, 8, .inl v_p1_costs)), (a_p1_terms, .inl (cJ, 32, .inr (.inl v_p1_terms)))]
abbrev rX0_take : Room := { frames := 1, cells := 0, slots := 0, locals := 30 }
def fX0_take (v_size : Int32) (v_list : Int32) (v_told : Int32) (v_kinds : Nat → Int32) (v_costs : Nat → Int32) (v_terms : Nat → Int64) (v_known : Nat → Int32) (v_p1_size : Int32) (v_p1_list : Int32) (v_p1_told : Int32) (v_p1_kinds : Nat → Int32) (v_p1_costs : Nat → Int32) (v_p1_terms : Nat → Int64) : Option (Int32 × Int32 × Int32 × (Nat → Int32) × (Nat → Int32) × (Nat → Int64) × (Nat → Int32)) :=
  gCp 0 0 8 8 8 (
  gCp 0 0 8 8 8 (
  gCp 0 0 32 32 32 (
  bV (fJ7_fill_53178 256 v_known (-1)) (fun k4 =>
  some (v_p1_size, v_p1_list, v_p1_told, (va_cpy v_p1_kinds v_kinds (0 : Int32).toNatClampNeg (0 : Int32).toNatClampNeg (8 : Int32).toNatClampNeg), (va_cpy v_p1_costs v_costs (0 : Int32).toNatClampNeg (0 : Int32).toNatClampNeg (8 : Int32).toNatClampNeg), (va_cpy v_p1_terms v_terms (0 : Int32).toNatClampNeg (0 : Int32).toNatClampNeg (32 : Int32).toNatClampNeg), k4)))))
set_option maxRecDepth 100000 in
set_option maxHeartbeats 4000000 in
theorem tX0_take (l : Launch) (D : va_G) (cI cJ cZ cS : ClassId) (tb : Nat) (a_t a_kinds a_costs a_terms a_known a_p1 a_p1_kinds a_p1_costs a_p1_terms a_p1_known : Nat) (sz : Nat) (v_size : Int32) (v_list : Int32) (v_told : Int32) (v_kinds : Nat → Int32) (v_costs : Nat → Int32) (v_terms : Nat → Int64) (v_known : Nat → Int32) (v_p1_size : Int32) (v_p1_list : Int32) (v_p1_told : Int32) (v_p1_kinds : Nat → Int32) (v_p1_costs : Nat → Int32) (v_p1_terms : Nat → Int64) (kk' : Int32 × Int32 × Int32 × (Nat → Int32) × (Nat → Int32) × (Nat → Int64) × (Nat → Int32)) (hf : fX0_take v_size v_list v_told v_kinds v_costs v_terms v_known v_p1_size v_p1_list v_p1_told v_p1_kinds v_p1_costs v_p1_terms = some kk') : Met l yX0_take (Cond.code yX0_take cX0_take 2 none :: wA) rX0_take (q_Pre D cI cJ cZ cS tb [.ref a_t, .ref a_p1] sz (wX0_take cI cJ cZ cS a_t a_kinds a_costs a_terms a_known a_p1 a_p1_kinds a_p1_costs a_p1_terms a_p1_known v_size v_list v_told v_kinds v_costs v_terms v_known v_p1_size v_p1_list v_p1_told v_p1_kinds v_p1_costs v_p1_terms)) (q_Rv D (va_A (wX0_take cI cJ cZ cS a_t a_kinds a_costs a_terms a_known a_p1 a_p1_kinds a_p1_costs a_p1_terms a_p1_known v_size v_list v_told v_kinds v_costs v_terms v_known v_p1_size v_p1_list v_p1_told v_p1_kinds v_p1_costs v_p1_terms) sz) ((fun k : Int32 × Int32 × Int32 × (Nat → Int32) × (Nat → Int32) × (Nat → Int64) × (Nat → Int32) => (wX0_take cI cJ cZ cS a_t a_kinds a_costs a_terms a_known a_p1 a_p1_kinds a_p1_costs a_p1_terms a_p1_known k.1 k.2.1 k.2.2.1 k.2.2.2.1 k.2.2.2.2.1 k.2.2.2.2.2.1 k.2.2.2.2.2.2 v_p1_size v_p1_list v_p1_told v_p1_kinds v_p1_costs v_p1_terms)) kk')) 0 0 (va_A (wX0_take cI cJ cZ cS a_t a_kinds a_costs a_terms a_known a_p1 a_p1_kinds a_p1_costs a_p1_terms a_p1_known v_size v_list v_told v_kinds v_costs v_terms v_known v_p1_size v_p1_list v_p1_told v_p1_kinds v_p1_costs v_p1_terms) sz) := by
  refine q_enter (Qf := fun A => (q_Rv D A ((fun k : Int32 × Int32 × Int32 × (Nat → Int32) × (Nat → Int32) × (Nat → Int64) × (Nat → Int32) => (wX0_take cI cJ cZ cS a_t a_kinds a_costs a_terms a_known a_p1 a_p1_kinds a_p1_costs a_p1_terms a_p1_known k.1 k.2.1 k.2.2.1 k.2.2.2.1 k.2.2.2.2.1 k.2.2.2.2.2.1 k.2.2.2.2.2.2 v_p1_size v_p1_list v_p1_told v_p1_kinds v_p1_costs v_p1_terms)) kk'))) (by decide) rfl (Nat.le_of_ble_eq_true rfl) ?_
  intro p e s m below meth c A ls fx hname h hl
  have hx := fx.1
  have hb := fx.2.1
  have hl : lv_has ls 2 [(0, .ref a_t), (1, .ref a_p1)] := hl
  generalize h9 : s.heap = H at h ⊢
  clear h9
  generalize h9 : ([] : List Loc) = locs at h ⊢
  clear h9
  unfold fX0_take at hf
  refine lv_aload_n hx hb dX0_take_0 rfl (lv_at hl 0 rfl) ?_
  refine lv_aload_n hx hb dX0_take_1 rfl (lv_at hl 1 rfl) ?_
  refine q_get (v := .int v_p1_size) fx inX0 h 5 rfl rfl 0 (by decide) k_80 rfl dX0_take_2 ?_
  refine q_put (v := .int v_p1_size) (ws' := (wX0_take cI cJ cZ cS a_t a_kinds a_costs a_terms a_known a_p1 a_p1_kinds a_p1_costs a_p1_terms a_p1_known v_p1_size v_list v_told v_kinds v_costs v_terms v_known v_p1_size v_p1_list v_p1_told v_p1_kinds v_p1_costs v_p1_terms)) fx inX0 tyX0 tyX0_ok nmX0 h 0 rfl rfl 0 (by decide) k_80 rfl rfl rfl (Nat.le_of_ble_eq_true rfl) rfl dX0_take_5 (fun H locs h => ?_)
  refine lv_aload_n hx hb dX0_take_8 rfl (lv_at hl 0 rfl) ?_
  refine lv_aload_n hx hb dX0_take_9 rfl (lv_at hl 1 rfl) ?_
  refine q_get (v := .int v_p1_list) fx inX0 h 5 rfl rfl 1 (by decide) k_85 rfl dX0_take_10 ?_
  refine q_put (v := .int v_p1_list) (ws' := (wX0_take cI cJ cZ cS a_t a_kinds a_costs a_terms a_known a_p1 a_p1_kinds a_p1_costs a_p1_terms a_p1_known v_p1_size v_p1_list v_told v_kinds v_costs v_terms v_known v_p1_size v_p1_list v_p1_told v_p1_kinds v_p1_costs v_p1_terms)) fx inX0 tyX0 tyX0_ok nmX0 h 0 rfl rfl 1 (by decide) k_85 rfl rfl rfl (Nat.le_of_ble_eq_true rfl) rfl dX0_take_13 (fun H locs h => ?_)
  refine lv_aload_n hx hb dX0_take_16 rfl (lv_at hl 0 rfl) ?_
  refine lv_aload_n hx hb dX0_take_17 rfl (lv_at hl 1 rfl) ?_
  refine q_get (v := .int v_p1_told) fx inX0 h 5 rfl rfl 2 (by decide) k_86 rfl dX0_take_18 ?_
  refine q_put (v := .int v_p1_told) (ws' := (wX0_take cI cJ cZ cS a_t a_kinds a_costs a_terms a_known a_p1 a_p1_kinds a_p1_costs a_p1_terms a_p1_known v_p1_size v_p1_list v_p1_told v_kinds v_costs v_terms v_known v_p1_size v_p1_list v_p1_told v_p1_kinds v_p1_costs v_p1_terms)) fx inX0 tyX0 tyX0_ok nmX0 h 0 rfl rfl 2 (by decide) k_86 rfl rfl rfl (Nat.le_of_ble_eq_true rfl) rfl dX0_take_21 (fun H locs h => ?_)
  refine lv_aload_n hx hb dX0_take_24 rfl (lv_at hl 1 rfl) ?_
  refine q_get (v := .ref a_p1_kinds) fx inX0 h 5 rfl rfl 3 (by decide) k_88 rfl dX0_take_25 ?_
  refine lv_iconst (v := 0) hx hb dX0_take_28 (by decide) ?_
  refine lv_aload_n hx hb dX0_take_29 rfl (lv_at hl 0 rfl) ?_
  refine q_get (v := .ref a_kinds) fx inX0 h 0 rfl rfl 3 (by decide) k_88 rfl dX0_take_30 ?_
  refine lv_iconst (v := 0) hx hb dX0_take_33 (by decide) ?_
  refine lv_bipush (v := 8) hx hb dX0_take_34 (by decide) ?_
  obtain ⟨i1, hf⟩ := gCp_inv hf
  refine q_copyi (ws' := (wX0_take cI cJ cZ cS a_t a_kinds a_costs a_terms a_known a_p1 a_p1_kinds a_p1_costs a_p1_terms a_p1_known v_p1_size v_p1_list v_p1_told (va_cpy v_p1_kinds v_kinds (0 : Int32).toNatClampNeg (0 : Int32).toNatClampNeg (8 : Int32).toNatClampNeg) v_costs v_terms v_known v_p1_size v_p1_list v_p1_told v_p1_kinds v_p1_costs v_p1_terms)) fx h hl.1 6 1 rfl rfl k_613 k_572 k_571 k_58 i1 (Nat.le_of_ble_eq_true rfl) (Nat.le_of_ble_eq_true rfl) rfl dX0_take_36 (fun H locs h => ?_)
  refine lv_aload_n hx hb dX0_take_39 rfl (lv_at hl 1 rfl) ?_
  refine q_get (v := .ref a_p1_costs) fx inX0 h 5 rfl rfl 4 (by decide) k_90 rfl dX0_take_40 ?_
  refine lv_iconst (v := 0) hx hb dX0_take_43 (by decide) ?_
  refine lv_aload_n hx hb dX0_take_44 rfl (lv_at hl 0 rfl) ?_
  refine q_get (v := .ref a_costs) fx inX0 h 0 rfl rfl 4 (by decide) k_90 rfl dX0_take_45 ?_
  refine lv_iconst (v := 0) hx hb dX0_take_48 (by decide) ?_
  refine lv_bipush (v := 8) hx hb dX0_take_49 (by decide) ?_
  obtain ⟨i2, hf⟩ := gCp_inv hf
  refine q_copyi (ws' := (wX0_take cI cJ cZ cS a_t a_kinds a_costs a_terms a_known a_p1 a_p1_kinds a_p1_costs a_p1_terms a_p1_known v_p1_size v_p1_list v_p1_told (va_cpy v_p1_kinds v_kinds (0 : Int32).toNatClampNeg (0 : Int32).toNatClampNeg (8 : Int32).toNatClampNeg) (va_cpy v_p1_costs v_costs (0 : Int32).toNatClampNeg (0 : Int32).toNatClampNeg (8 : Int32).toNatClampNeg) v_terms v_known v_p1_size v_p1_list v_p1_told v_p1_kinds v_p1_costs v_p1_terms)) fx h hl.1 7 2 rfl rfl k_613 k_572 k_571 k_58 i2 (Nat.le_of_ble_eq_true rfl) (Nat.le_of_ble_eq_true rfl) rfl dX0_take_51 (fun H locs h => ?_)
  refine lv_aload_n hx hb dX0_take_54 rfl (lv_at hl 1 rfl) ?_
  refine q_get (v := .ref a_p1_terms) fx inX0 h 5 rfl rfl 5 (by decide) k_92 rfl dX0_take_55 ?_
  refine lv_iconst (v := 0) hx hb dX0_take_58 (by decide) ?_
  refine lv_aload_n hx hb dX0_take_59 rfl (lv_at hl 0 rfl) ?_
  refine q_get (v := .ref a_terms) fx inX0 h 0 rfl rfl 5 (by decide) k_92 rfl dX0_take_60 ?_
  refine lv_iconst (v := 0) hx hb dX0_take_63 (by decide) ?_
  refine lv_bipush (v := 32) hx hb dX0_take_64 (by decide) ?_
  obtain ⟨i3, hf⟩ := gCp_inv hf
  refine q_copyl (ws' := (wX0_take cI cJ cZ cS a_t a_kinds a_costs a_terms a_known a_p1 a_p1_kinds a_p1_costs a_p1_terms a_p1_known v_p1_size v_p1_list v_p1_told (va_cpy v_p1_kinds v_kinds (0 : Int32).toNatClampNeg (0 : Int32).toNatClampNeg (8 : Int32).toNatClampNeg) (va_cpy v_p1_costs v_costs (0 : Int32).toNatClampNeg (0 : Int32).toNatClampNeg (8 : Int32).toNatClampNeg) (va_cpy v_p1_terms v_terms (0 : Int32).toNatClampNeg (0 : Int32).toNatClampNeg (32 : Int32).toNatClampNeg) v_known v_p1_size v_p1_list v_p1_told v_p1_kinds v_p1_costs v_p1_terms)) fx h hl.1 8 3 rfl rfl k_613 k_572 k_571 k_58 i3 (Nat.le_of_ble_eq_true rfl) (Nat.le_of_ble_eq_true rfl) rfl dX0_take_66 (fun H locs h => ?_)
  refine lv_aload_n hx hb dX0_take_69 rfl (lv_at hl 0 rfl) ?_
  refine q_get (v := .ref a_known) fx inX0 h 0 rfl rfl 6 (by decide) k_93 rfl dX0_take_70 ?_
  refine lv_iconst (v := -1) hx hb dX0_take_73 (by decide) ?_
  obtain ⟨k4, hg, hf⟩ := bV_inv hf
  refine q_cv (rest := []) (ws' := (wX0_take cI cJ cZ cS a_t a_kinds a_costs a_terms a_known a_p1 a_p1_kinds a_p1_costs a_p1_terms a_p1_known v_p1_size v_p1_list v_p1_told (va_cpy v_p1_kinds v_kinds (0 : Int32).toNatClampNeg (0 : Int32).toNatClampNeg (8 : Int32).toNatClampNeg) (va_cpy v_p1_costs v_costs (0 : Int32).toNatClampNeg (0 : Int32).toNatClampNeg (8 : Int32).toNatClampNeg) (va_cpy v_p1_terms v_terms (0 : Int32).toNatClampNeg (0 : Int32).toNatClampNeg (32 : Int32).toNatClampNeg) k4 v_p1_size v_p1_list v_p1_told v_p1_kinds v_p1_costs v_p1_terms)) (w1 := (wJ7_fill_53178 cI cJ cZ cS 256 a_known k4)) fx h [4] rfl rfl rfl rfl (q_runS fx h hl.1 [4] rfl rfl (tJ7_fill_53178 l D cI cJ cZ cS tb 256 a_known H.size v_known (-1) k4 hg) msJ7_fill_53178 k_77 ⟨rfl, rfl⟩ ⟨Nat.le_of_ble_eq_true rfl, Nat.le_of_ble_eq_true rfl⟩ rfl rfl (Nat.le_of_ble_eq_true rfl) dX0_take_74 ⟨Nat.le_of_ble_eq_true rfl, Nat.le_of_ble_eq_true rfl⟩) (fun H locs h => ?_)
  exact q_retv (fun k : Int32 × Int32 × Int32 × (Nat → Int32) × (Nat → Int32) × (Nat → Int64) × (Nat → Int32) => (wX0_take cI cJ cZ cS a_t a_kinds a_costs a_terms a_known a_p1 a_p1_kinds a_p1_costs a_p1_terms a_p1_known k.1 k.2.1 k.2.2.1 k.2.2.2.1 k.2.2.2.2.1 k.2.2.2.2.2.1 k.2.2.2.2.2.2 v_p1_size v_p1_list v_p1_told v_p1_kinds v_p1_costs v_p1_terms)) fx hf h dX0_take_77
/-! X4_image -/
abbrev wX4_image (cI cJ cZ cS : ClassId) (a_t a_party a_party_kinds a_party_costs a_party_terms a_party_known a_kept a_kept_kinds a_kept_costs a_kept_terms a_kept_known a_tape a_telephone a_sheets a_findings : Nat) (v_isKept : Int32) (v_party_size : Int32) (v_party_list : Int32) (v_party_told : Int32) (v_party_kinds : Nat → Int32) (v_party_costs : Nat → Int32) (v_party_terms : Nat → Int64) (v_kept_size : Int32) (v_kept_list : Int32) (v_kept_told : Int32) (v_kept_kinds : Nat → Int32) (v_kept_costs : Nat → Int32) (v_kept_terms : Nat → Int64) (v_kept_known : Nat → Int32) : va_W := [(a_t, .inr (4, [.ref a_party, .ref a_kept, .int v_isKept, .ref a_tape, .ref a_telephone, .ref a_sheets, .ref a_findings])), (a_party, .inr (0, [.int v_party_size, .int v_party_list, .int v_party_told, .ref a_party_kinds, .ref a_party_costs, .ref a_party_terms, .ref a_party_known])), (a_party_kinds, .inl (cI, 8, .inl v_party_kinds)), (a_party_costs, .inl (cI, 8, .inl v_party_costs)), (a_party_terms, .inl (cJ, 32, .inr (.inl v_party_terms))), (a_kept, .inr (0, [.int v_kept_size, .int v_kept_list, .int v_kept_told, .ref a_kept_kinds, .ref a_kept_costs, .ref a_kept_terms, .ref a_kept_known])), (a_kept_kinds, .inl (cI, 8, .inl v_kept_kinds)), (a_kept_costs, .inl (cI, 8, .inl v_kept_costs)), (a_kept_terms, .inl (cJ, 32, .inr (.inl v_kept_terms))), (a_kept_known, .inl (cI, 256, .inl v_kept_known))]
abbrev rX4_image : Room := { frames := 2, cells := 0, slots := 0, locals := 51 }
def fX4_image (v_isKept : Int32) (v_party_size : Int32) (v_party_list : Int32) (v_party_told : Int32) (v_party_kinds : Nat → Int32) (v_party_costs : Nat → Int32) (v_party_terms : Nat → Int64) (v_kept_size : Int32) (v_kept_list : Int32) (v_kept_told : Int32) (v_kept_kinds : Nat → Int32) (v_kept_costs : Nat → Int32) (v_kept_terms : Nat → Int64) (v_kept_known : Nat → Int32) : Option (Int32 × Int32 × Int32 × Int32 × Int32 × (Nat → Int32) × (Nat → Int32) × (Nat → Int64) × (Nat → Int32)) :=
  bV (fX0_take v_kept_size v_kept_list v_kept_told v_kept_kinds v_kept_costs v_kept_terms v_kept_known v_party_size v_party_list v_party_told v_party_kinds v_party_costs v_party_terms) (fun k1 =>
  some (1, (1, k1.1, k1.2.1, k1.2.2.1, k1.2.2.2.1, k1.2.2.2.2.1, k1.2.2.2.2.2.1, k1.2.2.2.2.2.2)))
set_option maxRecDepth 100000 in
set_option maxHeartbeats 4000000 in
theorem tX4_image (l : Launch) (D : va_G) (cI cJ cZ cS : ClassId) (tb : Nat) (a_t a_party a_party_kinds a_party_costs a_party_terms a_party_known a_kept a_kept_kinds a_kept_costs a_kept_terms a_kept_known a_tape a_telephone a_sheets a_findings : Nat) (sz : Nat) (v_isKept : Int32) (v_party_size : Int32) (v_party_list : Int32) (v_party_told : Int32) (v_party_kinds : Nat → Int32) (v_party_costs : Nat → Int32) (v_party_terms : Nat → Int64) (v_kept_size : Int32) (v_kept_list : Int32) (v_kept_told : Int32) (v_kept_kinds : Nat → Int32) (v_kept_costs : Nat → Int32) (v_kept_terms : Nat → Int64) (v_kept_known : Nat → Int32) (rr : Int32) (kk' : Int32 × Int32 × Int32 × Int32 × (Nat → Int32) × (Nat → Int32) × (Nat → Int64) × (Nat → Int32)) (hf : fX4_image v_isKept v_party_size v_party_list v_party_told v_party_kinds v_party_costs v_party_terms v_kept_size v_kept_list v_kept_told v_kept_kinds v_kept_costs v_kept_terms v_kept_known = some (rr, kk')) : Met l yX4_image (Cond.code yX4_image cX4_image 1 (some .int) :: wA) rX4_image (q_Pre D cI cJ cZ cS tb [.ref a_t] sz (wX4_image cI cJ cZ cS a_t a_party a_party_kinds a_party_costs a_party_terms a_party_known a_kept a_kept_kinds a_kept_costs a_kept_terms a_kept_known a_tape a_telephone a_sheets a_findings v_isKept v_party_size v_party_list v_party_told v_party_kinds v_party_costs v_party_terms v_kept_size v_kept_list v_kept_told v_kept_kinds v_kept_costs v_kept_terms v_kept_known)) (q_Ri D rr (va_A (wX4_image cI cJ cZ cS a_t a_party a_party_kinds a_party_costs a_party_terms a_party_known a_kept a_kept_kinds a_kept_costs a_kept_terms a_kept_known a_tape a_telephone a_sheets a_findings v_isKept v_party_size v_party_list v_party_told v_party_kinds v_party_costs v_party_terms v_kept_size v_kept_list v_kept_told v_kept_kinds v_kept_costs v_kept_terms v_kept_known) sz) ((fun k : Int32 × Int32 × Int32 × Int32 × (Nat → Int32) × (Nat → Int32) × (Nat → Int64) × (Nat → Int32) => (wX4_image cI cJ cZ cS a_t a_party a_party_kinds a_party_costs a_party_terms a_party_known a_kept a_kept_kinds a_kept_costs a_kept_terms a_kept_known a_tape a_telephone a_sheets a_findings k.1 v_party_size v_party_list v_party_told v_party_kinds v_party_costs v_party_terms k.2.1 k.2.2.1 k.2.2.2.1 k.2.2.2.2.1 k.2.2.2.2.2.1 k.2.2.2.2.2.2.1 k.2.2.2.2.2.2.2)) kk')) 0 0 (va_A (wX4_image cI cJ cZ cS a_t a_party a_party_kinds a_party_costs a_party_terms a_party_known a_kept a_kept_kinds a_kept_costs a_kept_terms a_kept_known a_tape a_telephone a_sheets a_findings v_isKept v_party_size v_party_list v_party_told v_party_kinds v_party_costs v_party_terms v_kept_size v_kept_list v_kept_told v_kept_kinds v_kept_costs v_kept_terms v_kept_known) sz) := by
  refine q_enter (Qf := fun A => (q_Ri D rr A ((fun k : Int32 × Int32 × Int32 × Int32 × (Nat → Int32) × (Nat → Int32) × (Nat → Int64) × (Nat → Int32) => (wX4_image cI cJ cZ cS a_t a_party a_party_kinds a_party_costs a_party_terms a_party_known a_kept a_kept_kinds a_kept_costs a_kept_terms a_kept_known a_tape a_telephone a_sheets a_findings k.1 v_party_size v_party_list v_party_told v_party_kinds v_party_costs v_party_terms k.2.1 k.2.2.1 k.2.2.2.1 k.2.2.2.2.1 k.2.2.2.2.2.1 k.2.2.2.2.2.2.1 k.2.2.2.2.2.2.2)) kk'))) (by decide) rfl (Nat.le_of_ble_eq_true rfl) ?_
  intro p e s m below meth c A ls fx hname h hl
  have hx := fx.1
  have hb := fx.2.1
  have hl : lv_has ls 1 [(0, .ref a_t)] := hl
  generalize h9 : s.heap = H at h ⊢
  clear h9
  generalize h9 : ([] : List Loc) = locs at h ⊢
  clear h9
  unfold fX4_image at hf
  refine lv_aload_n hx hb dX4_image_0 rfl (lv_at hl 0 rfl) ?_
  refine q_get (v := .ref a_kept) fx inX4 h 0 rfl rfl 1 (by decide) k_175 rfl dX4_image_1 ?_
  refine lv_aload_n hx hb dX4_image_4 rfl (lv_at hl 0 rfl) ?_
  refine q_get (v := .ref a_party) fx inX4 h 0 rfl rfl 0 (by decide) k_174 rfl dX4_image_5 ?_
  obtain ⟨k1, hg, hf⟩ := bV_inv hf
  refine q_cv (rest := []) (ws' := (wX4_image cI cJ cZ cS a_t a_party a_party_kinds a_party_costs a_party_terms a_party_known a_kept a_kept_kinds a_kept_costs a_kept_terms a_kept_known a_tape a_telephone a_sheets a_findings v_isKept v_party_size v_party_list v_party_told v_party_kinds v_party_costs v_party_terms k1.1 k1.2.1 k1.2.2.1 k1.2.2.2.1 k1.2.2.2.2.1 k1.2.2.2.2.2.1 k1.2.2.2.2.2.2)) (w1 := (wX0_take cI cJ cZ cS a_kept a_kept_kinds a_kept_costs a_kept_terms a_kept_known a_party a_party_kinds a_party_costs a_party_terms a_party_known k1.1 k1.2.1 k1.2.2.1 k1.2.2.2.1 k1.2.2.2.2.1 k1.2.2.2.2.2.1 k1.2.2.2.2.2.2 v_party_size v_party_list v_party_told v_party_kinds v_party_costs v_party_terms)) fx h [5, 6, 7, 8, 9, 1, 2, 3, 4] rfl rfl rfl rfl (q_runV fx h hl.1 [5, 6, 7, 8, 9, 1, 2, 3, 4] rfl rfl (tX0_take l D cI cJ cZ cS tb a_kept a_kept_kinds a_kept_costs a_kept_terms a_kept_known a_party a_party_kinds a_party_costs a_party_terms a_party_known H.size v_kept_size v_kept_list v_kept_told v_kept_kinds v_kept_costs v_kept_terms v_kept_known v_party_size v_party_list v_party_told v_party_kinds v_party_costs v_party_terms k1 hg) mvX0_take k_609 ⟨rfl, rfl⟩ ⟨Nat.le_of_ble_eq_true rfl, Nat.le_of_ble_eq_true rfl⟩ rfl rfl rfl rfl (Nat.le_of_ble_eq_true rfl) dX4_image_8 ⟨Nat.le_of_ble_eq_true rfl, Nat.le_of_ble_eq_true rfl⟩) (fun H locs h => ?_)
  refine lv_aload_n hx hb dX4_image_11 rfl (lv_at hl 0 rfl) ?_
  refine lv_iconst (v := 1) hx hb dX4_image_12 (by decide) ?_
  refine q_put (v := .int 1) (ws' := (wX4_image cI cJ cZ cS a_t a_party a_party_kinds a_party_costs a_party_terms a_party_known a_kept a_kept_kinds a_kept_costs a_kept_terms a_kept_known a_tape a_telephone a_sheets a_findings 1 v_party_size v_party_list v_party_told v_party_kinds v_party_costs v_party_terms k1.1 k1.2.1 k1.2.2.1 k1.2.2.2.1 k1.2.2.2.2.1 k1.2.2.2.2.2.1 k1.2.2.2.2.2.2)) fx inX4 tyX4 tyX4_ok nmX4 h 0 rfl rfl 2 (by decide) k_176 rfl rfl rfl (Nat.le_of_ble_eq_true rfl) rfl dX4_image_13 (fun H locs h => ?_)
  refine lv_iconst (v := 1) hx hb dX4_image_16 (by decide) ?_
  exact q_reti (fun k : Int32 × Int32 × Int32 × Int32 × (Nat → Int32) × (Nat → Int32) × (Nat → Int64) × (Nat → Int32) => (wX4_image cI cJ cZ cS a_t a_party a_party_kinds a_party_costs a_party_terms a_party_known a_kept a_kept_kinds a_kept_costs a_kept_terms a_kept_known a_tape a_telephone a_sheets a_findings k.1 v_party_size v_party_list v_party_told v_party_kinds v_party_costs v_party_terms k.2.1 k.2.2.1 k.2.2.2.1 k.2.2.2.2.1 k.2.2.2.2.2.1 k.2.2.2.2.2.2.1 k.2.2.2.2.2.2.2)) fx hf h dX4_image_17
/-! X4_undo -/
abbrev wX4_undo (cI cJ cZ cS : ClassId) (a_t a_party a_party_kinds a_party_costs a_party_terms a_party_known a_kept a_kept_kinds a_kept_costs a_kept_terms a_kept_known a_tape a_telephone a_sheets a_findings : Nat) (v_isKept : Int32) (v_party_size : Int32) (v_party_list : Int32) (v_party_told : Int32) (v_party_kinds : Nat → Int32) (v_party_costs : Nat → Int32) (v_party_terms : Nat → Int64) (v_party_known : Nat → Int32) (v_kept_size : Int32) (v_kept_list : Int32) (v_kept_told : Int32) (v_kept_kinds : Nat → Int32) (v_kept_costs : Nat → Int32) (v_kept_terms : Nat → Int64) (v_findings : Nat → Int32) : va_W := [(a_t, .inr (4, [.ref a_party, .ref a_kept, .int v_isKept, .ref a_tape, .ref a_telephone, .ref a_sheets, .ref a_findings])), (a_party, .inr (0, [.int v_party_size, .int v_party_list, .int v_party_told, .ref a_party_kinds, .ref a_party_costs, .ref a_party_terms, .ref a_party_known])), (a_party_kinds, .inl (cI, 8, .inl v_party_kinds)), (a_party_costs, .inl (cI, 8, .inl v_party_costs)), (a_party_terms, .inl (cJ, 32, .inr (.inl v_party_terms))), (a_party_known, .inl (cI, 256, .inl v_party_known)), (a_kept, .inr (0, [.int v_kept_size, .int v_kept_list, .int v_kept_told, .ref a_kept_kinds, .ref a_kept_costs, .ref a_kept_terms, .ref a_kept_known])), (a_kept_kinds, .inl (cI, 8, .inl v_kept_kinds)), (a_kept_costs, .inl (cI, 8, .inl v_kept_costs)), (a_kept_terms, .inl (cJ, 32, .inr (.inl v_kept_terms))), (a_findings, .inl (cI, 7, .inl v_findings))]
abbrev rX4_undo : Room := { frames := 2, cells := 0, slots := 0, locals := 51 }
def fX4_undo (v_isKept : Int32) (v_party_size : Int32) (v_party_list : Int32) (v_party_told : Int32) (v_party_kinds : Nat → Int32) (v_party_costs : Nat → Int32) (v_party_terms : Nat → Int64) (v_party_known : Nat → Int32) (v_kept_size : Int32) (v_kept_list : Int32) (v_kept_told : Int32) (v_kept_kinds : Nat → Int32) (v_kept_costs : Nat → Int32) (v_kept_terms : Nat → Int64) (v_findings : Nat → Int32) : Option (Int32 × Int32 × Int32 × Int32 × (Nat → Int32) × (Nat → Int32) × (Nat → Int64) × (Nat → Int32) × (Nat → Int32)) :=
  (if v_isKept = 0 then (
  bR (fX4_found v_findings (-1000000004)) (fun r3 k3 =>
  some (r3, (v_party_size, v_party_list, v_party_told, v_party_kinds, v_party_costs, v_party_terms, v_party_known, k3))))
  else (
  bV (fX0_take v_party_size v_party_list v_party_told v_party_kinds v_party_costs v_party_terms v_party_known v_kept_size v_kept_list v_kept_told v_kept_kinds v_kept_costs v_kept_terms) (fun k2 =>
  some (k2.1, (k2.1, k2.2.1, k2.2.2.1, k2.2.2.2.1, k2.2.2.2.2.1, k2.2.2.2.2.2.1, k2.2.2.2.2.2.2, v_findings)))))
set_option maxRecDepth 100000 in
set_option maxHeartbeats 4000000 in
theorem tX4_undo (l : Launch) (D : va_G) (cI cJ cZ cS : ClassId) (tb : Nat) (a_t a_party a_party_kinds a_party_costs a_party_terms a_party_known a_kept a_kept_kinds a_kept_costs a_kept_terms a_kept_known a_tape a_telephone a_sheets a_findings : Nat) (sz : Nat) (v_isKept : Int32) (v_party_size : Int32) (v_party_list : Int32) (v_party_told : Int32) (v_party_kinds : Nat → Int32) (v_party_costs : Nat → Int32) (v_party_terms : Nat → Int64) (v_party_known : Nat → Int32) (v_kept_size : Int32) (v_kept_list : Int32) (v_kept_told : Int32) (v_kept_kinds : Nat → Int32) (v_kept_costs : Nat → Int32) (v_kept_terms : Nat → Int64) (v_findings : Nat → Int32) (rr : Int32) (kk' : Int32 × Int32 × Int32 × (Nat → Int32) × (Nat → Int32) × (Nat → Int64) × (Nat → Int32) × (Nat → Int32)) (hf : fX4_undo v_isKept v_party_size v_party_list v_party_told v_party_kinds v_party_costs v_party_terms v_party_known v_kept_size v_kept_list v_kept_told v_kept_kinds v_kept_costs v_kept_terms v_findings = some (rr, kk')) : Met l yX4_undo (Cond.code yX4_undo cX4_undo 1 (some .int) :: wA) rX4_undo (q_Pre D cI cJ cZ cS tb [.ref a_t] sz (wX4_undo cI cJ cZ cS a_t a_party a_party_kinds a_party_costs a_party_terms a_party_known a_kept a_kept_kinds a_kept_costs a_kept_terms a_kept_known a_tape a_telephone a_sheets a_findings v_isKept v_party_size v_party_list v_party_told v_party_kinds v_party_costs v_party_terms v_party_known v_kept_size v_kept_list v_kept_told v_kept_kinds v_kept_costs v_kept_terms v_findings)) (q_Ri D rr (va_A (wX4_undo cI cJ cZ cS a_t a_party a_party_kinds a_party_costs a_party_terms a_party_known a_kept a_kept_kinds a_kept_costs a_kept_terms a_kept_known a_tape a_telephone a_sheets a_findings v_isKept v_party_size v_party_list v_party_told v_party_kinds v_party_costs v_party_terms v_party_known v_kept_size v_kept_list v_kept_told v_kept_kinds v_kept_costs v_kept_terms v_findings) sz) ((fun k : Int32 × Int32 × Int32 × (Nat → Int32) × (Nat → Int32) × (Nat → Int64) × (Nat → Int32) × (Nat → Int32) => (wX4_undo cI cJ cZ cS a_t a_party a_party_kinds a_party_costs a_party_terms a_party_known a_kept a_kept_kinds a_kept_costs a_kept_terms a_kept_known a_tape a_telephone a_sheets a_findings v_isKept k.1 k.2.1 k.2.2.1 k.2.2.2.1 k.2.2.2.2.1 k.2.2.2.2.2.1 k.2.2.2.2.2.2.1 v_kept_size v_kept_list v_kept_told v_kept_kinds v_kept_costs v_kept_terms k.2.2.2.2.2.2.2)) kk')) 0 0 (va_A (wX4_undo cI cJ cZ cS a_t a_party a_party_kinds a_party_costs a_party_terms a_party_known a_kept a_kept_kinds a_kept_costs a_kept_terms a_kept_known a_tape a_telephone a_sheets a_findings v_isKept v_party_size v_party_list v_party_told v_party_kinds v_party_costs v_party_terms v_party_known v_kept_size v_kept_list v_kept_told v_kept_kinds v_kept_costs v_kept_terms v_findings) sz) := by
  refine q_enter (Qf := fun A => (q_Ri D rr A ((fun k : Int32 × Int32 × Int32 × (Nat → Int32) × (Nat → Int32) × (Nat → Int64) × (Nat → Int32) × (Nat → Int32) => (wX4_undo cI cJ cZ cS a_t a_party a_party_kinds a_party_costs a_party_terms a_party_known a_kept a_kept_kinds a_kept_costs a_kept_terms a_kept_known a_tape a_telephone a_sheets a_findings v_isKept k.1 k.2.1 k.2.2.1 k.2.2.2.1 k.2.2.2.2.1 k.2.2.2.2.2.1 k.2.2.2.2.2.2.1 v_kept_size v_kept_list v_kept_told v_kept_kinds v_kept_costs v_kept_terms k.2.2.2.2.2.2.2)) kk'))) (by decide) rfl (Nat.le_of_ble_eq_true rfl) ?_
  intro p e s m below meth c A ls fx hname h hl
  have hx := fx.1
  have hb := fx.2.1
  have hl : lv_has ls 1 [(0, .ref a_t)] := hl
  generalize h9 : s.heap = H at h ⊢
  clear h9
  generalize h9 : ([] : List Loc) = locs at h ⊢
  clear h9
  unfold fX4_undo at hf
  refine lv_aload_n hx hb dX4_undo_0 rfl (lv_at hl 0 rfl) ?_
  refine q_get (v := .int v_isKept) fx inX4 h 0 rfl rfl 2 (by decide) k_176 rfl dX4_undo_1 ?_
  refine lv_if_ne (tgt := 14) hx hb dX4_undo_4 (by decide) (fun c1 => ?_) (fun c1 => ?_)
  · have hf := it_f c1 hf
    refine lv_aload_n hx hb dX4_undo_14 rfl (lv_at hl 0 rfl) ?_
    refine q_get (v := .ref a_party) fx inX4 h 0 rfl rfl 0 (by decide) k_174 rfl dX4_undo_15 ?_
    refine lv_aload_n hx hb dX4_undo_18 rfl (lv_at hl 0 rfl) ?_
    refine q_get (v := .ref a_kept) fx inX4 h 0 rfl rfl 1 (by decide) k_175 rfl dX4_undo_19 ?_
    obtain ⟨k2, hg, hf⟩ := bV_inv hf
    refine q_cv (rest := []) (ws' := (wX4_undo cI cJ cZ cS a_t a_party a_party_kinds a_party_costs a_party_terms a_party_known a_kept a_kept_kinds a_kept_costs a_kept_terms a_kept_known a_tape a_telephone a_sheets a_findings v_isKept k2.1 k2.2.1 k2.2.2.1 k2.2.2.2.1 k2.2.2.2.2.1 k2.2.2.2.2.2.1 k2.2.2.2.2.2.2 v_kept_size v_kept_list v_kept_told v_kept_kinds v_kept_costs v_kept_terms v_findings)) (w1 := (wX0_take cI cJ cZ cS a_party a_party_kinds a_party_costs a_party_terms a_party_known a_kept a_kept_kinds a_kept_costs a_kept_terms a_kept_known k2.1 k2.2.1 k2.2.2.1 k2.2.2.2.1 k2.2.2.2.2.1 k2.2.2.2.2.2.1 k2.2.2.2.2.2.2 v_kept_size v_kept_list v_kept_told v_kept_kinds v_kept_costs v_kept_terms)) fx h [1, 2, 3, 4, 5, 6, 7, 8, 9] rfl rfl rfl rfl (q_runV fx h hl.1 [1, 2, 3, 4, 5, 6, 7, 8, 9] rfl rfl (tX0_take l D cI cJ cZ cS tb a_party a_party_kinds a_party_costs a_party_terms a_party_known a_kept a_kept_kinds a_kept_costs a_kept_terms a_kept_known H.size v_party_size v_party_list v_party_told v_party_kinds v_party_costs v_party_terms v_party_known v_kept_size v_kept_list v_kept_told v_kept_kinds v_kept_costs v_kept_terms k2 hg) mvX0_take k_609 ⟨rfl, rfl⟩ ⟨Nat.le_of_ble_eq_true rfl, Nat.le_of_ble_eq_true rfl⟩ rfl rfl rfl rfl (Nat.le_of_ble_eq_true rfl) dX4_undo_22 ⟨Nat.le_of_ble_eq_true rfl, Nat.le_of_ble_eq_true rfl⟩) (fun H locs h => ?_)
    refine lv_aload_n hx hb dX4_undo_25 rfl (lv_at hl 0 rfl) ?_
    refine q_get (v := .ref a_party) fx inX4 h 0 rfl rfl 0 (by decide) k_174 rfl dX4_undo_26 ?_
    refine q_getN (v := .int k2.1) fx inX0 h 1 rfl rfl 0 (by decide) nf_0 rfl dX4_undo_29 ?_
    exact q_reti (fun k : Int32 × Int32 × Int32 × (Nat → Int32) × (Nat → Int32) × (Nat → Int64) × (Nat → Int32) × (Nat → Int32) => (wX4_undo cI cJ cZ cS a_t a_party a_party_kinds a_party_costs a_party_terms a_party_known a_kept a_kept_kinds a_kept_costs a_kept_terms a_kept_known a_tape a_telephone a_sheets a_findings v_isKept k.1 k.2.1 k.2.2.1 k.2.2.2.1 k.2.2.2.2.1 k.2.2.2.2.2.1 k.2.2.2.2.2.2.1 v_kept_size v_kept_list v_kept_told v_kept_kinds v_kept_costs v_kept_terms k.2.2.2.2.2.2.2)) fx hf h dX4_undo_32
  have hf := it_t c1 hf
  refine lv_aload_n hx hb dX4_undo_7 rfl (lv_at hl 0 rfl) ?_
  refine q_ldc fx k_402 dX4_undo_8 ?_
  obtain ⟨r3, k3, hg, hf⟩ := bR_inv hf
  refine q_ci (rest := []) (ws' := (wX4_undo cI cJ cZ cS a_t a_party a_party_kinds a_party_costs a_party_terms a_party_known a_kept a_kept_kinds a_kept_costs a_kept_terms a_kept_known a_tape a_telephone a_sheets a_findings v_isKept v_party_size v_party_list v_party_told v_party_kinds v_party_costs v_party_terms v_party_known v_kept_size v_kept_list v_kept_told v_kept_kinds v_kept_costs v_kept_terms k3)) (w1 := (wX4_found cI cJ cZ cS a_t a_party a_kept a_tape a_telephone a_sheets a_findings v_isKept k3)) fx h [0, 10] rfl rfl rfl rfl (q_runV fx h hl.1 [0, 10] rfl rfl (tX4_found l D cI cJ cZ cS tb a_t a_party a_kept a_tape a_telephone a_sheets a_findings H.size v_isKept v_findings (-1000000004) r3 k3 hg) mvX4_found k_207 ⟨rfl, rfl⟩ ⟨Nat.le_of_ble_eq_true rfl, Nat.le_of_ble_eq_true rfl⟩ rfl rfl rfl rfl (Nat.le_of_ble_eq_true rfl) dX4_undo_10 ⟨Nat.le_of_ble_eq_true rfl, Nat.le_of_ble_eq_true rfl⟩) (fun H locs h => ?_)
  exact q_reti (fun k : Int32 × Int32 × Int32 × (Nat → Int32) × (Nat → Int32) × (Nat → Int64) × (Nat → Int32) × (Nat → Int32) => (wX4_undo cI cJ cZ cS a_t a_party a_party_kinds a_party_costs a_party_terms a_party_known a_kept a_kept_kinds a_kept_costs a_kept_terms a_kept_known a_tape a_telephone a_sheets a_findings v_isKept k.1 k.2.1 k.2.2.1 k.2.2.2.1 k.2.2.2.2.1 k.2.2.2.2.2.1 k.2.2.2.2.2.2.1 v_kept_size v_kept_list v_kept_told v_kept_kinds v_kept_costs v_kept_terms k.2.2.2.2.2.2.2)) fx hf h dX4_undo_13
/-! X4_tear -/
abbrev wX4_tear (cI cJ cZ cS : ClassId) (a_t a_party a_kept a_tape a_telephone a_sheets a_findings : Nat) (v_isKept : Int32) : va_W := [(a_t, .inr (4, [.ref a_party, .ref a_kept, .int v_isKept, .ref a_tape, .ref a_telephone, .ref a_sheets, .ref a_findings]))]
abbrev rX4_tear : Room := { frames := 1, cells := 0, slots := 0, locals := 20 }
def fX4_tear (v_isKept : Int32) : Option (Int32 × Int32) :=
  bR (fX4_oneIf v_isKept) (fun r1 k1 =>
  some (r1, 0))
set_option maxRecDepth 100000 in
set_option maxHeartbeats 4000000 in
theorem tX4_tear (l : Launch) (D : va_G) (cI cJ cZ cS : ClassId) (tb : Nat) (a_t a_party a_kept a_tape a_telephone a_sheets a_findings : Nat) (sz : Nat) (v_isKept : Int32) (rr : Int32) (kk' : Int32) (hf : fX4_tear v_isKept = some (rr, kk')) : Met l yX4_tear (Cond.code yX4_tear cX4_tear 2 (some .int) :: wA) rX4_tear (q_Pre D cI cJ cZ cS tb [.ref a_t] sz (wX4_tear cI cJ cZ cS a_t a_party a_kept a_tape a_telephone a_sheets a_findings v_isKept)) (q_Ri D rr (va_A (wX4_tear cI cJ cZ cS a_t a_party a_kept a_tape a_telephone a_sheets a_findings v_isKept) sz) ((fun k : Int32 => (wX4_tear cI cJ cZ cS a_t a_party a_kept a_tape a_telephone a_sheets a_findings k)) kk')) 0 0 (va_A (wX4_tear cI cJ cZ cS a_t a_party a_kept a_tape a_telephone a_sheets a_findings v_isKept) sz) := by
  refine q_enter (Qf := fun A => (q_Ri D rr A ((fun k : Int32 => (wX4_tear cI cJ cZ cS a_t a_party a_kept a_tape a_telephone a_sheets a_findings k)) kk'))) (by decide) rfl (Nat.le_of_ble_eq_true rfl) ?_
  intro p e s m below meth c A ls fx hname h hl
  have hx := fx.1
  have hb := fx.2.1
  have hl : lv_has ls 2 [(0, .ref a_t)] := hl
  generalize h9 : s.heap = H at h ⊢
  clear h9
  generalize h9 : ([] : List Loc) = locs at h ⊢
  clear h9
  unfold fX4_tear at hf
  refine lv_aload_n hx hb dX4_tear_0 rfl (lv_at hl 0 rfl) ?_
  refine q_get (v := .int v_isKept) fx inX4 h 0 rfl rfl 2 (by decide) k_176 rfl dX4_tear_1 ?_
  obtain ⟨r1, k1, hg, hf⟩ := bR_inv hf
  refine q_ci (rest := []) (ws' := (wX4_tear cI cJ cZ cS a_t a_party a_kept a_tape a_telephone a_sheets a_findings v_isKept)) (w1 := (wX4_oneIf cI cJ cZ cS)) fx h [] rfl rfl rfl rfl (q_runS fx h hl.1 [] rfl rfl (tX4_oneIf l D cI cJ cZ cS tb H.size v_isKept r1 k1 hg) msX4_oneIf k_246 ⟨rfl, rfl⟩ ⟨Nat.le_of_ble_eq_true rfl, Nat.le_of_ble_eq_true rfl⟩ rfl rfl (Nat.le_of_ble_eq_true rfl) dX4_tear_4 ⟨Nat.le_of_ble_eq_true rfl, Nat.le_of_ble_eq_true rfl⟩) (fun H locs h => ?_)
  refine lv_istore_n (lv' := [(1, .int r1), (0, .ref a_t)]) hx hb dX4_tear_7 rfl hl (by decide) rfl (fun ls hl => ?_)
  refine lv_aload_n hx hb dX4_tear_8 rfl (lv_at hl 1 rfl) ?_
  refine lv_iconst (v := 0) hx hb dX4_tear_9 (by decide) ?_
  refine q_put (v := .int 0) (ws' := (wX4_tear cI cJ cZ cS a_t a_party a_kept a_tape a_telephone a_sheets a_findings 0)) fx inX4 tyX4 tyX4_ok nmX4 h 0 rfl rfl 2 (by decide) k_176 rfl rfl rfl (Nat.le_of_ble_eq_true rfl) rfl dX4_tear_10 (fun H locs h => ?_)
  refine lv_iload_n hx hb dX4_tear_13 rfl (lv_at hl 0 rfl) ?_
  exact q_reti (fun k : Int32 => (wX4_tear cI cJ cZ cS a_t a_party a_kept a_tape a_telephone a_sheets a_findings k)) fx hf h dX4_tear_14
/-! X4_count -/
abbrev wX4_count (cI cJ cZ cS : ClassId) (a_t a_party a_party_kinds a_party_costs a_party_terms a_party_known a_kept a_tape a_tape_bytes a_telephone a_sheets a_findings : Nat) (v_isKept : Int32) (v_party_size : Int32) (v_party_list : Int32) (v_party_told : Int32) (v_party_costs : Nat → Int32) (v_tape_length : Int32) (v_tape_place : Int32) (v_tape_fault : Int32) (v_tape_teller : Int32) (v_tape_word : Int32) (v_findings : Nat → Int32) : va_W := [(a_t, .inr (4, [.ref a_party, .ref a_kept, .int v_isKept, .ref a_tape, .ref a_telephone, .ref a_sheets, .ref a_findings])), (a_party, .inr (0, [.int v_party_size, .int v_party_list, .int v_party_told, .ref a_party_kinds, .ref a_party_costs, .ref a_party_terms, .ref a_party_known])), (a_party_costs, .inl (cI, 8, .inl v_party_costs)), (a_tape, .inr (2, [.ref a_tape_bytes, .int v_tape_length, .int v_tape_place, .int v_tape_fault, .int v_tape_teller, .int v_tape_word])), (a_findings, .inl (cI, 7, .inl v_findings))]
abbrev rX4_count : Room := { frames := 2, cells := 0, slots := 0, locals := 44 }
def fX4_count (v_party_size : Int32) (v_party_told : Int32) (v_party_costs : Nat → Int32) (v_tape_length : Int32) (v_findings : Nat → Int32) (x1 : Int32) : Option (Int32 × (Nat → Int32)) :=
  (if (x1).toInt < 0 ∨ 3 < (x1).toInt then (
  bR (fX4_found v_findings (-1000000001)) (fun r2 k2 =>
  some (r2, k2)))
  else (if x1 = 0 then (
  some (v_party_size, v_findings))
  else (if x1 = 1 then (
  some (v_tape_length, v_findings))
  else (if x1 = 2 then (
  bR (fX0_everyone v_party_size) (fun r6 k6 =>
  bR (fX0_costsOf v_party_size v_party_costs r6) (fun r7 k7 =>
  some (r7, v_findings))))
  else (if x1 = 3 then (
  some (v_party_told, v_findings))
  else none)))))
set_option maxRecDepth 100000 in
set_option maxHeartbeats 4000000 in
theorem tX4_count (l : Launch) (D : va_G) (cI cJ cZ cS : ClassId) (tb : Nat) (a_t a_party a_party_kinds a_party_costs a_party_terms a_party_known a_kept a_tape a_tape_bytes a_telephone a_sheets a_findings : Nat) (sz : Nat) (v_isKept : Int32) (v_party_size : Int32) (v_party_list : Int32) (v_party_told : Int32) (v_party_costs : Nat → Int32) (v_tape_length : Int32) (v_tape_place : Int32) (v_tape_fault : Int32) (v_tape_teller : Int32) (v_tape_word : Int32) (v_findings : Nat → Int32) (x1 : Int32) (rr : Int32) (kk' : (Nat → Int32)) (hf : fX4_count v_party_size v_party_told v_party_costs v_tape_length v_findings x1 = some (rr, kk')) : Met l yX4_count (Cond.code yX4_count cX4_count 2 (some .int) :: wA) rX4_count (q_Pre D cI cJ cZ cS tb [.ref a_t, .int x1] sz (wX4_count cI cJ cZ cS a_t a_party a_party_kinds a_party_costs a_party_terms a_party_known a_kept a_tape a_tape_bytes a_telephone a_sheets a_findings v_isKept v_party_size v_party_list v_party_told v_party_costs v_tape_length v_tape_place v_tape_fault v_tape_teller v_tape_word v_findings)) (q_Ri D rr (va_A (wX4_count cI cJ cZ cS a_t a_party a_party_kinds a_party_costs a_party_terms a_party_known a_kept a_tape a_tape_bytes a_telephone a_sheets a_findings v_isKept v_party_size v_party_list v_party_told v_party_costs v_tape_length v_tape_place v_tape_fault v_tape_teller v_tape_word v_findings) sz) ((fun k : (Nat → Int32) => (wX4_count cI cJ cZ cS a_t a_party a_party_kinds a_party_costs a_party_terms a_party_known a_kept a_tape a_tape_bytes a_telephone a_sheets a_findings v_isKept v_party_size v_party_list v_party_told v_party_costs v_tape_length v_tape_place v_tape_fault v_tape_teller v_tape_word k)) kk')) 0 0 (va_A (wX4_count cI cJ cZ cS a_t a_party a_party_kinds a_party_costs a_party_terms a_party_known a_kept a_tape a_tape_bytes a_telephone a_sheets a_findings v_isKept v_party_size v_party_list v_party_told v_party_costs v_tape_length v_tape_place v_tape_fault v_tape_teller v_tape_word v_findings) sz) := by
  refine q_enter (Qf := fun A => (q_Ri D rr A ((fun k : (Nat → Int32) => (wX4_count cI cJ cZ cS a_t a_party a_party_kinds a_party_costs a_party_terms a_party_known a_kept a_tape a_tape_bytes a_telephone a_sheets a_findings v_isKept v_party_size v_party_list v_party_told v_party_costs v_tape_length v_tape_place v_tape_fault v_tape_teller v_tape_word k)) kk'))) (by decide) rfl (Nat.le_of_ble_eq_true rfl) ?_
  intro p e s m below meth c A ls fx hname h hl
  have hx := fx.1
  have hb := fx.2.1
  have hl : lv_has ls 2 [(0, .ref a_t), (1, .int x1)] := hl
  generalize h9 : s.heap = H at h ⊢
  clear h9
  generalize h9 : ([] : List Loc) = locs at h ⊢
  clear h9
  unfold fX4_count at hf
  refine lv_iload_n hx hb dX4_count_0 rfl (lv_at hl 1 rfl) ?_
  rcases it_or hf with ⟨c1, hf⟩ | ⟨c1, hf⟩
  · refine lv_tableOut (tgt := 71) hx hb dX4_count_1 c1 (by decide) ?_
    refine lv_aload_n hx hb dX4_count_71 rfl (lv_at hl 0 rfl) ?_
    refine q_ldc fx k_206 dX4_count_72 ?_
    obtain ⟨r2, k2, hg, hf⟩ := bR_inv hf
    refine q_ci (rest := []) (ws' := (wX4_count cI cJ cZ cS a_t a_party a_party_kinds a_party_costs a_party_terms a_party_known a_kept a_tape a_tape_bytes a_telephone a_sheets a_findings v_isKept v_party_size v_party_list v_party_told v_party_costs v_tape_length v_tape_place v_tape_fault v_tape_teller v_tape_word k2)) (w1 := (wX4_found cI cJ cZ cS a_t a_party a_kept a_tape a_telephone a_sheets a_findings v_isKept k2)) fx h [0, 4] rfl rfl rfl rfl (q_runV fx h hl.1 [0, 4] rfl rfl (tX4_found l D cI cJ cZ cS tb a_t a_party a_kept a_tape a_telephone a_sheets a_findings H.size v_isKept v_findings (-1000000001) r2 k2 hg) mvX4_found k_207 ⟨rfl, rfl⟩ ⟨Nat.le_of_ble_eq_true rfl, Nat.le_of_ble_eq_true rfl⟩ rfl rfl rfl rfl (Nat.le_of_ble_eq_true rfl) dX4_count_74 ⟨Nat.le_of_ble_eq_true rfl, Nat.le_of_ble_eq_true rfl⟩) (fun H locs h => ?_)
    exact q_reti (fun k : (Nat → Int32) => (wX4_count cI cJ cZ cS a_t a_party a_party_kinds a_party_costs a_party_terms a_party_known a_kept a_tape a_tape_bytes a_telephone a_sheets a_findings v_isKept v_party_size v_party_list v_party_told v_party_costs v_tape_length v_tape_place v_tape_fault v_tape_teller v_tape_word k)) fx hf h dX4_count_77
  have c1 := not_or.mp c1
  rcases it_or hf with ⟨c3, hf⟩ | ⟨c3, hf⟩
  · refine lv_tableIn (off := 31) (tgt := 32) hx hb dX4_count_1 c1.1 c1.2 (by rw [c3]; rfl) (by decide) ?_
    refine lv_aload_n hx hb dX4_count_32 rfl (lv_at hl 0 rfl) ?_
    refine q_get (v := .ref a_party) fx inX4 h 0 rfl rfl 0 (by decide) k_174 rfl dX4_count_33 ?_
    refine q_getN (v := .int v_party_size) fx inX0 h 1 rfl rfl 0 (by decide) nf_0 rfl dX4_count_36 ?_
    exact q_reti (fun k : (Nat → Int32) => (wX4_count cI cJ cZ cS a_t a_party a_party_kinds a_party_costs a_party_terms a_party_known a_kept a_tape a_tape_bytes a_telephone a_sheets a_findings v_isKept v_party_size v_party_list v_party_told v_party_costs v_tape_length v_tape_place v_tape_fault v_tape_teller v_tape_word k)) fx hf h dX4_count_39
  rcases it_or hf with ⟨c4, hf⟩ | ⟨c4, hf⟩
  · refine lv_tableIn (off := 39) (tgt := 40) hx hb dX4_count_1 c1.1 c1.2 (by rw [c4]; rfl) (by decide) ?_
    refine lv_aload_n hx hb dX4_count_40 rfl (lv_at hl 0 rfl) ?_
    refine q_get (v := .ref a_tape) fx inX4 h 0 rfl rfl 3 (by decide) k_177 rfl dX4_count_41 ?_
    refine q_getN (v := .int v_tape_length) fx inX2 h 3 rfl rfl 1 (by decide) nf_7 rfl dX4_count_44 ?_
    exact q_reti (fun k : (Nat → Int32) => (wX4_count cI cJ cZ cS a_t a_party a_party_kinds a_party_costs a_party_terms a_party_known a_kept a_tape a_tape_bytes a_telephone a_sheets a_findings v_isKept v_party_size v_party_list v_party_told v_party_costs v_tape_length v_tape_place v_tape_fault v_tape_teller v_tape_word k)) fx hf h dX4_count_47
  rcases it_or hf with ⟨c5, hf⟩ | ⟨c5, hf⟩
  · refine lv_tableIn (off := 47) (tgt := 48) hx hb dX4_count_1 c1.1 c1.2 (by rw [c5]; rfl) (by decide) ?_
    refine lv_aload_n hx hb dX4_count_48 rfl (lv_at hl 0 rfl) ?_
    refine q_get (v := .ref a_party) fx inX4 h 0 rfl rfl 0 (by decide) k_174 rfl dX4_count_49 ?_
    refine lv_aload_n hx hb dX4_count_52 rfl (lv_at hl 0 rfl) ?_
    refine q_get (v := .ref a_party) fx inX4 h 0 rfl rfl 0 (by decide) k_174 rfl dX4_count_53 ?_
    obtain ⟨r6, k6, hg, hf⟩ := bR_inv hf
    refine q_ci (rest := [.ref a_party]) (ws' := (wX4_count cI cJ cZ cS a_t a_party a_party_kinds a_party_costs a_party_terms a_party_known a_kept a_tape a_tape_bytes a_telephone a_sheets a_findings v_isKept v_party_size v_party_list v_party_told v_party_costs v_tape_length v_tape_place v_tape_fault v_tape_teller v_tape_word v_findings)) (w1 := (wX0_everyone cI cJ cZ cS a_party a_party_kinds a_party_costs a_party_terms a_party_known v_party_size v_party_list v_party_told)) fx h [1] rfl rfl rfl rfl (q_runV fx h hl.1 [1] rfl rfl (tX0_everyone l D cI cJ cZ cS tb a_party a_party_kinds a_party_costs a_party_terms a_party_known H.size v_party_size v_party_list v_party_told r6 k6 hg) mvX0_everyone k_456 ⟨rfl, rfl⟩ ⟨Nat.le_of_ble_eq_true rfl, Nat.le_of_ble_eq_true rfl⟩ rfl rfl rfl rfl (Nat.le_of_ble_eq_true rfl) dX4_count_56 ⟨Nat.le_of_ble_eq_true rfl, Nat.le_of_ble_eq_true rfl⟩) (fun H locs h => ?_)
    obtain ⟨r7, k7, hg, hf⟩ := bR_inv hf
    refine q_ci (rest := []) (ws' := (wX4_count cI cJ cZ cS a_t a_party a_party_kinds a_party_costs a_party_terms a_party_known a_kept a_tape a_tape_bytes a_telephone a_sheets a_findings v_isKept v_party_size v_party_list v_party_told v_party_costs v_tape_length v_tape_place v_tape_fault v_tape_teller v_tape_word v_findings)) (w1 := (wX0_costsOf cI cJ cZ cS a_party a_party_kinds a_party_costs a_party_terms a_party_known v_party_size v_party_list v_party_told v_party_costs)) fx h [1, 2] rfl rfl rfl rfl (q_runV fx h hl.1 [1, 2] rfl rfl (tX0_costsOf l D cI cJ cZ cS tb a_party a_party_kinds a_party_costs a_party_terms a_party_known H.size v_party_size v_party_list v_party_told v_party_costs r6 r7 k7 hg) mvX0_costsOf k_363 ⟨rfl, rfl⟩ ⟨Nat.le_of_ble_eq_true rfl, Nat.le_of_ble_eq_true rfl⟩ rfl rfl rfl rfl (Nat.le_of_ble_eq_true rfl) dX4_count_59 ⟨Nat.le_of_ble_eq_true rfl, Nat.le_of_ble_eq_true rfl⟩) (fun H locs h => ?_)
    exact q_reti (fun k : (Nat → Int32) => (wX4_count cI cJ cZ cS a_t a_party a_party_kinds a_party_costs a_party_terms a_party_known a_kept a_tape a_tape_bytes a_telephone a_sheets a_findings v_isKept v_party_size v_party_list v_party_told v_party_costs v_tape_length v_tape_place v_tape_fault v_tape_teller v_tape_word k)) fx hf h dX4_count_62
  rcases it_or hf with ⟨c8, hf⟩ | ⟨c8, hf⟩
  · refine lv_tableIn (off := 62) (tgt := 63) hx hb dX4_count_1 c1.1 c1.2 (by rw [c8]; rfl) (by decide) ?_
    refine lv_aload_n hx hb dX4_count_63 rfl (lv_at hl 0 rfl) ?_
    refine q_get (v := .ref a_party) fx inX4 h 0 rfl rfl 0 (by decide) k_174 rfl dX4_count_64 ?_
    refine q_getN (v := .int v_party_told) fx inX0 h 1 rfl rfl 2 (by decide) nf_4 rfl dX4_count_67 ?_
    exact q_reti (fun k : (Nat → Int32) => (wX4_count cI cJ cZ cS a_t a_party a_party_kinds a_party_costs a_party_terms a_party_known a_kept a_tape a_tape_bytes a_telephone a_sheets a_findings v_isKept v_party_size v_party_list v_party_told v_party_costs v_tape_length v_tape_place v_tape_fault v_tape_teller v_tape_word k)) fx hf h dX4_count_70
  cases hf
/-! X4_status -/
abbrev wX4_status (cI cJ cZ cS : ClassId) (a_t a_party a_kept a_tape a_telephone a_sheets a_findings : Nat) (v_isKept : Int32) (v_findings : Nat → Int32) : va_W := [(a_t, .inr (4, [.ref a_party, .ref a_kept, .int v_isKept, .ref a_tape, .ref a_telephone, .ref a_sheets, .ref a_findings])), (a_findings, .inl (cI, 7, .inl v_findings))]
abbrev rX4_status : Room := { frames := 1, cells := 0, slots := 0, locals := 22 }
def fX4_status_33 (ag33 : (Nat → Int32) → Int32 → Int32 → Option (Int32 × (Nat → Int32))) (v_findings : Nat → Int32) (y2 : Int32) (y3 : Int32) : Option (Int32 × (Nat → Int32)) :=
  (if (7 : Int32) ≤ y3 then (
  some (y2, v_findings))
  else (
  gIn y3 7 (
  nm (y2 + (v_findings y3.toNatClampNeg)) (fun u3 =>
  nm (y3 + 1) (fun u4 =>
  ag33 v_findings u3 u4)))))
set_option maxRecDepth 100000 in
set_option maxHeartbeats 4000000 in
theorem LX4_status_33 {p : Program} {l : Launch} {e : Env} {s : State} {m : MethodId} {args : Array Value} {below : List Frame} {meth : Method} {c : Code} {D : va_G} {cI cJ cZ cS : ClassId} {tb : Nat} {A : Nat → Prop} {a_t a_party a_kept a_tape a_telephone a_sheets a_findings : Nat} {v_isKept : Int32} {rr : Int32} {kk' : (Nat → Int32)} (fx : q_Fx p s m args meth c cX4_status 4 RX4 (some .int) D cI cJ cZ cS tb A) {ag33 : (Nat → Int32) → Int32 → Int32 → Option (Int32 × (Nat → Int32))} (hag33 : ∀ {v_findings : Nat → Int32} {y2 : Int32} {y3 : Int32} {H : Heap} {locs : List Loc} {ls : Array Slot}, q_H D A s (wX4_status cI cJ cZ cS a_t a_party a_kept a_tape a_telephone a_sheets a_findings v_isKept v_findings) H locs → lv_has ls 4 [(0, .ref a_t), (2, .int y2), (3, .int y3)] → ag33 v_findings y2 y3 = some (rr, kk') → W p l e rX4_status s m args below meth c H locs 0 0 (MQ below (q_Ri D rr A ((fun k : (Nat → Int32) => (wX4_status cI cJ cZ cS a_t a_party a_kept a_tape a_telephone a_sheets a_findings v_isKept k)) kk')) args s 0 0 A) (F0 m 33 ls [])) : ∀ {v_findings : Nat → Int32} {y2 : Int32} {y3 : Int32} {H : Heap} {locs : List Loc} {ls : Array Slot}, q_H D A s (wX4_status cI cJ cZ cS a_t a_party a_kept a_tape a_telephone a_sheets a_findings v_isKept v_findings) H locs → lv_has ls 4 [(0, .ref a_t), (2, .int y2), (3, .int y3)] → fX4_status_33 ag33 v_findings y2 y3 = some (rr, kk') → W p l e rX4_status s m args below meth c H locs 0 0 (MQ below (q_Ri D rr A ((fun k : (Nat → Int32) => (wX4_status cI cJ cZ cS a_t a_party a_kept a_tape a_telephone a_sheets a_findings v_isKept k)) kk')) args s 0 0 A) (F0 m 33 ls []) := by
  intro v_findings y2 y3 H locs ls h hl hf
  have hx := fx.1
  have hb := fx.2.1
  unfold fX4_status_33 at hf
  refine lv_iload_n hx hb dX4_status_33 rfl (lv_at hl 2 rfl) ?_
  refine lv_bipush (v := 7) hx hb dX4_status_34 (by decide) ?_
  refine lv_icmp_ge (tgt := 54) hx hb dX4_status_36 (by decide) (fun c1 => ?_) (fun c1 => ?_)
  · have hf := it_t c1 hf
    refine lv_iload_n hx hb dX4_status_54 rfl (lv_at hl 1 rfl) ?_
    exact q_reti (fun k : (Nat → Int32) => (wX4_status cI cJ cZ cS a_t a_party a_kept a_tape a_telephone a_sheets a_findings v_isKept k)) fx hf h dX4_status_55
  have hf := it_f c1 hf
  refine lv_iload_n hx hb dX4_status_39 rfl (lv_at hl 1 rfl) ?_
  refine lv_aload_n hx hb dX4_status_40 rfl (lv_at hl 0 rfl) ?_
  refine q_get (v := .ref a_findings) fx inX4 h 0 rfl rfl 6 (by decide) k_180 rfl dX4_status_41 ?_
  refine lv_iload_n hx hb dX4_status_44 rfl (lv_at hl 2 rfl) ?_
  obtain ⟨i2, hf⟩ := gIn_inv hf
  refine q_iald fx h 1 rfl i2 dX4_status_45 ?_
  refine lv_iadd hx hb dX4_status_46 ?_
  obtain ⟨u3, eu3, hf⟩ := nm_inv hf
  refine lv_eqi eu3 ?_
  refine lv_istore_n (lv' := [(2, .int u3), (0, .ref a_t), (3, .int y3)]) hx hb dX4_status_47 rfl hl (by decide) rfl (fun ls hl => ?_)
  obtain ⟨u4, eu4, hf⟩ := nm_inv hf
  refine lv_iinc (v := u4) (lv' := [(3, .int u4), (2, .int u3), (0, .ref a_t)]) hx hb dX4_status_48 hl (k := 2) rfl (by rw [eu4]; rfl) (by decide) rfl (fun ls hl => ?_)
  refine lv_goto (tgt := 33) hx hb dX4_status_51 (by decide) ?_
  exact hag33 h (lv_sub hl [2, 1, 0] rfl) hf
set_option maxRecDepth 100000 in
theorem EX4_status_33 {p : Program} {l : Launch} {e : Env} {s : State} {m : MethodId} {args : Array Value} {below : List Frame} {meth : Method} {c : Code} {D : va_G} {cI cJ cZ cS : ClassId} {tb : Nat} {A : Nat → Prop} {a_t a_party a_kept a_tape a_telephone a_sheets a_findings : Nat} {v_isKept : Int32} {rr : Int32} {kk' : (Nat → Int32)} (fx : q_Fx p s m args meth c cX4_status 4 RX4 (some .int) D cI cJ cZ cS tb A) : ∀ (n : Nat), ∀ {v_findings : Nat → Int32} {y2 : Int32} {y3 : Int32} {H : Heap} {locs : List Loc} {ls : Array Slot}, q_H D A s (wX4_status cI cJ cZ cS a_t a_party a_kept a_tape a_telephone a_sheets a_findings v_isKept v_findings) H locs → lv_has ls 4 [(0, .ref a_t), (2, .int y2), (3, .int y3)] → ll3 (fX4_status_33 ) n v_findings y2 y3 = some (rr, kk') → W p l e rX4_status s m args below meth c H locs 0 0 (MQ below (q_Ri D rr A ((fun k : (Nat → Int32) => (wX4_status cI cJ cZ cS a_t a_party a_kept a_tape a_telephone a_sheets a_findings v_isKept k)) kk')) args s 0 0 A) (F0 m 33 ls []) := by
  intro n
  induction n with
  | zero => intro v_findings y2 y3 H locs ls h hl hf; exact (ll3_z hf).elim
  | succ n ih => intro v_findings y2 y3 H locs ls h hl hf; exact LX4_status_33 fx ih h hl (ll3_s hf)
def fX4_status_11 (v_findings : Nat → Int32) : Option (Int32 × (Nat → Int32)) :=
  bR (fX4_found v_findings (-1000000001)) (fun r5 k5 =>
  some (r5, k5))
set_option maxRecDepth 100000 in
set_option maxHeartbeats 4000000 in
theorem LX4_status_11 {p : Program} {l : Launch} {e : Env} {s : State} {m : MethodId} {args : Array Value} {below : List Frame} {meth : Method} {c : Code} {D : va_G} {cI cJ cZ cS : ClassId} {tb : Nat} {A : Nat → Prop} {a_t a_party a_kept a_tape a_telephone a_sheets a_findings : Nat} {v_isKept : Int32} {rr : Int32} {kk' : (Nat → Int32)} (fx : q_Fx p s m args meth c cX4_status 4 RX4 (some .int) D cI cJ cZ cS tb A) : ∀ {v_findings : Nat → Int32} {H : Heap} {locs : List Loc} {ls : Array Slot}, q_H D A s (wX4_status cI cJ cZ cS a_t a_party a_kept a_tape a_telephone a_sheets a_findings v_isKept v_findings) H locs → lv_has ls 4 [(0, .ref a_t)] → fX4_status_11 v_findings = some (rr, kk') → W p l e rX4_status s m args below meth c H locs 0 0 (MQ below (q_Ri D rr A ((fun k : (Nat → Int32) => (wX4_status cI cJ cZ cS a_t a_party a_kept a_tape a_telephone a_sheets a_findings v_isKept k)) kk')) args s 0 0 A) (F0 m 11 ls []) := by
  intro v_findings H locs ls h hl hf
  have hx := fx.1
  have hb := fx.2.1
  unfold fX4_status_11 at hf
  refine lv_aload_n hx hb dX4_status_11 rfl (lv_at hl 0 rfl) ?_
  refine q_ldc fx k_206 dX4_status_12 ?_
  obtain ⟨r5, k5, hg, hf⟩ := bR_inv hf
  refine q_ci (rest := []) (ws' := (wX4_status cI cJ cZ cS a_t a_party a_kept a_tape a_telephone a_sheets a_findings v_isKept k5)) (w1 := (wX4_found cI cJ cZ cS a_t a_party a_kept a_tape a_telephone a_sheets a_findings v_isKept k5)) fx h [0, 1] rfl rfl rfl rfl (q_runV fx h hl.1 [0, 1] rfl rfl (tX4_found l D cI cJ cZ cS tb a_t a_party a_kept a_tape a_telephone a_sheets a_findings H.size v_isKept v_findings (-1000000001) r5 k5 hg) mvX4_found k_207 ⟨rfl, rfl⟩ ⟨Nat.le_of_ble_eq_true rfl, Nat.le_of_ble_eq_true rfl⟩ rfl rfl rfl rfl (Nat.le_of_ble_eq_true rfl) dX4_status_14 ⟨Nat.le_of_ble_eq_true rfl, Nat.le_of_ble_eq_true rfl⟩) (fun H locs h => ?_)
  exact q_reti (fun k : (Nat → Int32) => (wX4_status cI cJ cZ cS a_t a_party a_kept a_tape a_telephone a_sheets a_findings v_isKept k)) fx hf h dX4_status_17
def fX4_status (v_findings : Nat → Int32) (x1 : Int32) : Option (Int32 × (Nat → Int32)) :=
  (if x1 < (-1) then (
  fX4_status_11  v_findings)
  else (
  (if x1 < 7 then (
  (if x1 < 0 then (
  ll3 (fX4_status_33 ) qF v_findings 0 0)
  else (
  gIn x1 7 (
  some (v_findings x1.toNatClampNeg, v_findings)))))
  else (
  fX4_status_11  v_findings))))
set_option maxRecDepth 100000 in
set_option maxHeartbeats 4000000 in
theorem tX4_status (l : Launch) (D : va_G) (cI cJ cZ cS : ClassId) (tb : Nat) (a_t a_party a_kept a_tape a_telephone a_sheets a_findings : Nat) (sz : Nat) (v_isKept : Int32) (v_findings : Nat → Int32) (x1 : Int32) (rr : Int32) (kk' : (Nat → Int32)) (hf : fX4_status v_findings x1 = some (rr, kk')) : Met l yX4_status (Cond.code yX4_status cX4_status 4 (some .int) :: wA) rX4_status (q_Pre D cI cJ cZ cS tb [.ref a_t, .int x1] sz (wX4_status cI cJ cZ cS a_t a_party a_kept a_tape a_telephone a_sheets a_findings v_isKept v_findings)) (q_Ri D rr (va_A (wX4_status cI cJ cZ cS a_t a_party a_kept a_tape a_telephone a_sheets a_findings v_isKept v_findings) sz) ((fun k : (Nat → Int32) => (wX4_status cI cJ cZ cS a_t a_party a_kept a_tape a_telephone a_sheets a_findings v_isKept k)) kk')) 0 0 (va_A (wX4_status cI cJ cZ cS a_t a_party a_kept a_tape a_telephone a_sheets a_findings v_isKept v_findings) sz) := by
  refine q_enter (Qf := fun A => (q_Ri D rr A ((fun k : (Nat → Int32) => (wX4_status cI cJ cZ cS a_t a_party a_kept a_tape a_telephone a_sheets a_findings v_isKept k)) kk'))) (by decide) rfl (Nat.le_of_ble_eq_true rfl) ?_
  intro p e s m below meth c A ls fx hname h hl
  have hx := fx.1
  have hb := fx.2.1
  have hl : lv_has ls 4 [(0, .ref a_t), (1, .int x1)] := hl
  generalize h9 : s.heap = H at h ⊢
  clear h9
  generalize h9 : ([] : List Loc) = locs at h ⊢
  clear h9
  unfold fX4_status at hf
  refine lv_iload_n hx hb dX4_status_0 rfl (lv_at hl 1 rfl) ?_
  refine lv_iconst (v := -1) hx hb dX4_status_1 (by decide) ?_
  refine lv_icmp_lt (tgt := 11) hx hb dX4_status_2 (by decide) (fun c6 => ?_) (fun c6 => ?_)
  · have hf := it_t c6 hf
    exact LX4_status_11 fx h (lv_sub hl [0] rfl) hf
  have hf := it_f c6 hf
  refine lv_iload_n hx hb dX4_status_5 rfl (lv_at hl 1 rfl) ?_
  refine lv_bipush (v := 7) hx hb dX4_status_6 (by decide) ?_
  refine lv_icmp_lt (tgt := 18) hx hb dX4_status_8 (by decide) (fun c7 => ?_) (fun c7 => ?_)
  · have hf := it_t c7 hf
    refine lv_iload_n hx hb dX4_status_18 rfl (lv_at hl 1 rfl) ?_
    refine lv_if_lt (tgt := 29) hx hb dX4_status_19 (by decide) (fun c8 => ?_) (fun c8 => ?_)
    · have hf := it_t c8 hf
      refine lv_iconst (v := 0) hx hb dX4_status_29 (by decide) ?_
      refine lv_istore_n (lv' := [(2, .int 0), (0, .ref a_t), (1, .int x1)]) hx hb dX4_status_30 rfl hl (by decide) rfl (fun ls hl => ?_)
      refine lv_iconst (v := 0) hx hb dX4_status_31 (by decide) ?_
      refine lv_istore_n (lv' := [(3, .int 0), (2, .int 0), (0, .ref a_t), (1, .int x1)]) hx hb dX4_status_32 rfl hl (by decide) rfl (fun ls hl => ?_)
      exact EX4_status_33 fx qF h (lv_sub hl [2, 1, 0] rfl) hf
    have hf := it_f c8 hf
    refine lv_aload_n hx hb dX4_status_22 rfl (lv_at hl 0 rfl) ?_
    refine q_get (v := .ref a_findings) fx inX4 h 0 rfl rfl 6 (by decide) k_180 rfl dX4_status_23 ?_
    refine lv_iload_n hx hb dX4_status_26 rfl (lv_at hl 1 rfl) ?_
    obtain ⟨i9, hf⟩ := gIn_inv hf
    refine q_iald fx h 1 rfl i9 dX4_status_27 ?_
    exact q_reti (fun k : (Nat → Int32) => (wX4_status cI cJ cZ cS a_t a_party a_kept a_tape a_telephone a_sheets a_findings v_isKept k)) fx hf h dX4_status_28
  have hf := it_f c7 hf
  exact LX4_status_11 fx h (lv_sub hl [0] rfl) hf
/-! X5_in -/
abbrev wX5_in (cI cJ cZ cS : ClassId) : va_W := []
abbrev rX5_in : Room := { frames := 0, cells := 0, slots := 0, locals := 0 }
def fX5_in (x0 : Int64) (x2 : Int64) (x4 : Int64) : Option (Int32 × Unit) :=
  (if (lg_cmp x0 x2) < 0 then (
  some (0, ()))
  else (
  (if (0 : Int32) < (lg_cmp x0 x4) then (
  some (0, ()))
  else (
  some (1, ())))))
set_option maxRecDepth 100000 in
set_option maxHeartbeats 4000000 in
theorem tX5_in (l : Launch) (D : va_G) (cI cJ cZ cS : ClassId) (tb : Nat) (sz : Nat) (x0 : Int64) (x2 : Int64) (x4 : Int64) (rr : Int32) (kk' : Unit) (hf : fX5_in x0 x2 x4 = some (rr, kk')) : Met l yX5_in (Cond.code yX5_in cX5_in 6 (some .boolean) :: wA) rX5_in (q_Pre D cI cJ cZ cS tb [.long x0, .long x2, .long x4] sz (wX5_in cI cJ cZ cS)) (q_Ri D rr (va_A (wX5_in cI cJ cZ cS) sz) ((fun k : Unit => (wX5_in cI cJ cZ cS)) kk')) 0 0 (va_A (wX5_in cI cJ cZ cS) sz) := by
  refine q_enter (Qf := fun A => (q_Ri D rr A ((fun k : Unit => (wX5_in cI cJ cZ cS)) kk'))) (by decide) rfl (Nat.le_of_ble_eq_true rfl) ?_
  intro p e s m below meth c A ls fx hname h hl
  have hx := fx.1
  have hb := fx.2.1
  have hl : lv_has ls 6 [(0, .long x0), (2, .long x2), (4, .long x4)] := hl
  generalize h9 : s.heap = H at h ⊢
  clear h9
  generalize h9 : ([] : List Loc) = locs at h ⊢
  clear h9
  unfold fX5_in at hf
  refine lv_lload_n hx hb dX5_in_0 rfl (lv_at hl 0 rfl) ?_
  refine lv_lload_n hx hb dX5_in_1 rfl (lv_at hl 1 rfl) ?_
  refine W.lcmp hx hb dX5_in_2 ?_
  refine lv_if_lt (tgt := 17) hx hb dX5_in_3 (by decide) (fun c1 => ?_) (fun c1 => ?_)
  · have hf := it_t c1 hf
    refine lv_iconst (v := 0) hx hb dX5_in_17 (by decide) ?_
    exact q_retz (fun k : Unit => (wX5_in cI cJ cZ cS)) fx rfl hf h dX5_in_18
  have hf := it_f c1 hf
  refine lv_lload_n hx hb dX5_in_6 rfl (lv_at hl 0 rfl) ?_
  refine lv_lload hx hb dX5_in_7 (lv_at hl 2 rfl) ?_
  refine W.lcmp hx hb dX5_in_9 ?_
  refine lv_if_gt (tgt := 17) hx hb dX5_in_10 (by decide) (fun c2 => ?_) (fun c2 => ?_)
  · have hf := it_t c2 hf
    refine lv_iconst (v := 0) hx hb dX5_in_17 (by decide) ?_
    exact q_retz (fun k : Unit => (wX5_in cI cJ cZ cS)) fx rfl hf h dX5_in_18
  have hf := it_f c2 hf
  refine lv_iconst (v := 1) hx hb dX5_in_13 (by decide) ?_
  refine lv_goto (tgt := 18) hx hb dX5_in_14 (by decide) ?_
  exact q_retz (fun k : Unit => (wX5_in cI cJ cZ cS)) fx rfl hf h dX5_in_18
/-! X5_finds -/
abbrev wX5_finds (cI cJ cZ cS : ClassId) (a_t a_s a_keptS a_statuses a_pile a_tape a_steps a_wish a_mark a_bitsOf a_sizeOf a_number a_moved : Nat) (v_isKept : Int32) (v_taped : Int32) (v_at : Int32) (v_fault : Int32) (v_laid : Int32) (v_open : Int32) (v_statuses : Nat → Int32) : va_W := [(a_t, .inr (5, [.ref a_s, .ref a_keptS, .ref a_statuses, .int v_isKept, .ref a_pile, .ref a_tape, .ref a_steps, .int v_taped, .int v_at, .int v_fault, .int v_laid, .int v_open, .ref a_wish, .ref a_mark, .ref a_bitsOf, .ref a_sizeOf, .ref a_number, .ref a_moved])), (a_statuses, .inl (cI, 7, .inl v_statuses))]
abbrev rX5_finds : Room := { frames := 0, cells := 0, slots := 0, locals := 0 }
def fX5_finds (v_statuses : Nat → Int32) (x1 : Int32) : Option (Int32 × (Nat → Int32)) :=
  gIn ((-1000000001) - x1) 7 (
  gIn ((-1000000001) - x1) 7 (
  some (x1, (upd v_statuses ((-1000000001) - x1).toNatClampNeg ((v_statuses ((-1000000001) - x1).toNatClampNeg) + 1)))))
set_option maxRecDepth 100000 in
set_option maxHeartbeats 4000000 in
theorem tX5_finds (l : Launch) (D : va_G) (cI cJ cZ cS : ClassId) (tb : Nat) (a_t a_s a_keptS a_statuses a_pile a_tape a_steps a_wish a_mark a_bitsOf a_sizeOf a_number a_moved : Nat) (sz : Nat) (v_isKept : Int32) (v_taped : Int32) (v_at : Int32) (v_fault : Int32) (v_laid : Int32) (v_open : Int32) (v_statuses : Nat → Int32) (x1 : Int32) (rr : Int32) (kk' : (Nat → Int32)) (hf : fX5_finds v_statuses x1 = some (rr, kk')) : Met l yX5_finds (Cond.code yX5_finds cX5_finds 2 (some .int) :: wA) rX5_finds (q_Pre D cI cJ cZ cS tb [.ref a_t, .int x1] sz (wX5_finds cI cJ cZ cS a_t a_s a_keptS a_statuses a_pile a_tape a_steps a_wish a_mark a_bitsOf a_sizeOf a_number a_moved v_isKept v_taped v_at v_fault v_laid v_open v_statuses)) (q_Ri D rr (va_A (wX5_finds cI cJ cZ cS a_t a_s a_keptS a_statuses a_pile a_tape a_steps a_wish a_mark a_bitsOf a_sizeOf a_number a_moved v_isKept v_taped v_at v_fault v_laid v_open v_statuses) sz) ((fun k : (Nat → Int32) => (wX5_finds cI cJ cZ cS a_t a_s a_keptS a_statuses a_pile a_tape a_steps a_wish a_mark a_bitsOf a_sizeOf a_number a_moved v_isKept v_taped v_at v_fault v_laid v_open k)) kk')) 0 0 (va_A (wX5_finds cI cJ cZ cS a_t a_s a_keptS a_statuses a_pile a_tape a_steps a_wish a_mark a_bitsOf a_sizeOf a_number a_moved v_isKept v_taped v_at v_fault v_laid v_open v_statuses) sz) := by
  refine q_enter (Qf := fun A => (q_Ri D rr A ((fun k : (Nat → Int32) => (wX5_finds cI cJ cZ cS a_t a_s a_keptS a_statuses a_pile a_tape a_steps a_wish a_mark a_bitsOf a_sizeOf a_number a_moved v_isKept v_taped v_at v_fault v_laid v_open k)) kk'))) (by decide) rfl (Nat.le_of_ble_eq_true rfl) ?_
  intro p e s m below meth c A ls fx hname h hl
  have hx := fx.1
  have hb := fx.2.1
  have hl : lv_has ls 2 [(0, .ref a_t), (1, .int x1)] := hl
  generalize h9 : s.heap = H at h ⊢
  clear h9
  generalize h9 : ([] : List Loc) = locs at h ⊢
  clear h9
  unfold fX5_finds at hf
  refine lv_aload_n hx hb dX5_finds_0 rfl (lv_at hl 0 rfl) ?_
  refine q_get (v := .ref a_statuses) fx inX5 h 0 rfl rfl 2 (by decide) k_638 rfl dX5_finds_1 ?_
  refine q_ldc fx k_701 dX5_finds_4 ?_
  refine lv_iload_n hx hb dX5_finds_6 rfl (lv_at hl 1 rfl) ?_
  refine lv_isub hx hb dX5_finds_7 ?_
  refine lv_dup2_11 hx hb dX5_finds_8 rfl rfl ?_
  obtain ⟨i1, hf⟩ := gIn_inv hf
  refine q_iald fx h 1 rfl i1 dX5_finds_9 ?_
  refine lv_iconst (v := 1) hx hb dX5_finds_10 (by decide) ?_
  refine lv_iadd hx hb dX5_finds_11 ?_
  obtain ⟨i2, hf⟩ := gIn_inv hf
  refine q_iast (ws' := (wX5_finds cI cJ cZ cS a_t a_s a_keptS a_statuses a_pile a_tape a_steps a_wish a_mark a_bitsOf a_sizeOf a_number a_moved v_isKept v_taped v_at v_fault v_laid v_open (upd v_statuses ((-1000000001) - x1).toNatClampNeg ((v_statuses ((-1000000001) - x1).toNatClampNeg) + 1)))) fx h 1 rfl i2 rfl dX5_finds_12 (fun H locs h => ?_)
  refine lv_iload_n hx hb dX5_finds_13 rfl (lv_at hl 1 rfl) ?_
  exact q_reti (fun k : (Nat → Int32) => (wX5_finds cI cJ cZ cS a_t a_s a_keptS a_statuses a_pile a_tape a_steps a_wish a_mark a_bitsOf a_sizeOf a_number a_moved v_isKept v_taped v_at v_fault v_laid v_open k)) fx hf h dX5_finds_14
/-! X5_orNone -/
abbrev wX5_orNone (cI cJ cZ cS : ClassId) (a_t a_s a_keptS a_statuses a_pile a_tape a_steps a_wish a_mark a_bitsOf a_sizeOf a_number a_moved : Nat) (v_isKept : Int32) (v_taped : Int32) (v_at : Int32) (v_fault : Int32) (v_laid : Int32) (v_open : Int32) (v_statuses : Nat → Int32) : va_W := [(a_t, .inr (5, [.ref a_s, .ref a_keptS, .ref a_statuses, .int v_isKept, .ref a_pile, .ref a_tape, .ref a_steps, .int v_taped, .int v_at, .int v_fault, .int v_laid, .int v_open, .ref a_wish, .ref a_mark, .ref a_bitsOf, .ref a_sizeOf, .ref a_number, .ref a_moved])), (a_statuses, .inl (cI, 7, .inl v_statuses))]
abbrev rX5_orNone : Room := { frames := 1, cells := 0, slots := 0, locals := 21 }
def fX5_orNone (v_statuses : Nat → Int32) (x1 : Int32) : Option (Int32 × (Nat → Int32)) :=
  (if (0 : Int32) ≤ x1 then (
  some (x1, v_statuses))
  else (
  bR (fX5_finds v_statuses (-1000000004)) (fun r2 k2 =>
  some (r2, k2))))
set_option maxRecDepth 100000 in
set_option maxHeartbeats 4000000 in
theorem tX5_orNone (l : Launch) (D : va_G) (cI cJ cZ cS : ClassId) (tb : Nat) (a_t a_s a_keptS a_statuses a_pile a_tape a_steps a_wish a_mark a_bitsOf a_sizeOf a_number a_moved : Nat) (sz : Nat) (v_isKept : Int32) (v_taped : Int32) (v_at : Int32) (v_fault : Int32) (v_laid : Int32) (v_open : Int32) (v_statuses : Nat → Int32) (x1 : Int32) (rr : Int32) (kk' : (Nat → Int32)) (hf : fX5_orNone v_statuses x1 = some (rr, kk')) : Met l yX5_orNone (Cond.code yX5_orNone cX5_orNone 2 (some .int) :: wA) rX5_orNone (q_Pre D cI cJ cZ cS tb [.ref a_t, .int x1] sz (wX5_orNone cI cJ cZ cS a_t a_s a_keptS a_statuses a_pile a_tape a_steps a_wish a_mark a_bitsOf a_sizeOf a_number a_moved v_isKept v_taped v_at v_fault v_laid v_open v_statuses)) (q_Ri D rr (va_A (wX5_orNone cI cJ cZ cS a_t a_s a_keptS a_statuses a_pile a_tape a_steps a_wish a_mark a_bitsOf a_sizeOf a_number a_moved v_isKept v_taped v_at v_fault v_laid v_open v_statuses) sz) ((fun k : (Nat → Int32) => (wX5_orNone cI cJ cZ cS a_t a_s a_keptS a_statuses a_pile a_tape a_steps a_wish a_mark a_bitsOf a_sizeOf a_number a_moved v_isKept v_taped v_at v_fault v_laid v_open k)) kk')) 0 0 (va_A (wX5_orNone cI cJ cZ cS a_t a_s a_keptS a_statuses a_pile a_tape a_steps a_wish a_mark a_bitsOf a_sizeOf a_number a_moved v_isKept v_taped v_at v_fault v_laid v_open v_statuses) sz) := by
  refine q_enter (Qf := fun A => (q_Ri D rr A ((fun k : (Nat → Int32) => (wX5_orNone cI cJ cZ cS a_t a_s a_keptS a_statuses a_pile a_tape a_steps a_wish a_mark a_bitsOf a_sizeOf a_number a_moved v_isKept v_taped v_at v_fault v_laid v_open k)) kk'))) (by decide) rfl (Nat.le_of_ble_eq_true rfl) ?_
  intro p e s m below meth c A ls fx hname h hl
  have hx := fx.1
  have hb := fx.2.1
  have hl : lv_has ls 2 [(0, .ref a_t), (1, .int x1)] := hl
  generalize h9 : s.heap = H at h ⊢
  clear h9
  generalize h9 : ([] : List Loc) = locs at h ⊢
  clear h9
  unfold fX5_orNone at hf
  refine lv_iload_n hx hb dX5_orNone_0 rfl (lv_at hl 1 rfl) ?_
  refine lv_if_ge (tgt := 13) hx hb dX5_orNone_1 (by decide) (fun c1 => ?_) (fun c1 => ?_)
  · have hf := it_t c1 hf
    refine lv_iload_n hx hb dX5_orNone_13 rfl (lv_at hl 1 rfl) ?_
    exact q_reti (fun k : (Nat → Int32) => (wX5_orNone cI cJ cZ cS a_t a_s a_keptS a_statuses a_pile a_tape a_steps a_wish a_mark a_bitsOf a_sizeOf a_number a_moved v_isKept v_taped v_at v_fault v_laid v_open k)) fx hf h dX5_orNone_14
  have hf := it_f c1 hf
  refine lv_aload_n hx hb dX5_orNone_4 rfl (lv_at hl 0 rfl) ?_
  refine q_ldc fx k_864 dX5_orNone_5 ?_
  obtain ⟨r2, k2, hg, hf⟩ := bR_inv hf
  refine q_ci (rest := []) (ws' := (wX5_orNone cI cJ cZ cS a_t a_s a_keptS a_statuses a_pile a_tape a_steps a_wish a_mark a_bitsOf a_sizeOf a_number a_moved v_isKept v_taped v_at v_fault v_laid v_open k2)) (w1 := (wX5_finds cI cJ cZ cS a_t a_s a_keptS a_statuses a_pile a_tape a_steps a_wish a_mark a_bitsOf a_sizeOf a_number a_moved v_isKept v_taped v_at v_fault v_laid v_open k2)) fx h [0, 1] rfl rfl rfl rfl (q_runV fx h hl.1 [0, 1] rfl rfl (tX5_finds l D cI cJ cZ cS tb a_t a_s a_keptS a_statuses a_pile a_tape a_steps a_wish a_mark a_bitsOf a_sizeOf a_number a_moved H.size v_isKept v_taped v_at v_fault v_laid v_open v_statuses (-1000000004) r2 k2 hg) mvX5_finds k_702 ⟨rfl, rfl⟩ ⟨Nat.le_of_ble_eq_true rfl, Nat.le_of_ble_eq_true rfl⟩ rfl rfl rfl rfl (Nat.le_of_ble_eq_true rfl) dX5_orNone_7 ⟨Nat.le_of_ble_eq_true rfl, Nat.le_of_ble_eq_true rfl⟩) (fun H locs h => ?_)
  refine lv_goto (tgt := 14) hx hb dX5_orNone_10 (by decide) ?_
  exact q_reti (fun k : (Nat → Int32) => (wX5_orNone cI cJ cZ cS a_t a_s a_keptS a_statuses a_pile a_tape a_steps a_wish a_mark a_bitsOf a_sizeOf a_number a_moved v_isKept v_taped v_at v_fault v_laid v_open k)) fx hf h dX5_orNone_14
/-! X5_has -/
abbrev wX5_has (cI cJ cZ cS : ClassId) : va_W := []
abbrev rX5_has : Room := { frames := 0, cells := 0, slots := 0, locals := 0 }
def fX5_has (x0 : Int32) (x1 : Int32) : Option (Int32 × Unit) :=
  (if ((jshr x0 x1) &&& 1) = 1 then (
  some (1, ()))
  else (
  some (0, ())))
set_option maxRecDepth 100000 in
set_option maxHeartbeats 4000000 in
theorem tX5_has (l : Launch) (D : va_G) (cI cJ cZ cS : ClassId) (tb : Nat) (sz : Nat) (x0 : Int32) (x1 : Int32) (rr : Int32) (kk' : Unit) (hf : fX5_has x0 x1 = some (rr, kk')) : Met l yX5_has (Cond.code yX5_has cX5_has 2 (some .boolean) :: wA) rX5_has (q_Pre D cI cJ cZ cS tb [.int x0, .int x1] sz (wX5_has cI cJ cZ cS)) (q_Ri D rr (va_A (wX5_has cI cJ cZ cS) sz) ((fun k : Unit => (wX5_has cI cJ cZ cS)) kk')) 0 0 (va_A (wX5_has cI cJ cZ cS) sz) := by
  refine q_enter (Qf := fun A => (q_Ri D rr A ((fun k : Unit => (wX5_has cI cJ cZ cS)) kk'))) (by decide) rfl (Nat.le_of_ble_eq_true rfl) ?_
  intro p e s m below meth c A ls fx hname h hl
  have hx := fx.1
  have hb := fx.2.1
  have hl : lv_has ls 2 [(0, .int x0), (1, .int x1)] := hl
  generalize h9 : s.heap = H at h ⊢
  clear h9
  generalize h9 : ([] : List Loc) = locs at h ⊢
  clear h9
  unfold fX5_has at hf
  refine lv_iload_n hx hb dX5_has_0 rfl (lv_at hl 0 rfl) ?_
  refine lv_iload_n hx hb dX5_has_1 rfl (lv_at hl 1 rfl) ?_
  refine lv_ishr hx hb dX5_has_2 ?_
  refine lv_iconst (v := 1) hx hb dX5_has_3 (by decide) ?_
  refine lv_iand hx hb dX5_has_4 ?_
  refine lv_iconst (v := 1) hx hb dX5_has_5 (by decide) ?_
  refine lv_icmp_ne (tgt := 13) hx hb dX5_has_6 (by decide) (fun c1 => ?_) (fun c1 => ?_)
  · have hf := it_f c1 hf
    refine lv_iconst (v := 0) hx hb dX5_has_13 (by decide) ?_
    exact q_retz (fun k : Unit => (wX5_has cI cJ cZ cS)) fx rfl hf h dX5_has_14
  have hf := it_t c1 hf
  refine lv_iconst (v := 1) hx hb dX5_has_9 (by decide) ?_
  refine lv_goto (tgt := 14) hx hb dX5_has_10 (by decide) ?_
  exact q_retz (fun k : Unit => (wX5_has cI cJ cZ cS)) fx rfl hf h dX5_has_14
/-! X5_ones -/
abbrev wX5_ones (cI cJ cZ cS : ClassId) : va_W := []
abbrev rX5_ones : Room := { frames := 0, cells := 0, slots := 0, locals := 0 }
def fX5_ones_4 (ag4 : Int32 → Int32 → Option (Int32 × Unit)) (y1 : Int32) (y2 : Int32) : Option (Int32 × Unit) :=
  (if y2 = 0 then (
  some (y1, ()))
  else (
  nm (y1 + 1) (fun u2 =>
  nm (y2 &&& (y2 - 1)) (fun u3 =>
  ag4 u2 u3))))
set_option maxRecDepth 100000 in
set_option maxHeartbeats 4000000 in
theorem LX5_ones_4 {p : Program} {l : Launch} {e : Env} {s : State} {m : MethodId} {args : Array Value} {below : List Frame} {meth : Method} {c : Code} {D : va_G} {cI cJ cZ cS : ClassId} {tb : Nat} {A : Nat → Prop} {rr : Int32} {kk' : Unit} (fx : q_Fx p s m args meth c cX5_ones 3 RX5 (some .int) D cI cJ cZ cS tb A) {ag4 : Int32 → Int32 → Option (Int32 × Unit)} (hag4 : ∀ {y1 : Int32} {y2 : Int32} {H : Heap} {locs : List Loc} {ls : Array Slot}, q_H D A s (wX5_ones cI cJ cZ cS) H locs → lv_has ls 3 [(1, .int y1), (2, .int y2)] → ag4 y1 y2 = some (rr, kk') → W p l e rX5_ones s m args below meth c H locs 0 0 (MQ below (q_Ri D rr A ((fun k : Unit => (wX5_ones cI cJ cZ cS)) kk')) args s 0 0 A) (F0 m 4 ls [])) : ∀ {y1 : Int32} {y2 : Int32} {H : Heap} {locs : List Loc} {ls : Array Slot}, q_H D A s (wX5_ones cI cJ cZ cS) H locs → lv_has ls 3 [(1, .int y1), (2, .int y2)] → fX5_ones_4 ag4 y1 y2 = some (rr, kk') → W p l e rX5_ones s m args below meth c H locs 0 0 (MQ below (q_Ri D rr A ((fun k : Unit => (wX5_ones cI cJ cZ cS)) kk')) args s 0 0 A) (F0 m 4 ls []) := by
  intro y1 y2 H locs ls h hl hf
  have hx := fx.1
  have hb := fx.2.1
  unfold fX5_ones_4 at hf
  refine lv_iload_n hx hb dX5_ones_4 rfl (lv_at hl 1 rfl) ?_
  refine lv_if_eq (tgt := 20) hx hb dX5_ones_5 (by decide) (fun c1 => ?_) (fun c1 => ?_)
  · have hf := it_t c1 hf
    refine lv_iload_n hx hb dX5_ones_20 rfl (lv_at hl 0 rfl) ?_
    exact q_reti (fun k : Unit => (wX5_ones cI cJ cZ cS)) fx hf h dX5_ones_21
  have hf := it_f c1 hf
  obtain ⟨u2, eu2, hf⟩ := nm_inv hf
  refine lv_iinc (v := u2) (lv' := [(1, .int u2), (2, .int y2)]) hx hb dX5_ones_8 hl (k := 0) rfl (by rw [eu2]; rfl) (by decide) rfl (fun ls hl => ?_)
  refine lv_iload_n hx hb dX5_ones_11 rfl (lv_at hl 1 rfl) ?_
  refine lv_iload_n hx hb dX5_ones_12 rfl (lv_at hl 1 rfl) ?_
  refine lv_iconst (v := 1) hx hb dX5_ones_13 (by decide) ?_
  refine lv_isub hx hb dX5_ones_14 ?_
  refine lv_iand hx hb dX5_ones_15 ?_
  obtain ⟨u3, eu3, hf⟩ := nm_inv hf
  refine lv_eqi eu3 ?_
  refine lv_istore_n (lv' := [(2, .int u3), (1, .int u2)]) hx hb dX5_ones_16 rfl hl (by decide) rfl (fun ls hl => ?_)
  refine lv_goto (tgt := 4) hx hb dX5_ones_17 (by decide) ?_
  exact hag4 h (lv_sub hl [1, 0] rfl) hf
set_option maxRecDepth 100000 in
theorem EX5_ones_4 {p : Program} {l : Launch} {e : Env} {s : State} {m : MethodId} {args : Array Value} {below : List Frame} {meth : Method} {c : Code} {D : va_G} {cI cJ cZ cS : ClassId} {tb : Nat} {A : Nat → Prop} {rr : Int32} {kk' : Unit} (fx : q_Fx p s m args meth c cX5_ones 3 RX5 (some .int) D cI cJ cZ cS tb A) : ∀ (n : Nat), ∀ {y1 : Int32} {y2 : Int32} {H : Heap} {locs : List Loc} {ls : Array Slot}, q_H D A s (wX5_ones cI cJ cZ cS) H locs → lv_has ls 3 [(1, .int y1), (2, .int y2)] → ll2 (fX5_ones_4 ) n y1 y2 = some (rr, kk') → W p l e rX5_ones s m args below meth c H locs 0 0 (MQ below (q_Ri D rr A ((fun k : Unit => (wX5_ones cI cJ cZ cS)) kk')) args s 0 0 A) (F0 m 4 ls []) := by
  intro n
  induction n with
  | zero => intro y1 y2 H locs ls h hl hf; exact (ll2_z hf).elim
  | succ n ih => intro y1 y2 H locs ls h hl hf; exact LX5_ones_4 fx ih h hl (ll2_s hf)
def fX5_ones (x0 : Int32) : Option (Int32 × Unit) :=
  ll2 (fX5_ones_4 ) qF 0 x0
set_option maxRecDepth 100000 in
set_option maxHeartbeats 4000000 in
theorem tX5_ones (l : Launch) (D : va_G) (cI cJ cZ cS : ClassId) (tb : Nat) (sz : Nat) (x0 : Int32) (rr : Int32) (kk' : Unit) (hf : fX5_ones x0 = some (rr, kk')) : Met l yX5_ones (Cond.code yX5_ones cX5_ones 3 (some .int) :: wA) rX5_ones (q_Pre D cI cJ cZ cS tb [.int x0] sz (wX5_ones cI cJ cZ cS)) (q_Ri D rr (va_A (wX5_ones cI cJ cZ cS) sz) ((fun k : Unit => (wX5_ones cI cJ cZ cS)) kk')) 0 0 (va_A (wX5_ones cI cJ cZ cS) sz) := by
  refine q_enter (Qf := fun A => (q_Ri D rr A ((fun k : Unit => (wX5_ones cI cJ cZ cS)) kk'))) (by decide) rfl (Nat.le_of_ble_eq_true rfl) ?_
  intro p e s m below meth c A ls fx hname h hl
  have hx := fx.1
  have hb := fx.2.1
  have hl : lv_has ls 3 [(0, .int x0)] := hl
  generalize h9 : s.heap = H at h ⊢
  clear h9
  generalize h9 : ([] : List Loc) = locs at h ⊢
  clear h9
  unfold fX5_ones at hf
  refine lv_iconst (v := 0) hx hb dX5_ones_0 (by decide) ?_
  refine lv_istore_n (lv' := [(1, .int 0), (0, .int x0)]) hx hb dX5_ones_1 rfl hl (by decide) rfl (fun ls hl => ?_)
  refine lv_iload_n hx hb dX5_ones_2 rfl (lv_at hl 1 rfl) ?_
  refine lv_istore_n (lv' := [(2, .int x0), (1, .int 0), (0, .int x0)]) hx hb dX5_ones_3 rfl hl (by decide) rfl (fun ls hl => ?_)
  exact EX5_ones_4 fx qF h (lv_sub hl [1, 0] rfl) hf
/-! X5_isGuest -/
abbrev wX5_isGuest (cI cJ cZ cS : ClassId) (a_t a_s a_keptS a_statuses a_pile a_tape a_steps a_wish a_mark a_bitsOf a_sizeOf a_number a_moved : Nat) (v_isKept : Int32) (v_taped : Int32) (v_at : Int32) (v_fault : Int32) (v_laid : Int32) (v_open : Int32) (v_s : Nat → Int32) : va_W := [(a_t, .inr (5, [.ref a_s, .ref a_keptS, .ref a_statuses, .int v_isKept, .ref a_pile, .ref a_tape, .ref a_steps, .int v_taped, .int v_at, .int v_fault, .int v_laid, .int v_open, .ref a_wish, .ref a_mark, .ref a_bitsOf, .ref a_sizeOf, .ref a_number, .ref a_moved])), (a_s, .inl (cI, 538, .inl v_s))]
abbrev rX5_isGuest : Room := { frames := 1, cells := 0, slots := 0, locals := 25 }
def fX5_isGuest (v_s : Nat → Int32) (x1 : Int32) : Option (Int32 × Unit) :=
  bR (fX5_in (x1.toInt64) 0 (((v_s 0) - 1).toInt64)) (fun r1 k1 =>
  gB r1 (some (r1, ())))
set_option maxRecDepth 100000 in
set_option maxHeartbeats 4000000 in
theorem tX5_isGuest (l : Launch) (D : va_G) (cI cJ cZ cS : ClassId) (tb : Nat) (a_t a_s a_keptS a_statuses a_pile a_tape a_steps a_wish a_mark a_bitsOf a_sizeOf a_number a_moved : Nat) (sz : Nat) (v_isKept : Int32) (v_taped : Int32) (v_at : Int32) (v_fault : Int32) (v_laid : Int32) (v_open : Int32) (v_s : Nat → Int32) (x1 : Int32) (rr : Int32) (kk' : Unit) (hf : fX5_isGuest v_s x1 = some (rr, kk')) : Met l yX5_isGuest (Cond.code yX5_isGuest cX5_isGuest 2 (some .boolean) :: wA) rX5_isGuest (q_Pre D cI cJ cZ cS tb [.ref a_t, .int x1] sz (wX5_isGuest cI cJ cZ cS a_t a_s a_keptS a_statuses a_pile a_tape a_steps a_wish a_mark a_bitsOf a_sizeOf a_number a_moved v_isKept v_taped v_at v_fault v_laid v_open v_s)) (q_Ri D rr (va_A (wX5_isGuest cI cJ cZ cS a_t a_s a_keptS a_statuses a_pile a_tape a_steps a_wish a_mark a_bitsOf a_sizeOf a_number a_moved v_isKept v_taped v_at v_fault v_laid v_open v_s) sz) ((fun k : Unit => (wX5_isGuest cI cJ cZ cS a_t a_s a_keptS a_statuses a_pile a_tape a_steps a_wish a_mark a_bitsOf a_sizeOf a_number a_moved v_isKept v_taped v_at v_fault v_laid v_open v_s)) kk')) 0 0 (va_A (wX5_isGuest cI cJ cZ cS a_t a_s a_keptS a_statuses a_pile a_tape a_steps a_wish a_mark a_bitsOf a_sizeOf a_number a_moved v_isKept v_taped v_at v_fault v_laid v_open v_s) sz) := by
  refine q_enter (Qf := fun A => (q_Ri D rr A ((fun k : Unit => (wX5_isGuest cI cJ cZ cS a_t a_s a_keptS a_statuses a_pile a_tape a_steps a_wish a_mark a_bitsOf a_sizeOf a_number a_moved v_isKept v_taped v_at v_fault v_laid v_open v_s)) kk'))) (by decide) rfl (Nat.le_of_ble_eq_true rfl) ?_
  intro p e s m below meth c A ls fx hname h hl
  have hx := fx.1
  have hb := fx.2.1
  have hl : lv_has ls 2 [(0, .ref a_t), (1, .int x1)] := hl
  generalize h9 : s.heap = H at h ⊢
  clear h9
  generalize h9 : ([] : List Loc) = locs at h ⊢
  clear h9
  unfold fX5_isGuest at hf
  refine lv_iload_n hx hb dX5_isGuest_0 rfl (lv_at hl 1 rfl) ?_
  refine lv_i2l hx hb dX5_isGuest_1 rfl ?_
  refine lv_lconst (v := 0) hx hb dX5_isGuest_2 (by decide) ?_
  refine lv_aload_n hx hb dX5_isGuest_3 rfl (lv_at hl 0 rfl) ?_
  refine q_get (v := .ref a_s) fx inX5 h 0 rfl rfl 0 (by decide) k_636 rfl dX5_isGuest_4 ?_
  refine lv_iconst (v := 0) hx hb dX5_isGuest_7 (by decide) ?_
  refine q_ialdK fx h 1 rfl 0 (vinK (by decide)) (by decide) dX5_isGuest_8 ?_
  refine lv_iconst (v := 1) hx hb dX5_isGuest_9 (by decide) ?_
  refine lv_isub hx hb dX5_isGuest_10 ?_
  refine lv_i2l hx hb dX5_isGuest_11 rfl ?_
  obtain ⟨r1, k1, hg, hf⟩ := bR_inv hf
  refine q_ci (rest := []) (ws' := (wX5_isGuest cI cJ cZ cS a_t a_s a_keptS a_statuses a_pile a_tape a_steps a_wish a_mark a_bitsOf a_sizeOf a_number a_moved v_isKept v_taped v_at v_fault v_laid v_open v_s)) (w1 := (wX5_in cI cJ cZ cS)) fx h [] rfl rfl rfl rfl (q_runS fx h hl.1 [] rfl rfl (tX5_in l D cI cJ cZ cS tb H.size (x1.toInt64) 0 (((v_s 0) - 1).toInt64) r1 k1 hg) msX5_in k_697 ⟨rfl, rfl⟩ ⟨Nat.le_of_ble_eq_true rfl, Nat.le_of_ble_eq_true rfl⟩ rfl rfl (Nat.le_of_ble_eq_true rfl) dX5_isGuest_12 ⟨Nat.le_of_ble_eq_true rfl, Nat.le_of_ble_eq_true rfl⟩) (fun H locs h => ?_)
  obtain ⟨b2, hf⟩ := gB_inv hf
  exact q_retz (fun k : Unit => (wX5_isGuest cI cJ cZ cS a_t a_s a_keptS a_statuses a_pile a_tape a_steps a_wish a_mark a_bitsOf a_sizeOf a_number a_moved v_isKept v_taped v_at v_fault v_laid v_open v_s)) fx b2 hf h dX5_isGuest_15
/-! X5_its -/
abbrev wX5_its (cI cJ cZ cS : ClassId) (a_t a_s a_keptS a_statuses a_pile a_tape a_steps a_wish a_mark a_bitsOf a_sizeOf a_number a_moved : Nat) (v_isKept : Int32) (v_taped : Int32) (v_at : Int32) (v_fault : Int32) (v_laid : Int32) (v_open : Int32) (v_s : Nat → Int32) : va_W := [(a_t, .inr (5, [.ref a_s, .ref a_keptS, .ref a_statuses, .int v_isKept, .ref a_pile, .ref a_tape, .ref a_steps, .int v_taped, .int v_at, .int v_fault, .int v_laid, .int v_open, .ref a_wish, .ref a_mark, .ref a_bitsOf, .ref a_sizeOf, .ref a_number, .ref a_moved])), (a_s, .inl (cI, 538, .inl v_s))]
abbrev rX5_its : Room := { frames := 0, cells := 0, slots := 0, locals := 0 }
def fX5_its (v_s : Nat → Int32) (x1 : Int32) (x2 : Int32) : Option (Int32 × Unit) :=
  gIn ((2 + (3 * x1)) + x2) 538 (
  some (v_s ((2 + (3 * x1)) + x2).toNatClampNeg, ()))
set_option maxRecDepth 100000 in
set_option maxHeartbeats 4000000 in
theorem tX5_its (l : Launch) (D : va_G) (cI cJ cZ cS : ClassId) (tb : Nat) (a_t a_s a_keptS a_statuses a_pile a_tape a_steps a_wish a_mark a_bitsOf a_sizeOf a_number a_moved : Nat) (sz : Nat) (v_isKept : Int32) (v_taped : Int32) (v_at : Int32) (v_fault : Int32) (v_laid : Int32) (v_open : Int32) (v_s : Nat → Int32) (x1 : Int32) (x2 : Int32) (rr : Int32) (kk' : Unit) (hf : fX5_its v_s x1 x2 = some (rr, kk')) : Met l yX5_its (Cond.code yX5_its cX5_its 3 (some .int) :: wA) rX5_its (q_Pre D cI cJ cZ cS tb [.ref a_t, .int x1, .int x2] sz (wX5_its cI cJ cZ cS a_t a_s a_keptS a_statuses a_pile a_tape a_steps a_wish a_mark a_bitsOf a_sizeOf a_number a_moved v_isKept v_taped v_at v_fault v_laid v_open v_s)) (q_Ri D rr (va_A (wX5_its cI cJ cZ cS a_t a_s a_keptS a_statuses a_pile a_tape a_steps a_wish a_mark a_bitsOf a_sizeOf a_number a_moved v_isKept v_taped v_at v_fault v_laid v_open v_s) sz) ((fun k : Unit => (wX5_its cI cJ cZ cS a_t a_s a_keptS a_statuses a_pile a_tape a_steps a_wish a_mark a_bitsOf a_sizeOf a_number a_moved v_isKept v_taped v_at v_fault v_laid v_open v_s)) kk')) 0 0 (va_A (wX5_its cI cJ cZ cS a_t a_s a_keptS a_statuses a_pile a_tape a_steps a_wish a_mark a_bitsOf a_sizeOf a_number a_moved v_isKept v_taped v_at v_fault v_laid v_open v_s) sz) := by
  refine q_enter (Qf := fun A => (q_Ri D rr A ((fun k : Unit => (wX5_its cI cJ cZ cS a_t a_s a_keptS a_statuses a_pile a_tape a_steps a_wish a_mark a_bitsOf a_sizeOf a_number a_moved v_isKept v_taped v_at v_fault v_laid v_open v_s)) kk'))) (by decide) rfl (Nat.le_of_ble_eq_true rfl) ?_
  intro p e s m below meth c A ls fx hname h hl
  have hx := fx.1
  have hb := fx.2.1
  have hl : lv_has ls 3 [(0, .ref a_t), (1, .int x1), (2, .int x2)] := hl
  generalize h9 : s.heap = H at h ⊢
  clear h9
  generalize h9 : ([] : List Loc) = locs at h ⊢
  clear h9
  unfold fX5_its at hf
  refine lv_aload_n hx hb dX5_its_0 rfl (lv_at hl 0 rfl) ?_
  refine q_get (v := .ref a_s) fx inX5 h 0 rfl rfl 0 (by decide) k_636 rfl dX5_its_1 ?_
  refine lv_iconst (v := 2) hx hb dX5_its_4 (by decide) ?_
  refine lv_iconst (v := 3) hx hb dX5_its_5 (by decide) ?_
  refine lv_iload_n hx hb dX5_its_6 rfl (lv_at hl 1 rfl) ?_
  refine lv_imul hx hb dX5_its_7 ?_
  refine lv_iadd hx hb dX5_its_8 ?_
  refine lv_iload_n hx hb dX5_its_9 rfl (lv_at hl 2 rfl) ?_
  refine lv_iadd hx hb dX5_its_10 ?_
  obtain ⟨i1, hf⟩ := gIn_inv hf
  refine q_iald fx h 1 rfl i1 dX5_its_11 ?_
  exact q_reti (fun k : Unit => (wX5_its cI cJ cZ cS a_t a_s a_keptS a_statuses a_pile a_tape a_steps a_wish a_mark a_bitsOf a_sizeOf a_number a_moved v_isKept v_taped v_at v_fault v_laid v_open v_s)) fx hf h dX5_its_12
