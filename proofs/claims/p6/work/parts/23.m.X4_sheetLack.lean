/-! X4_sheetLack -/
abbrev wX4_sheetLack (cI cJ cZ cS : ClassId) (a_t a_party a_kept a_tape a_telephone a_sheets a_sheets0 a_sheets0_numbers a_sheets1 a_sheets1_numbers a_sheets2 a_sheets2_numbers a_sheets3 a_sheets3_numbers a_findings : Nat) (v_isKept : Int32) (v_sheets0_bits : Int32) (v_sheets0_size : Int32) (v_sheets1_bits : Int32) (v_sheets1_size : Int32) (v_sheets2_bits : Int32) (v_sheets2_size : Int32) (v_sheets3_bits : Int32) (v_sheets3_size : Int32) : va_W := [(a_t, .inr (4, [.ref a_party, .ref a_kept, .int v_isKept, .ref a_tape, .ref a_telephone, .ref a_sheets, .ref a_findings])), (a_sheets, .inl (cS, 4, .inr (.inr (.inr (.inr (q_sh a_sheets0 a_sheets1 a_sheets2 a_sheets3)))))), (a_sheets0, .inr (1, [.int v_sheets0_bits, .int v_sheets0_size, .ref a_sheets0_numbers])), (a_sheets1, .inr (1, [.int v_sheets1_bits, .int v_sheets1_size, .ref a_sheets1_numbers])), (a_sheets2, .inr (1, [.int v_sheets2_bits, .int v_sheets2_size, .ref a_sheets2_numbers])), (a_sheets3, .inr (1, [.int v_sheets3_bits, .int v_sheets3_size, .ref a_sheets3_numbers]))]
abbrev rX4_sheetLack : Room := { frames := 1, cells := 0, slots := 0, locals := 20 }
def fX4_sheetLack (v_sheets0_bits : Int32) (v_sheets1_bits : Int32) (v_sheets2_bits : Int32) (v_sheets3_bits : Int32) (x1 : Int32) : Option (Int32 × Unit) :=
  bR (fX4_isSheet x1) (fun r1 k1 =>
  (if r1 = 0 then (
  some ((-1000000001), ()))
  else (
  sel4 x1 (
  bR (fX1_isMissing v_sheets0_bits) (fun r4 k4 =>
  (if r4 = 0 then (
  some (0, ()))
  else (
  some ((-1000000006), ())))))
  (bR (fX1_isMissing v_sheets1_bits) (fun r6 k6 =>
  (if r6 = 0 then (
  some (0, ()))
  else (
  some ((-1000000006), ())))))
  (bR (fX1_isMissing v_sheets2_bits) (fun r8 k8 =>
  (if r8 = 0 then (
  some (0, ()))
  else (
  some ((-1000000006), ())))))
  (bR (fX1_isMissing v_sheets3_bits) (fun r10 k10 =>
  (if r10 = 0 then (
  some (0, ()))
  else (
  some ((-1000000006), ()))))))))
set_option maxRecDepth 100000 in
set_option maxHeartbeats 4000000 in
theorem tX4_sheetLack (l : Launch) (D : va_G) (cI cJ cZ cS : ClassId) (tb : Nat) (a_t a_party a_kept a_tape a_telephone a_sheets a_sheets0 a_sheets0_numbers a_sheets1 a_sheets1_numbers a_sheets2 a_sheets2_numbers a_sheets3 a_sheets3_numbers a_findings : Nat) (sz : Nat) (v_isKept : Int32) (v_sheets0_bits : Int32) (v_sheets0_size : Int32) (v_sheets1_bits : Int32) (v_sheets1_size : Int32) (v_sheets2_bits : Int32) (v_sheets2_size : Int32) (v_sheets3_bits : Int32) (v_sheets3_size : Int32) (x1 : Int32) (rr : Int32) (kk' : Unit) (hf : fX4_sheetLack v_sheets0_bits v_sheets1_bits v_sheets2_bits v_sheets3_bits x1 = some (rr, kk')) : Met l yX4_sheetLack (Cond.code yX4_sheetLack cX4_sheetLack 2 (some .int) :: wA) rX4_sheetLack (q_Pre D cI cJ cZ cS tb [.ref a_t, .int x1] sz (wX4_sheetLack cI cJ cZ cS a_t a_party a_kept a_tape a_telephone a_sheets a_sheets0 a_sheets0_numbers a_sheets1 a_sheets1_numbers a_sheets2 a_sheets2_numbers a_sheets3 a_sheets3_numbers a_findings v_isKept v_sheets0_bits v_sheets0_size v_sheets1_bits v_sheets1_size v_sheets2_bits v_sheets2_size v_sheets3_bits v_sheets3_size)) (q_Ri D rr (va_A (wX4_sheetLack cI cJ cZ cS a_t a_party a_kept a_tape a_telephone a_sheets a_sheets0 a_sheets0_numbers a_sheets1 a_sheets1_numbers a_sheets2 a_sheets2_numbers a_sheets3 a_sheets3_numbers a_findings v_isKept v_sheets0_bits v_sheets0_size v_sheets1_bits v_sheets1_size v_sheets2_bits v_sheets2_size v_sheets3_bits v_sheets3_size) sz) ((fun k : Unit => (wX4_sheetLack cI cJ cZ cS a_t a_party a_kept a_tape a_telephone a_sheets a_sheets0 a_sheets0_numbers a_sheets1 a_sheets1_numbers a_sheets2 a_sheets2_numbers a_sheets3 a_sheets3_numbers a_findings v_isKept v_sheets0_bits v_sheets0_size v_sheets1_bits v_sheets1_size v_sheets2_bits v_sheets2_size v_sheets3_bits v_sheets3_size)) kk')) 0 0 (va_A (wX4_sheetLack cI cJ cZ cS a_t a_party a_kept a_tape a_telephone a_sheets a_sheets0 a_sheets0_numbers a_sheets1 a_sheets1_numbers a_sheets2 a_sheets2_numbers a_sheets3 a_sheets3_numbers a_findings v_isKept v_sheets0_bits v_sheets0_size v_sheets1_bits v_sheets1_size v_sheets2_bits v_sheets2_size v_sheets3_bits v_sheets3_size) sz) := by
  refine q_enter (Qf := fun A => (q_Ri D rr A ((fun k : Unit => (wX4_sheetLack cI cJ cZ cS a_t a_party a_kept a_tape a_telephone a_sheets a_sheets0 a_sheets0_numbers a_sheets1 a_sheets1_numbers a_sheets2 a_sheets2_numbers a_sheets3 a_sheets3_numbers a_findings v_isKept v_sheets0_bits v_sheets0_size v_sheets1_bits v_sheets1_size v_sheets2_bits v_sheets2_size v_sheets3_bits v_sheets3_size)) kk'))) (by decide) rfl (Nat.le_of_ble_eq_true rfl) ?_
  intro p e s m below meth c A ls fx hname h hl
  have hx := fx.1
  have hb := fx.2.1
  have hl : lv_has ls 2 [(0, .ref a_t), (1, .int x1)] := hl
  generalize h9 : s.heap = H at h ⊢
  clear h9
  generalize h9 : ([] : List Loc) = locs at h ⊢
  clear h9
  unfold fX4_sheetLack at hf
  refine lv_iload_n hx hb dX4_sheetLack_0 rfl (lv_at hl 1 rfl) ?_
  obtain ⟨r1, k1, hg, hf⟩ := bR_inv hf
  refine q_ci (rest := []) (ws' := (wX4_sheetLack cI cJ cZ cS a_t a_party a_kept a_tape a_telephone a_sheets a_sheets0 a_sheets0_numbers a_sheets1 a_sheets1_numbers a_sheets2 a_sheets2_numbers a_sheets3 a_sheets3_numbers a_findings v_isKept v_sheets0_bits v_sheets0_size v_sheets1_bits v_sheets1_size v_sheets2_bits v_sheets2_size v_sheets3_bits v_sheets3_size)) (w1 := (wX4_isSheet cI cJ cZ cS)) fx h [] rfl rfl rfl rfl (q_runS fx h hl.1 [] rfl rfl (tX4_isSheet l D cI cJ cZ cS tb H.size x1 r1 k1 hg) msX4_isSheet k_536 ⟨rfl, rfl⟩ ⟨Nat.le_of_ble_eq_true rfl, Nat.le_of_ble_eq_true rfl⟩ rfl rfl (Nat.le_of_ble_eq_true rfl) dX4_sheetLack_1 ⟨Nat.le_of_ble_eq_true rfl, Nat.le_of_ble_eq_true rfl⟩) (fun H locs h => ?_)
  refine lv_if_ne (tgt := 10) hx hb dX4_sheetLack_4 (by decide) (fun c2 => ?_) (fun c2 => ?_)
  · have hf := it_f c2 hf
    refine lv_aload_n hx hb dX4_sheetLack_10 rfl (lv_at hl 0 rfl) ?_
    refine q_get (v := .ref a_sheets) fx inX4 h 0 rfl rfl 5 (by decide) k_179 rfl dX4_sheetLack_11 ?_
    refine lv_iload_n hx hb dX4_sheetLack_14 rfl (lv_at hl 1 rfl) ?_
    rcases sel4_inv hf with ⟨c3, hf⟩ | ⟨c3, hf⟩ | ⟨c3, hf⟩ | ⟨c3, hf⟩
    · refine q_aald (v := a_sheets0) fx h 1 rfl c3 (vinK (by decide)) rfl dX4_sheetLack_15 ?_
      obtain ⟨r4, k4, hg, hf⟩ := bR_inv hf
      refine q_ci (rest := []) (ws' := (wX4_sheetLack cI cJ cZ cS a_t a_party a_kept a_tape a_telephone a_sheets a_sheets0 a_sheets0_numbers a_sheets1 a_sheets1_numbers a_sheets2 a_sheets2_numbers a_sheets3 a_sheets3_numbers a_findings v_isKept v_sheets0_bits v_sheets0_size v_sheets1_bits v_sheets1_size v_sheets2_bits v_sheets2_size v_sheets3_bits v_sheets3_size)) (w1 := (wX1_isMissing cI cJ cZ cS a_sheets0 a_sheets0_numbers v_sheets0_bits v_sheets0_size)) fx h [2] rfl rfl rfl rfl (q_runV fx h hl.1 [2] rfl rfl (tX1_isMissing l D cI cJ cZ cS tb a_sheets0 a_sheets0_numbers H.size v_sheets0_bits v_sheets0_size r4 k4 hg) mvX1_isMissing k_553 ⟨rfl, rfl⟩ ⟨Nat.le_of_ble_eq_true rfl, Nat.le_of_ble_eq_true rfl⟩ rfl rfl rfl rfl (Nat.le_of_ble_eq_true rfl) dX4_sheetLack_16 ⟨Nat.le_of_ble_eq_true rfl, Nat.le_of_ble_eq_true rfl⟩) (fun H locs h => ?_)
      refine lv_if_eq (tgt := 27) hx hb dX4_sheetLack_19 (by decide) (fun c5 => ?_) (fun c5 => ?_)
      · have hf := it_t c5 hf
        refine lv_iconst (v := 0) hx hb dX4_sheetLack_27 (by decide) ?_
        exact q_reti (fun k : Unit => (wX4_sheetLack cI cJ cZ cS a_t a_party a_kept a_tape a_telephone a_sheets a_sheets0 a_sheets0_numbers a_sheets1 a_sheets1_numbers a_sheets2 a_sheets2_numbers a_sheets3 a_sheets3_numbers a_findings v_isKept v_sheets0_bits v_sheets0_size v_sheets1_bits v_sheets1_size v_sheets2_bits v_sheets2_size v_sheets3_bits v_sheets3_size)) fx hf h dX4_sheetLack_28
      have hf := it_f c5 hf
      refine q_ldc fx k_557 dX4_sheetLack_22 ?_
      refine lv_goto (tgt := 28) hx hb dX4_sheetLack_24 (by decide) ?_
      exact q_reti (fun k : Unit => (wX4_sheetLack cI cJ cZ cS a_t a_party a_kept a_tape a_telephone a_sheets a_sheets0 a_sheets0_numbers a_sheets1 a_sheets1_numbers a_sheets2 a_sheets2_numbers a_sheets3 a_sheets3_numbers a_findings v_isKept v_sheets0_bits v_sheets0_size v_sheets1_bits v_sheets1_size v_sheets2_bits v_sheets2_size v_sheets3_bits v_sheets3_size)) fx hf h dX4_sheetLack_28
    · refine q_aald (v := a_sheets1) fx h 1 rfl c3 (vinK (by decide)) rfl dX4_sheetLack_15 ?_
      obtain ⟨r6, k6, hg, hf⟩ := bR_inv hf
      refine q_ci (rest := []) (ws' := (wX4_sheetLack cI cJ cZ cS a_t a_party a_kept a_tape a_telephone a_sheets a_sheets0 a_sheets0_numbers a_sheets1 a_sheets1_numbers a_sheets2 a_sheets2_numbers a_sheets3 a_sheets3_numbers a_findings v_isKept v_sheets0_bits v_sheets0_size v_sheets1_bits v_sheets1_size v_sheets2_bits v_sheets2_size v_sheets3_bits v_sheets3_size)) (w1 := (wX1_isMissing cI cJ cZ cS a_sheets1 a_sheets1_numbers v_sheets1_bits v_sheets1_size)) fx h [3] rfl rfl rfl rfl (q_runV fx h hl.1 [3] rfl rfl (tX1_isMissing l D cI cJ cZ cS tb a_sheets1 a_sheets1_numbers H.size v_sheets1_bits v_sheets1_size r6 k6 hg) mvX1_isMissing k_553 ⟨rfl, rfl⟩ ⟨Nat.le_of_ble_eq_true rfl, Nat.le_of_ble_eq_true rfl⟩ rfl rfl rfl rfl (Nat.le_of_ble_eq_true rfl) dX4_sheetLack_16 ⟨Nat.le_of_ble_eq_true rfl, Nat.le_of_ble_eq_true rfl⟩) (fun H locs h => ?_)
      refine lv_if_eq (tgt := 27) hx hb dX4_sheetLack_19 (by decide) (fun c7 => ?_) (fun c7 => ?_)
      · have hf := it_t c7 hf
        refine lv_iconst (v := 0) hx hb dX4_sheetLack_27 (by decide) ?_
        exact q_reti (fun k : Unit => (wX4_sheetLack cI cJ cZ cS a_t a_party a_kept a_tape a_telephone a_sheets a_sheets0 a_sheets0_numbers a_sheets1 a_sheets1_numbers a_sheets2 a_sheets2_numbers a_sheets3 a_sheets3_numbers a_findings v_isKept v_sheets0_bits v_sheets0_size v_sheets1_bits v_sheets1_size v_sheets2_bits v_sheets2_size v_sheets3_bits v_sheets3_size)) fx hf h dX4_sheetLack_28
      have hf := it_f c7 hf
      refine q_ldc fx k_557 dX4_sheetLack_22 ?_
      refine lv_goto (tgt := 28) hx hb dX4_sheetLack_24 (by decide) ?_
      exact q_reti (fun k : Unit => (wX4_sheetLack cI cJ cZ cS a_t a_party a_kept a_tape a_telephone a_sheets a_sheets0 a_sheets0_numbers a_sheets1 a_sheets1_numbers a_sheets2 a_sheets2_numbers a_sheets3 a_sheets3_numbers a_findings v_isKept v_sheets0_bits v_sheets0_size v_sheets1_bits v_sheets1_size v_sheets2_bits v_sheets2_size v_sheets3_bits v_sheets3_size)) fx hf h dX4_sheetLack_28
    · refine q_aald (v := a_sheets2) fx h 1 rfl c3 (vinK (by decide)) rfl dX4_sheetLack_15 ?_
      obtain ⟨r8, k8, hg, hf⟩ := bR_inv hf
      refine q_ci (rest := []) (ws' := (wX4_sheetLack cI cJ cZ cS a_t a_party a_kept a_tape a_telephone a_sheets a_sheets0 a_sheets0_numbers a_sheets1 a_sheets1_numbers a_sheets2 a_sheets2_numbers a_sheets3 a_sheets3_numbers a_findings v_isKept v_sheets0_bits v_sheets0_size v_sheets1_bits v_sheets1_size v_sheets2_bits v_sheets2_size v_sheets3_bits v_sheets3_size)) (w1 := (wX1_isMissing cI cJ cZ cS a_sheets2 a_sheets2_numbers v_sheets2_bits v_sheets2_size)) fx h [4] rfl rfl rfl rfl (q_runV fx h hl.1 [4] rfl rfl (tX1_isMissing l D cI cJ cZ cS tb a_sheets2 a_sheets2_numbers H.size v_sheets2_bits v_sheets2_size r8 k8 hg) mvX1_isMissing k_553 ⟨rfl, rfl⟩ ⟨Nat.le_of_ble_eq_true rfl, Nat.le_of_ble_eq_true rfl⟩ rfl rfl rfl rfl (Nat.le_of_ble_eq_true rfl) dX4_sheetLack_16 ⟨Nat.le_of_ble_eq_true rfl, Nat.le_of_ble_eq_true rfl⟩) (fun H locs h => ?_)
      refine lv_if_eq (tgt := 27) hx hb dX4_sheetLack_19 (by decide) (fun c9 => ?_) (fun c9 => ?_)
      · have hf := it_t c9 hf
        refine lv_iconst (v := 0) hx hb dX4_sheetLack_27 (by decide) ?_
        exact q_reti (fun k : Unit => (wX4_sheetLack cI cJ cZ cS a_t a_party a_kept a_tape a_telephone a_sheets a_sheets0 a_sheets0_numbers a_sheets1 a_sheets1_numbers a_sheets2 a_sheets2_numbers a_sheets3 a_sheets3_numbers a_findings v_isKept v_sheets0_bits v_sheets0_size v_sheets1_bits v_sheets1_size v_sheets2_bits v_sheets2_size v_sheets3_bits v_sheets3_size)) fx hf h dX4_sheetLack_28
      have hf := it_f c9 hf
      refine q_ldc fx k_557 dX4_sheetLack_22 ?_
      refine lv_goto (tgt := 28) hx hb dX4_sheetLack_24 (by decide) ?_
      exact q_reti (fun k : Unit => (wX4_sheetLack cI cJ cZ cS a_t a_party a_kept a_tape a_telephone a_sheets a_sheets0 a_sheets0_numbers a_sheets1 a_sheets1_numbers a_sheets2 a_sheets2_numbers a_sheets3 a_sheets3_numbers a_findings v_isKept v_sheets0_bits v_sheets0_size v_sheets1_bits v_sheets1_size v_sheets2_bits v_sheets2_size v_sheets3_bits v_sheets3_size)) fx hf h dX4_sheetLack_28
    · refine q_aald (v := a_sheets3) fx h 1 rfl c3 (vinK (by decide)) rfl dX4_sheetLack_15 ?_
      obtain ⟨r10, k10, hg, hf⟩ := bR_inv hf
      refine q_ci (rest := []) (ws' := (wX4_sheetLack cI cJ cZ cS a_t a_party a_kept a_tape a_telephone a_sheets a_sheets0 a_sheets0_numbers a_sheets1 a_sheets1_numbers a_sheets2 a_sheets2_numbers a_sheets3 a_sheets3_numbers a_findings v_isKept v_sheets0_bits v_sheets0_size v_sheets1_bits v_sheets1_size v_sheets2_bits v_sheets2_size v_sheets3_bits v_sheets3_size)) (w1 := (wX1_isMissing cI cJ cZ cS a_sheets3 a_sheets3_numbers v_sheets3_bits v_sheets3_size)) fx h [5] rfl rfl rfl rfl (q_runV fx h hl.1 [5] rfl rfl (tX1_isMissing l D cI cJ cZ cS tb a_sheets3 a_sheets3_numbers H.size v_sheets3_bits v_sheets3_size r10 k10 hg) mvX1_isMissing k_553 ⟨rfl, rfl⟩ ⟨Nat.le_of_ble_eq_true rfl, Nat.le_of_ble_eq_true rfl⟩ rfl rfl rfl rfl (Nat.le_of_ble_eq_true rfl) dX4_sheetLack_16 ⟨Nat.le_of_ble_eq_true rfl, Nat.le_of_ble_eq_true rfl⟩) (fun H locs h => ?_)
      refine lv_if_eq (tgt := 27) hx hb dX4_sheetLack_19 (by decide) (fun c11 => ?_) (fun c11 => ?_)
      · have hf := it_t c11 hf
        refine lv_iconst (v := 0) hx hb dX4_sheetLack_27 (by decide) ?_
        exact q_reti (fun k : Unit => (wX4_sheetLack cI cJ cZ cS a_t a_party a_kept a_tape a_telephone a_sheets a_sheets0 a_sheets0_numbers a_sheets1 a_sheets1_numbers a_sheets2 a_sheets2_numbers a_sheets3 a_sheets3_numbers a_findings v_isKept v_sheets0_bits v_sheets0_size v_sheets1_bits v_sheets1_size v_sheets2_bits v_sheets2_size v_sheets3_bits v_sheets3_size)) fx hf h dX4_sheetLack_28
      have hf := it_f c11 hf
      refine q_ldc fx k_557 dX4_sheetLack_22 ?_
      refine lv_goto (tgt := 28) hx hb dX4_sheetLack_24 (by decide) ?_
      exact q_reti (fun k : Unit => (wX4_sheetLack cI cJ cZ cS a_t a_party a_kept a_tape a_telephone a_sheets a_sheets0 a_sheets0_numbers a_sheets1 a_sheets1_numbers a_sheets2 a_sheets2_numbers a_sheets3 a_sheets3_numbers a_findings v_isKept v_sheets0_bits v_sheets0_size v_sheets1_bits v_sheets1_size v_sheets2_bits v_sheets2_size v_sheets3_bits v_sheets3_size)) fx hf h dX4_sheetLack_28
  have hf := it_t c2 hf
  refine q_ldc fx k_206 dX4_sheetLack_7 ?_
  exact q_reti (fun k : Unit => (wX4_sheetLack cI cJ cZ cS a_t a_party a_kept a_tape a_telephone a_sheets a_sheets0 a_sheets0_numbers a_sheets1 a_sheets1_numbers a_sheets2 a_sheets2_numbers a_sheets3 a_sheets3_numbers a_findings v_isKept v_sheets0_bits v_sheets0_size v_sheets1_bits v_sheets1_size v_sheets2_bits v_sheets2_size v_sheets3_bits v_sheets3_size)) fx hf h dX4_sheetLack_9
/-! X1_put -/
abbrev wX1_put (cI cJ cZ cS : ClassId) (a_t a_numbers : Nat) (v_bits : Int32) (v_size : Int32) (v_numbers : Nat → Int64) : va_W := [(a_t, .inr (1, [.int v_bits, .int v_size, .ref a_numbers])), (a_numbers, .inl (cJ, 40, .inr (.inl v_numbers)))]
abbrev rX1_put : Room := { frames := 0, cells := 0, slots := 0, locals := 0 }
def fX1_put_46 (v_bits : Int32) (v_numbers : Nat → Int64) (s1 : Int32) (s2 : Int64) (y4 : Int64) : Option (Int64 × (Nat → Int64)) :=
  gIn s1 40 (
  some (y4, (vp_updL v_numbers s1.toNatClampNeg s2)))
set_option maxRecDepth 100000 in
set_option maxHeartbeats 4000000 in
theorem LX1_put_46 {p : Program} {l : Launch} {e : Env} {s : State} {m : MethodId} {args : Array Value} {below : List Frame} {meth : Method} {c : Code} {D : va_G} {cI cJ cZ cS : ClassId} {tb : Nat} {A : Nat → Prop} {a_t a_numbers : Nat} {v_bits : Int32} {v_size : Int32} {rr : Int64} {kk' : (Nat → Int64)} (fx : q_Fx p s m args meth c cX1_put 6 RX1 (some .long) D cI cJ cZ cS tb A) : ∀ {v_numbers : Nat → Int64} {s1 : Int32} {s2 : Int64} {y4 : Int64} {H : Heap} {locs : List Loc} {ls : Array Slot}, q_H D A s (wX1_put cI cJ cZ cS a_t a_numbers v_bits v_size v_numbers) H locs → lv_has ls 6 [(4, .long y4)] → fX1_put_46 v_bits v_numbers s1 s2 y4 = some (rr, kk') → W p l e rX1_put s m args below meth c H locs 0 0 (MQ below (q_Rl D rr A ((fun k : (Nat → Int64) => (wX1_put cI cJ cZ cS a_t a_numbers v_bits v_size k)) kk')) args s 0 0 A) (F0 m 46 ls [.long s2, .int s1, .ref a_numbers]) := by
  intro v_numbers s1 s2 y4 H locs ls h hl hf
  have hx := fx.1
  have hb := fx.2.1
  unfold fX1_put_46 at hf
  obtain ⟨i1, hf⟩ := gIn_inv hf
  refine q_last (ws' := (wX1_put cI cJ cZ cS a_t a_numbers v_bits v_size (vp_updL v_numbers s1.toNatClampNeg s2))) fx h 1 rfl i1 rfl dX1_put_46 (fun H locs h => ?_)
  refine lv_lload hx hb dX1_put_47 (lv_at hl 0 rfl) ?_
  exact q_retl (fun k : (Nat → Int64) => (wX1_put cI cJ cZ cS a_t a_numbers v_bits v_size k)) fx hf h dX1_put_49
def fX1_put (v_bits : Int32) (v_numbers : Nat → Int64) (x1 : Int32) (x2 : Int64) : Option (Int64 × (Nat → Int64)) :=
  gIn x1 40 (
  nm (v_numbers x1.toNatClampNeg) (fun u3 =>
  (if v_bits = 8 then (
  fX1_put_46 v_bits v_numbers x1 (((x2.toInt32).toInt8.toInt32).toInt64) u3)
  else (
  (if v_bits = 16 then (
  fX1_put_46 v_bits v_numbers x1 (((x2.toInt32).toInt16.toInt32).toInt64) u3)
  else (
  fX1_put_46 v_bits v_numbers x1 x2 u3))))))
set_option maxRecDepth 100000 in
set_option maxHeartbeats 4000000 in
theorem tX1_put (l : Launch) (D : va_G) (cI cJ cZ cS : ClassId) (tb : Nat) (a_t a_numbers : Nat) (sz : Nat) (v_bits : Int32) (v_size : Int32) (v_numbers : Nat → Int64) (x1 : Int32) (x2 : Int64) (rr : Int64) (kk' : (Nat → Int64)) (hf : fX1_put v_bits v_numbers x1 x2 = some (rr, kk')) : Met l yX1_put (Cond.code yX1_put cX1_put 6 (some .long) :: wA) rX1_put (q_Pre D cI cJ cZ cS tb [.ref a_t, .int x1, .long x2] sz (wX1_put cI cJ cZ cS a_t a_numbers v_bits v_size v_numbers)) (q_Rl D rr (va_A (wX1_put cI cJ cZ cS a_t a_numbers v_bits v_size v_numbers) sz) ((fun k : (Nat → Int64) => (wX1_put cI cJ cZ cS a_t a_numbers v_bits v_size k)) kk')) 0 0 (va_A (wX1_put cI cJ cZ cS a_t a_numbers v_bits v_size v_numbers) sz) := by
  refine q_enter (Qf := fun A => (q_Rl D rr A ((fun k : (Nat → Int64) => (wX1_put cI cJ cZ cS a_t a_numbers v_bits v_size k)) kk'))) (by decide) rfl (Nat.le_of_ble_eq_true rfl) ?_
  intro p e s m below meth c A ls fx hname h hl
  have hx := fx.1
  have hb := fx.2.1
  have hl : lv_has ls 6 [(0, .ref a_t), (1, .int x1), (2, .long x2)] := hl
  generalize h9 : s.heap = H at h ⊢
  clear h9
  generalize h9 : ([] : List Loc) = locs at h ⊢
  clear h9
  unfold fX1_put at hf
  refine lv_aload_n hx hb dX1_put_0 rfl (lv_at hl 0 rfl) ?_
  refine q_get (v := .ref a_numbers) fx inX1 h 0 rfl rfl 2 (by decide) k_165 rfl dX1_put_1 ?_
  refine lv_iload_n hx hb dX1_put_4 rfl (lv_at hl 1 rfl) ?_
  obtain ⟨i2, hf⟩ := gIn_inv hf
  refine q_lald fx h 1 rfl i2 dX1_put_5 ?_
  obtain ⟨u3, eu3, hf⟩ := nm_inv hf
  refine lv_eql eu3 ?_
  refine lv_lstore (lv' := [(4, .long u3), (0, .ref a_t), (1, .int x1), (2, .long x2)]) hx hb dX1_put_6 hl (by decide) rfl (fun ls hl => ?_)
  refine lv_aload_n hx hb dX1_put_8 rfl (lv_at hl 1 rfl) ?_
  refine q_get (v := .ref a_numbers) fx inX1 h 0 rfl rfl 2 (by decide) k_165 rfl dX1_put_9 ?_
  refine lv_iload_n hx hb dX1_put_12 rfl (lv_at hl 2 rfl) ?_
  refine lv_aload_n hx hb dX1_put_13 rfl (lv_at hl 1 rfl) ?_
  refine q_get (v := .int v_bits) fx inX1 h 0 rfl rfl 0 (by decide) k_161 rfl dX1_put_14 ?_
  refine lv_bipush (v := 8) hx hb dX1_put_17 (by decide) ?_
  refine lv_icmp_ne (tgt := 29) hx hb dX1_put_19 (by decide) (fun c4 => ?_) (fun c4 => ?_)
  · have hf := it_f c4 hf
    refine lv_aload_n hx hb dX1_put_29 rfl (lv_at hl 1 rfl) ?_
    refine q_get (v := .int v_bits) fx inX1 h 0 rfl rfl 0 (by decide) k_161 rfl dX1_put_30 ?_
    refine lv_bipush (v := 16) hx hb dX1_put_33 (by decide) ?_
    refine lv_icmp_ne (tgt := 45) hx hb dX1_put_35 (by decide) (fun c5 => ?_) (fun c5 => ?_)
    · have hf := it_f c5 hf
      refine lv_lload_n hx hb dX1_put_45 rfl (lv_at hl 3 rfl) ?_
      exact LX1_put_46 fx h (lv_sub hl [0] rfl) hf
    have hf := it_t c5 hf
    refine lv_lload_n hx hb dX1_put_38 rfl (lv_at hl 3 rfl) ?_
    refine lv_l2i hx hb dX1_put_39 rfl ?_
    refine lv_i2s hx hb dX1_put_40 rfl ?_
    refine lv_i2l hx hb dX1_put_41 rfl ?_
    refine lv_goto (tgt := 46) hx hb dX1_put_42 (by decide) ?_
    exact LX1_put_46 fx h (lv_sub hl [0] rfl) hf
  have hf := it_t c4 hf
  refine lv_lload_n hx hb dX1_put_22 rfl (lv_at hl 3 rfl) ?_
  refine lv_l2i hx hb dX1_put_23 rfl ?_
  refine lv_i2b hx hb dX1_put_24 rfl ?_
  refine lv_i2l hx hb dX1_put_25 rfl ?_
  refine lv_goto (tgt := 46) hx hb dX1_put_26 (by decide) ?_
  exact LX1_put_46 fx h (lv_sub hl [0] rfl) hf
/-! X4_write -/
abbrev wX4_write (cI cJ cZ cS : ClassId) (a_t a_party a_kept a_tape a_telephone a_sheets a_sheets0 a_sheets0_numbers a_sheets1 a_sheets1_numbers a_sheets2 a_sheets2_numbers a_sheets3 a_sheets3_numbers a_findings : Nat) (v_isKept : Int32) (v_sheets0_bits : Int32) (v_sheets0_size : Int32) (v_sheets0_numbers : Nat → Int64) (v_sheets1_bits : Int32) (v_sheets1_size : Int32) (v_sheets1_numbers : Nat → Int64) (v_sheets2_bits : Int32) (v_sheets2_size : Int32) (v_sheets2_numbers : Nat → Int64) (v_sheets3_bits : Int32) (v_sheets3_size : Int32) (v_sheets3_numbers : Nat → Int64) (v_findings : Nat → Int32) : va_W := [(a_t, .inr (4, [.ref a_party, .ref a_kept, .int v_isKept, .ref a_tape, .ref a_telephone, .ref a_sheets, .ref a_findings])), (a_sheets, .inl (cS, 4, .inr (.inr (.inr (.inr (q_sh a_sheets0 a_sheets1 a_sheets2 a_sheets3)))))), (a_sheets0, .inr (1, [.int v_sheets0_bits, .int v_sheets0_size, .ref a_sheets0_numbers])), (a_sheets0_numbers, .inl (cJ, 40, .inr (.inl v_sheets0_numbers))), (a_sheets1, .inr (1, [.int v_sheets1_bits, .int v_sheets1_size, .ref a_sheets1_numbers])), (a_sheets1_numbers, .inl (cJ, 40, .inr (.inl v_sheets1_numbers))), (a_sheets2, .inr (1, [.int v_sheets2_bits, .int v_sheets2_size, .ref a_sheets2_numbers])), (a_sheets2_numbers, .inl (cJ, 40, .inr (.inl v_sheets2_numbers))), (a_sheets3, .inr (1, [.int v_sheets3_bits, .int v_sheets3_size, .ref a_sheets3_numbers])), (a_sheets3_numbers, .inl (cJ, 40, .inr (.inl v_sheets3_numbers))), (a_findings, .inl (cI, 7, .inl v_findings))]
abbrev rX4_write : Room := { frames := 2, cells := 0, slots := 0, locals := 41 }
def fX4_write_37 (v_sheets0_bits : Int32) (v_sheets0_size : Int32) (v_sheets1_bits : Int32) (v_sheets1_size : Int32) (v_sheets2_bits : Int32) (v_sheets2_size : Int32) (v_sheets3_bits : Int32) (v_sheets3_size : Int32) (v_sheets0_numbers : Nat → Int64) (v_sheets1_numbers : Nat → Int64) (v_sheets2_numbers : Nat → Int64) (v_sheets3_numbers : Nat → Int64) (v_findings : Nat → Int32) : Option (Int64 × (Nat → Int64) × (Nat → Int64) × (Nat → Int64) × (Nat → Int64) × (Nat → Int32)) :=
  bR (fX4_found v_findings (-1000000001)) (fun r1 k1 =>
  some (r1.toInt64, (v_sheets0_numbers, v_sheets1_numbers, v_sheets2_numbers, v_sheets3_numbers, k1)))
set_option maxRecDepth 100000 in
set_option maxHeartbeats 4000000 in
theorem LX4_write_37 {p : Program} {l : Launch} {e : Env} {s : State} {m : MethodId} {args : Array Value} {below : List Frame} {meth : Method} {c : Code} {D : va_G} {cI cJ cZ cS : ClassId} {tb : Nat} {A : Nat → Prop} {a_t a_party a_kept a_tape a_telephone a_sheets a_sheets0 a_sheets0_numbers a_sheets1 a_sheets1_numbers a_sheets2 a_sheets2_numbers a_sheets3 a_sheets3_numbers a_findings : Nat} {v_isKept : Int32} {v_sheets0_bits : Int32} {v_sheets0_size : Int32} {v_sheets1_bits : Int32} {v_sheets1_size : Int32} {v_sheets2_bits : Int32} {v_sheets2_size : Int32} {v_sheets3_bits : Int32} {v_sheets3_size : Int32} {rr : Int64} {kk' : (Nat → Int64) × (Nat → Int64) × (Nat → Int64) × (Nat → Int64) × (Nat → Int32)} (fx : q_Fx p s m args meth c cX4_write 6 RX4 (some .long) D cI cJ cZ cS tb A) : ∀ {v_sheets0_numbers : Nat → Int64} {v_sheets1_numbers : Nat → Int64} {v_sheets2_numbers : Nat → Int64} {v_sheets3_numbers : Nat → Int64} {v_findings : Nat → Int32} {H : Heap} {locs : List Loc} {ls : Array Slot}, q_H D A s (wX4_write cI cJ cZ cS a_t a_party a_kept a_tape a_telephone a_sheets a_sheets0 a_sheets0_numbers a_sheets1 a_sheets1_numbers a_sheets2 a_sheets2_numbers a_sheets3 a_sheets3_numbers a_findings v_isKept v_sheets0_bits v_sheets0_size v_sheets0_numbers v_sheets1_bits v_sheets1_size v_sheets1_numbers v_sheets2_bits v_sheets2_size v_sheets2_numbers v_sheets3_bits v_sheets3_size v_sheets3_numbers v_findings) H locs → lv_has ls 6 [(0, .ref a_t)] → fX4_write_37 v_sheets0_bits v_sheets0_size v_sheets1_bits v_sheets1_size v_sheets2_bits v_sheets2_size v_sheets3_bits v_sheets3_size v_sheets0_numbers v_sheets1_numbers v_sheets2_numbers v_sheets3_numbers v_findings = some (rr, kk') → W p l e rX4_write s m args below meth c H locs 0 0 (MQ below (q_Rl D rr A ((fun k : (Nat → Int64) × (Nat → Int64) × (Nat → Int64) × (Nat → Int64) × (Nat → Int32) => (wX4_write cI cJ cZ cS a_t a_party a_kept a_tape a_telephone a_sheets a_sheets0 a_sheets0_numbers a_sheets1 a_sheets1_numbers a_sheets2 a_sheets2_numbers a_sheets3 a_sheets3_numbers a_findings v_isKept v_sheets0_bits v_sheets0_size k.1 v_sheets1_bits v_sheets1_size k.2.1 v_sheets2_bits v_sheets2_size k.2.2.1 v_sheets3_bits v_sheets3_size k.2.2.2.1 k.2.2.2.2)) kk')) args s 0 0 A) (F0 m 37 ls []) := by
  intro v_sheets0_numbers v_sheets1_numbers v_sheets2_numbers v_sheets3_numbers v_findings H locs ls h hl hf
  have hx := fx.1
  have hb := fx.2.1
  unfold fX4_write_37 at hf
  refine lv_aload_n hx hb dX4_write_37 rfl (lv_at hl 0 rfl) ?_
  refine q_ldc fx k_206 dX4_write_38 ?_
  obtain ⟨r1, k1, hg, hf⟩ := bR_inv hf
  refine q_ci (rest := []) (ws' := (wX4_write cI cJ cZ cS a_t a_party a_kept a_tape a_telephone a_sheets a_sheets0 a_sheets0_numbers a_sheets1 a_sheets1_numbers a_sheets2 a_sheets2_numbers a_sheets3 a_sheets3_numbers a_findings v_isKept v_sheets0_bits v_sheets0_size v_sheets0_numbers v_sheets1_bits v_sheets1_size v_sheets1_numbers v_sheets2_bits v_sheets2_size v_sheets2_numbers v_sheets3_bits v_sheets3_size v_sheets3_numbers k1)) (w1 := (wX4_found cI cJ cZ cS a_t a_party a_kept a_tape a_telephone a_sheets a_findings v_isKept k1)) fx h [0, 10] rfl rfl rfl rfl (q_runV fx h hl.1 [0, 10] rfl rfl (tX4_found l D cI cJ cZ cS tb a_t a_party a_kept a_tape a_telephone a_sheets a_findings H.size v_isKept v_findings (-1000000001) r1 k1 hg) mvX4_found k_207 ⟨rfl, rfl⟩ ⟨Nat.le_of_ble_eq_true rfl, Nat.le_of_ble_eq_true rfl⟩ rfl rfl rfl rfl (Nat.le_of_ble_eq_true rfl) dX4_write_40 ⟨Nat.le_of_ble_eq_true rfl, Nat.le_of_ble_eq_true rfl⟩) (fun H locs h => ?_)
  refine lv_i2l hx hb dX4_write_43 rfl ?_
  exact q_retl (fun k : (Nat → Int64) × (Nat → Int64) × (Nat → Int64) × (Nat → Int64) × (Nat → Int32) => (wX4_write cI cJ cZ cS a_t a_party a_kept a_tape a_telephone a_sheets a_sheets0 a_sheets0_numbers a_sheets1 a_sheets1_numbers a_sheets2 a_sheets2_numbers a_sheets3 a_sheets3_numbers a_findings v_isKept v_sheets0_bits v_sheets0_size k.1 v_sheets1_bits v_sheets1_size k.2.1 v_sheets2_bits v_sheets2_size k.2.2.1 v_sheets3_bits v_sheets3_size k.2.2.2.1 k.2.2.2.2)) fx hf h dX4_write_44
def fX4_write (v_sheets0_bits : Int32) (v_sheets0_size : Int32) (v_sheets0_numbers : Nat → Int64) (v_sheets1_bits : Int32) (v_sheets1_size : Int32) (v_sheets1_numbers : Nat → Int64) (v_sheets2_bits : Int32) (v_sheets2_size : Int32) (v_sheets2_numbers : Nat → Int64) (v_sheets3_bits : Int32) (v_sheets3_size : Int32) (v_sheets3_numbers : Nat → Int64) (v_findings : Nat → Int32) (x1 : Int32) (x2 : Int32) (x3 : Int64) : Option (Int64 × (Nat → Int64) × (Nat → Int64) × (Nat → Int64) × (Nat → Int64) × (Nat → Int32)) :=
  bR (fX4_sheetLack v_sheets0_bits v_sheets1_bits v_sheets2_bits v_sheets3_bits x1) (fun r2 k2 =>
  (if r2 = 0 then (
  (if x2 < 0 then (
  fX4_write_37 v_sheets0_bits v_sheets0_size v_sheets1_bits v_sheets1_size v_sheets2_bits v_sheets2_size v_sheets3_bits v_sheets3_size v_sheets0_numbers v_sheets1_numbers v_sheets2_numbers v_sheets3_numbers v_findings)
  else (
  sel4 x1 (
  (if x2 < v_sheets0_size then (
  bR (fX1_put v_sheets0_bits v_sheets0_numbers x2 x3) (fun r7 k7 =>
  some (r7, (k7, v_sheets1_numbers, v_sheets2_numbers, v_sheets3_numbers, v_findings))))
  else (
  fX4_write_37 v_sheets0_bits v_sheets0_size v_sheets1_bits v_sheets1_size v_sheets2_bits v_sheets2_size v_sheets3_bits v_sheets3_size v_sheets0_numbers v_sheets1_numbers v_sheets2_numbers v_sheets3_numbers v_findings)))
  ((if x2 < v_sheets1_size then (
  bR (fX1_put v_sheets1_bits v_sheets1_numbers x2 x3) (fun r9 k9 =>
  some (r9, (v_sheets0_numbers, k9, v_sheets2_numbers, v_sheets3_numbers, v_findings))))
  else (
  fX4_write_37 v_sheets0_bits v_sheets0_size v_sheets1_bits v_sheets1_size v_sheets2_bits v_sheets2_size v_sheets3_bits v_sheets3_size v_sheets0_numbers v_sheets1_numbers v_sheets2_numbers v_sheets3_numbers v_findings)))
  ((if x2 < v_sheets2_size then (
  bR (fX1_put v_sheets2_bits v_sheets2_numbers x2 x3) (fun r11 k11 =>
  some (r11, (v_sheets0_numbers, v_sheets1_numbers, k11, v_sheets3_numbers, v_findings))))
  else (
  fX4_write_37 v_sheets0_bits v_sheets0_size v_sheets1_bits v_sheets1_size v_sheets2_bits v_sheets2_size v_sheets3_bits v_sheets3_size v_sheets0_numbers v_sheets1_numbers v_sheets2_numbers v_sheets3_numbers v_findings)))
  ((if x2 < v_sheets3_size then (
  bR (fX1_put v_sheets3_bits v_sheets3_numbers x2 x3) (fun r13 k13 =>
  some (r13, (v_sheets0_numbers, v_sheets1_numbers, v_sheets2_numbers, k13, v_findings))))
  else (
  fX4_write_37 v_sheets0_bits v_sheets0_size v_sheets1_bits v_sheets1_size v_sheets2_bits v_sheets2_size v_sheets3_bits v_sheets3_size v_sheets0_numbers v_sheets1_numbers v_sheets2_numbers v_sheets3_numbers v_findings))))))
  else (
  bR (fX4_found v_findings r2) (fun r14 k14 =>
  some (r14.toInt64, (v_sheets0_numbers, v_sheets1_numbers, v_sheets2_numbers, v_sheets3_numbers, k14))))))
set_option maxRecDepth 100000 in
set_option maxHeartbeats 4000000 in
theorem tX4_write (l : Launch) (D : va_G) (cI cJ cZ cS : ClassId) (tb : Nat) (a_t a_party a_kept a_tape a_telephone a_sheets a_sheets0 a_sheets0_numbers a_sheets1 a_sheets1_numbers a_sheets2 a_sheets2_numbers a_sheets3 a_sheets3_numbers a_findings : Nat) (sz : Nat) (v_isKept : Int32) (v_sheets0_bits : Int32) (v_sheets0_size : Int32) (v_sheets0_numbers : Nat → Int64) (v_sheets1_bits : Int32) (v_sheets1_size : Int32) (v_sheets1_numbers : Nat → Int64) (v_sheets2_bits : Int32) (v_sheets2_size : Int32) (v_sheets2_numbers : Nat → Int64) (v_sheets3_bits : Int32) (v_sheets3_size : Int32) (v_sheets3_numbers : Nat → Int64) (v_findings : Nat → Int32) (x1 : Int32) (x2 : Int32) (x3 : Int64) (rr : Int64) (kk' : (Nat → Int64) × (Nat → Int64) × (Nat → Int64) × (Nat → Int64) × (Nat → Int32)) (hf : fX4_write v_sheets0_bits v_sheets0_size v_sheets0_numbers v_sheets1_bits v_sheets1_size v_sheets1_numbers v_sheets2_bits v_sheets2_size v_sheets2_numbers v_sheets3_bits v_sheets3_size v_sheets3_numbers v_findings x1 x2 x3 = some (rr, kk')) : Met l yX4_write (Cond.code yX4_write cX4_write 6 (some .long) :: wA) rX4_write (q_Pre D cI cJ cZ cS tb [.ref a_t, .int x1, .int x2, .long x3] sz (wX4_write cI cJ cZ cS a_t a_party a_kept a_tape a_telephone a_sheets a_sheets0 a_sheets0_numbers a_sheets1 a_sheets1_numbers a_sheets2 a_sheets2_numbers a_sheets3 a_sheets3_numbers a_findings v_isKept v_sheets0_bits v_sheets0_size v_sheets0_numbers v_sheets1_bits v_sheets1_size v_sheets1_numbers v_sheets2_bits v_sheets2_size v_sheets2_numbers v_sheets3_bits v_sheets3_size v_sheets3_numbers v_findings)) (q_Rl D rr (va_A (wX4_write cI cJ cZ cS a_t a_party a_kept a_tape a_telephone a_sheets a_sheets0 a_sheets0_numbers a_sheets1 a_sheets1_numbers a_sheets2 a_sheets2_numbers a_sheets3 a_sheets3_numbers a_findings v_isKept v_sheets0_bits v_sheets0_size v_sheets0_numbers v_sheets1_bits v_sheets1_size v_sheets1_numbers v_sheets2_bits v_sheets2_size v_sheets2_numbers v_sheets3_bits v_sheets3_size v_sheets3_numbers v_findings) sz) ((fun k : (Nat → Int64) × (Nat → Int64) × (Nat → Int64) × (Nat → Int64) × (Nat → Int32) => (wX4_write cI cJ cZ cS a_t a_party a_kept a_tape a_telephone a_sheets a_sheets0 a_sheets0_numbers a_sheets1 a_sheets1_numbers a_sheets2 a_sheets2_numbers a_sheets3 a_sheets3_numbers a_findings v_isKept v_sheets0_bits v_sheets0_size k.1 v_sheets1_bits v_sheets1_size k.2.1 v_sheets2_bits v_sheets2_size k.2.2.1 v_sheets3_bits v_sheets3_size k.2.2.2.1 k.2.2.2.2)) kk')) 0 0 (va_A (wX4_write cI cJ cZ cS a_t a_party a_kept a_tape a_telephone a_sheets a_sheets0 a_sheets0_numbers a_sheets1 a_sheets1_numbers a_sheets2 a_sheets2_numbers a_sheets3 a_sheets3_numbers a_findings v_isKept v_sheets0_bits v_sheets0_size v_sheets0_numbers v_sheets1_bits v_sheets1_size v_sheets1_numbers v_sheets2_bits v_sheets2_size v_sheets2_numbers v_sheets3_bits v_sheets3_size v_sheets3_numbers v_findings) sz) := by
  refine q_enter (Qf := fun A => (q_Rl D rr A ((fun k : (Nat → Int64) × (Nat → Int64) × (Nat → Int64) × (Nat → Int64) × (Nat → Int32) => (wX4_write cI cJ cZ cS a_t a_party a_kept a_tape a_telephone a_sheets a_sheets0 a_sheets0_numbers a_sheets1 a_sheets1_numbers a_sheets2 a_sheets2_numbers a_sheets3 a_sheets3_numbers a_findings v_isKept v_sheets0_bits v_sheets0_size k.1 v_sheets1_bits v_sheets1_size k.2.1 v_sheets2_bits v_sheets2_size k.2.2.1 v_sheets3_bits v_sheets3_size k.2.2.2.1 k.2.2.2.2)) kk'))) (by decide) rfl (Nat.le_of_ble_eq_true rfl) ?_
  intro p e s m below meth c A ls fx hname h hl
  have hx := fx.1
  have hb := fx.2.1
  have hl : lv_has ls 6 [(0, .ref a_t), (1, .int x1), (2, .int x2), (3, .long x3)] := hl
  generalize h9 : s.heap = H at h ⊢
  clear h9
  generalize h9 : ([] : List Loc) = locs at h ⊢
  clear h9
  unfold fX4_write at hf
  refine lv_aload_n hx hb dX4_write_0 rfl (lv_at hl 0 rfl) ?_
  refine lv_iload_n hx hb dX4_write_1 rfl (lv_at hl 1 rfl) ?_
  obtain ⟨r2, k2, hg, hf⟩ := bR_inv hf
  refine q_ci (rest := []) (ws' := (wX4_write cI cJ cZ cS a_t a_party a_kept a_tape a_telephone a_sheets a_sheets0 a_sheets0_numbers a_sheets1 a_sheets1_numbers a_sheets2 a_sheets2_numbers a_sheets3 a_sheets3_numbers a_findings v_isKept v_sheets0_bits v_sheets0_size v_sheets0_numbers v_sheets1_bits v_sheets1_size v_sheets1_numbers v_sheets2_bits v_sheets2_size v_sheets2_numbers v_sheets3_bits v_sheets3_size v_sheets3_numbers v_findings)) (w1 := (wX4_sheetLack cI cJ cZ cS a_t a_party a_kept a_tape a_telephone a_sheets a_sheets0 a_sheets0_numbers a_sheets1 a_sheets1_numbers a_sheets2 a_sheets2_numbers a_sheets3 a_sheets3_numbers a_findings v_isKept v_sheets0_bits v_sheets0_size v_sheets1_bits v_sheets1_size v_sheets2_bits v_sheets2_size v_sheets3_bits v_sheets3_size)) fx h [0, 1, 2, 4, 6, 8] rfl rfl rfl rfl (q_runV fx h hl.1 [0, 1, 2, 4, 6, 8] rfl rfl (tX4_sheetLack l D cI cJ cZ cS tb a_t a_party a_kept a_tape a_telephone a_sheets a_sheets0 a_sheets0_numbers a_sheets1 a_sheets1_numbers a_sheets2 a_sheets2_numbers a_sheets3 a_sheets3_numbers a_findings H.size v_isKept v_sheets0_bits v_sheets0_size v_sheets1_bits v_sheets1_size v_sheets2_bits v_sheets2_size v_sheets3_bits v_sheets3_size x1 r2 k2 hg) mvX4_sheetLack k_549 ⟨rfl, rfl⟩ ⟨Nat.le_of_ble_eq_true rfl, Nat.le_of_ble_eq_true rfl⟩ rfl rfl rfl rfl (Nat.le_of_ble_eq_true rfl) dX4_write_2 ⟨Nat.le_of_ble_eq_true rfl, Nat.le_of_ble_eq_true rfl⟩) (fun H locs h => ?_)
  refine lv_istore (lv' := [(5, .int r2), (0, .ref a_t), (1, .int x1), (2, .int x2), (3, .long x3)]) hx hb dX4_write_5 hl (by decide) rfl (fun ls hl => ?_)
  refine lv_iload hx hb dX4_write_7 (lv_at hl 0 rfl) ?_
  refine lv_if_eq (tgt := 20) hx hb dX4_write_9 (by decide) (fun c3 => ?_) (fun c3 => ?_)
  · have hf := it_t c3 hf
    refine lv_iload_n hx hb dX4_write_20 rfl (lv_at hl 3 rfl) ?_
    refine lv_if_lt (tgt := 37) hx hb dX4_write_21 (by decide) (fun c4 => ?_) (fun c4 => ?_)
    · have hf := it_t c4 hf
      exact LX4_write_37 fx h (lv_sub hl [1] rfl) hf
    have hf := it_f c4 hf
    refine lv_iload_n hx hb dX4_write_24 rfl (lv_at hl 3 rfl) ?_
    refine lv_aload_n hx hb dX4_write_25 rfl (lv_at hl 1 rfl) ?_
    refine q_get (v := .ref a_sheets) fx inX4 h 0 rfl rfl 5 (by decide) k_179 rfl dX4_write_26 ?_
    refine lv_iload_n hx hb dX4_write_29 rfl (lv_at hl 2 rfl) ?_
    rcases sel4_inv hf with ⟨c5, hf⟩ | ⟨c5, hf⟩ | ⟨c5, hf⟩ | ⟨c5, hf⟩
    · refine q_aald (v := a_sheets0) fx h 1 rfl c5 (vinK (by decide)) rfl dX4_write_30 ?_
      refine q_getN (v := .int v_sheets0_size) fx inX1 h 2 rfl rfl 1 (by decide) nf_10 rfl dX4_write_31 ?_
      refine lv_icmp_lt (tgt := 45) hx hb dX4_write_34 (by decide) (fun c6 => ?_) (fun c6 => ?_)
      · have hf := it_t c6 hf
        refine lv_aload_n hx hb dX4_write_45 rfl (lv_at hl 1 rfl) ?_
        refine q_get (v := .ref a_sheets) fx inX4 h 0 rfl rfl 5 (by decide) k_179 rfl dX4_write_46 ?_
        refine lv_iload_n hx hb dX4_write_49 rfl (lv_at hl 2 rfl) ?_
        refine q_aald (v := a_sheets0) fx h 1 rfl c5 (vinK (by decide)) rfl dX4_write_50 ?_
        refine lv_iload_n hx hb dX4_write_51 rfl (lv_at hl 3 rfl) ?_
        refine lv_lload_n hx hb dX4_write_52 rfl (lv_at hl 4 rfl) ?_
        obtain ⟨r7, k7, hg, hf⟩ := bR_inv hf
        refine q_cl (rest := []) (ws' := (wX4_write cI cJ cZ cS a_t a_party a_kept a_tape a_telephone a_sheets a_sheets0 a_sheets0_numbers a_sheets1 a_sheets1_numbers a_sheets2 a_sheets2_numbers a_sheets3 a_sheets3_numbers a_findings v_isKept v_sheets0_bits v_sheets0_size k7 v_sheets1_bits v_sheets1_size v_sheets1_numbers v_sheets2_bits v_sheets2_size v_sheets2_numbers v_sheets3_bits v_sheets3_size v_sheets3_numbers v_findings)) (w1 := (wX1_put cI cJ cZ cS a_sheets0 a_sheets0_numbers v_sheets0_bits v_sheets0_size k7)) fx h [2, 3] rfl rfl rfl rfl (q_runV fx h hl.1 [2, 3] rfl rfl (tX1_put l D cI cJ cZ cS tb a_sheets0 a_sheets0_numbers H.size v_sheets0_bits v_sheets0_size v_sheets0_numbers x2 x3 r7 k7 hg) mvX1_put k_558 ⟨rfl, rfl⟩ ⟨Nat.le_of_ble_eq_true rfl, Nat.le_of_ble_eq_true rfl⟩ rfl rfl rfl rfl (Nat.le_of_ble_eq_true rfl) dX4_write_53 ⟨Nat.le_of_ble_eq_true rfl, Nat.le_of_ble_eq_true rfl⟩) (fun H locs h => ?_)
        exact q_retl (fun k : (Nat → Int64) × (Nat → Int64) × (Nat → Int64) × (Nat → Int64) × (Nat → Int32) => (wX4_write cI cJ cZ cS a_t a_party a_kept a_tape a_telephone a_sheets a_sheets0 a_sheets0_numbers a_sheets1 a_sheets1_numbers a_sheets2 a_sheets2_numbers a_sheets3 a_sheets3_numbers a_findings v_isKept v_sheets0_bits v_sheets0_size k.1 v_sheets1_bits v_sheets1_size k.2.1 v_sheets2_bits v_sheets2_size k.2.2.1 v_sheets3_bits v_sheets3_size k.2.2.2.1 k.2.2.2.2)) fx hf h dX4_write_56
      have hf := it_f c6 hf
      exact LX4_write_37 fx h (lv_sub hl [1] rfl) hf
    · refine q_aald (v := a_sheets1) fx h 1 rfl c5 (vinK (by decide)) rfl dX4_write_30 ?_
      refine q_getN (v := .int v_sheets1_size) fx inX1 h 4 rfl rfl 1 (by decide) nf_10 rfl dX4_write_31 ?_
      refine lv_icmp_lt (tgt := 45) hx hb dX4_write_34 (by decide) (fun c8 => ?_) (fun c8 => ?_)
      · have hf := it_t c8 hf
        refine lv_aload_n hx hb dX4_write_45 rfl (lv_at hl 1 rfl) ?_
        refine q_get (v := .ref a_sheets) fx inX4 h 0 rfl rfl 5 (by decide) k_179 rfl dX4_write_46 ?_
        refine lv_iload_n hx hb dX4_write_49 rfl (lv_at hl 2 rfl) ?_
        refine q_aald (v := a_sheets1) fx h 1 rfl c5 (vinK (by decide)) rfl dX4_write_50 ?_
        refine lv_iload_n hx hb dX4_write_51 rfl (lv_at hl 3 rfl) ?_
        refine lv_lload_n hx hb dX4_write_52 rfl (lv_at hl 4 rfl) ?_
        obtain ⟨r9, k9, hg, hf⟩ := bR_inv hf
        refine q_cl (rest := []) (ws' := (wX4_write cI cJ cZ cS a_t a_party a_kept a_tape a_telephone a_sheets a_sheets0 a_sheets0_numbers a_sheets1 a_sheets1_numbers a_sheets2 a_sheets2_numbers a_sheets3 a_sheets3_numbers a_findings v_isKept v_sheets0_bits v_sheets0_size v_sheets0_numbers v_sheets1_bits v_sheets1_size k9 v_sheets2_bits v_sheets2_size v_sheets2_numbers v_sheets3_bits v_sheets3_size v_sheets3_numbers v_findings)) (w1 := (wX1_put cI cJ cZ cS a_sheets1 a_sheets1_numbers v_sheets1_bits v_sheets1_size k9)) fx h [4, 5] rfl rfl rfl rfl (q_runV fx h hl.1 [4, 5] rfl rfl (tX1_put l D cI cJ cZ cS tb a_sheets1 a_sheets1_numbers H.size v_sheets1_bits v_sheets1_size v_sheets1_numbers x2 x3 r9 k9 hg) mvX1_put k_558 ⟨rfl, rfl⟩ ⟨Nat.le_of_ble_eq_true rfl, Nat.le_of_ble_eq_true rfl⟩ rfl rfl rfl rfl (Nat.le_of_ble_eq_true rfl) dX4_write_53 ⟨Nat.le_of_ble_eq_true rfl, Nat.le_of_ble_eq_true rfl⟩) (fun H locs h => ?_)
        exact q_retl (fun k : (Nat → Int64) × (Nat → Int64) × (Nat → Int64) × (Nat → Int64) × (Nat → Int32) => (wX4_write cI cJ cZ cS a_t a_party a_kept a_tape a_telephone a_sheets a_sheets0 a_sheets0_numbers a_sheets1 a_sheets1_numbers a_sheets2 a_sheets2_numbers a_sheets3 a_sheets3_numbers a_findings v_isKept v_sheets0_bits v_sheets0_size k.1 v_sheets1_bits v_sheets1_size k.2.1 v_sheets2_bits v_sheets2_size k.2.2.1 v_sheets3_bits v_sheets3_size k.2.2.2.1 k.2.2.2.2)) fx hf h dX4_write_56
      have hf := it_f c8 hf
      exact LX4_write_37 fx h (lv_sub hl [1] rfl) hf
    · refine q_aald (v := a_sheets2) fx h 1 rfl c5 (vinK (by decide)) rfl dX4_write_30 ?_
      refine q_getN (v := .int v_sheets2_size) fx inX1 h 6 rfl rfl 1 (by decide) nf_10 rfl dX4_write_31 ?_
      refine lv_icmp_lt (tgt := 45) hx hb dX4_write_34 (by decide) (fun c10 => ?_) (fun c10 => ?_)
      · have hf := it_t c10 hf
        refine lv_aload_n hx hb dX4_write_45 rfl (lv_at hl 1 rfl) ?_
        refine q_get (v := .ref a_sheets) fx inX4 h 0 rfl rfl 5 (by decide) k_179 rfl dX4_write_46 ?_
        refine lv_iload_n hx hb dX4_write_49 rfl (lv_at hl 2 rfl) ?_
        refine q_aald (v := a_sheets2) fx h 1 rfl c5 (vinK (by decide)) rfl dX4_write_50 ?_
        refine lv_iload_n hx hb dX4_write_51 rfl (lv_at hl 3 rfl) ?_
        refine lv_lload_n hx hb dX4_write_52 rfl (lv_at hl 4 rfl) ?_
        obtain ⟨r11, k11, hg, hf⟩ := bR_inv hf
        refine q_cl (rest := []) (ws' := (wX4_write cI cJ cZ cS a_t a_party a_kept a_tape a_telephone a_sheets a_sheets0 a_sheets0_numbers a_sheets1 a_sheets1_numbers a_sheets2 a_sheets2_numbers a_sheets3 a_sheets3_numbers a_findings v_isKept v_sheets0_bits v_sheets0_size v_sheets0_numbers v_sheets1_bits v_sheets1_size v_sheets1_numbers v_sheets2_bits v_sheets2_size k11 v_sheets3_bits v_sheets3_size v_sheets3_numbers v_findings)) (w1 := (wX1_put cI cJ cZ cS a_sheets2 a_sheets2_numbers v_sheets2_bits v_sheets2_size k11)) fx h [6, 7] rfl rfl rfl rfl (q_runV fx h hl.1 [6, 7] rfl rfl (tX1_put l D cI cJ cZ cS tb a_sheets2 a_sheets2_numbers H.size v_sheets2_bits v_sheets2_size v_sheets2_numbers x2 x3 r11 k11 hg) mvX1_put k_558 ⟨rfl, rfl⟩ ⟨Nat.le_of_ble_eq_true rfl, Nat.le_of_ble_eq_true rfl⟩ rfl rfl rfl rfl (Nat.le_of_ble_eq_true rfl) dX4_write_53 ⟨Nat.le_of_ble_eq_true rfl, Nat.le_of_ble_eq_true rfl⟩) (fun H locs h => ?_)
        exact q_retl (fun k : (Nat → Int64) × (Nat → Int64) × (Nat → Int64) × (Nat → Int64) × (Nat → Int32) => (wX4_write cI cJ cZ cS a_t a_party a_kept a_tape a_telephone a_sheets a_sheets0 a_sheets0_numbers a_sheets1 a_sheets1_numbers a_sheets2 a_sheets2_numbers a_sheets3 a_sheets3_numbers a_findings v_isKept v_sheets0_bits v_sheets0_size k.1 v_sheets1_bits v_sheets1_size k.2.1 v_sheets2_bits v_sheets2_size k.2.2.1 v_sheets3_bits v_sheets3_size k.2.2.2.1 k.2.2.2.2)) fx hf h dX4_write_56
      have hf := it_f c10 hf
      exact LX4_write_37 fx h (lv_sub hl [1] rfl) hf
    · refine q_aald (v := a_sheets3) fx h 1 rfl c5 (vinK (by decide)) rfl dX4_write_30 ?_
      refine q_getN (v := .int v_sheets3_size) fx inX1 h 8 rfl rfl 1 (by decide) nf_10 rfl dX4_write_31 ?_
      refine lv_icmp_lt (tgt := 45) hx hb dX4_write_34 (by decide) (fun c12 => ?_) (fun c12 => ?_)
      · have hf := it_t c12 hf
        refine lv_aload_n hx hb dX4_write_45 rfl (lv_at hl 1 rfl) ?_
        refine q_get (v := .ref a_sheets) fx inX4 h 0 rfl rfl 5 (by decide) k_179 rfl dX4_write_46 ?_
        refine lv_iload_n hx hb dX4_write_49 rfl (lv_at hl 2 rfl) ?_
        refine q_aald (v := a_sheets3) fx h 1 rfl c5 (vinK (by decide)) rfl dX4_write_50 ?_
        refine lv_iload_n hx hb dX4_write_51 rfl (lv_at hl 3 rfl) ?_
        refine lv_lload_n hx hb dX4_write_52 rfl (lv_at hl 4 rfl) ?_
        obtain ⟨r13, k13, hg, hf⟩ := bR_inv hf
        refine q_cl (rest := []) (ws' := (wX4_write cI cJ cZ cS a_t a_party a_kept a_tape a_telephone a_sheets a_sheets0 a_sheets0_numbers a_sheets1 a_sheets1_numbers a_sheets2 a_sheets2_numbers a_sheets3 a_sheets3_numbers a_findings v_isKept v_sheets0_bits v_sheets0_size v_sheets0_numbers v_sheets1_bits v_sheets1_size v_sheets1_numbers v_sheets2_bits v_sheets2_size v_sheets2_numbers v_sheets3_bits v_sheets3_size k13 v_findings)) (w1 := (wX1_put cI cJ cZ cS a_sheets3 a_sheets3_numbers v_sheets3_bits v_sheets3_size k13)) fx h [8, 9] rfl rfl rfl rfl (q_runV fx h hl.1 [8, 9] rfl rfl (tX1_put l D cI cJ cZ cS tb a_sheets3 a_sheets3_numbers H.size v_sheets3_bits v_sheets3_size v_sheets3_numbers x2 x3 r13 k13 hg) mvX1_put k_558 ⟨rfl, rfl⟩ ⟨Nat.le_of_ble_eq_true rfl, Nat.le_of_ble_eq_true rfl⟩ rfl rfl rfl rfl (Nat.le_of_ble_eq_true rfl) dX4_write_53 ⟨Nat.le_of_ble_eq_true rfl, Nat.le_of_ble_eq_true rfl⟩) (fun H locs h => ?_)
        exact q_retl (fun k : (Nat → Int64) × (Nat → Int64) × (Nat → Int64) × (Nat → Int64) × (Nat → Int32) => (wX4_write cI cJ cZ cS a_t a_party a_kept a_tape a_telephone a_sheets a_sheets0 a_sheets0_numbers a_sheets1 a_sheets1_numbers a_sheets2 a_sheets2_numbers a_sheets3 a_sheets3_numbers a_findings v_isKept v_sheets0_bits v_sheets0_size k.1 v_sheets1_bits v_sheets1_size k.2.1 v_sheets2_bits v_sheets2_size k.2.2.1 v_sheets3_bits v_sheets3_size k.2.2.2.1 k.2.2.2.2)) fx hf h dX4_write_56
      have hf := it_f c12 hf
      exact LX4_write_37 fx h (lv_sub hl [1] rfl) hf
  have hf := it_f c3 hf
  refine lv_aload_n hx hb dX4_write_12 rfl (lv_at hl 1 rfl) ?_
  refine lv_iload hx hb dX4_write_13 (lv_at hl 0 rfl) ?_
  obtain ⟨r14, k14, hg, hf⟩ := bR_inv hf
  refine q_ci (rest := []) (ws' := (wX4_write cI cJ cZ cS a_t a_party a_kept a_tape a_telephone a_sheets a_sheets0 a_sheets0_numbers a_sheets1 a_sheets1_numbers a_sheets2 a_sheets2_numbers a_sheets3 a_sheets3_numbers a_findings v_isKept v_sheets0_bits v_sheets0_size v_sheets0_numbers v_sheets1_bits v_sheets1_size v_sheets1_numbers v_sheets2_bits v_sheets2_size v_sheets2_numbers v_sheets3_bits v_sheets3_size v_sheets3_numbers k14)) (w1 := (wX4_found cI cJ cZ cS a_t a_party a_kept a_tape a_telephone a_sheets a_findings v_isKept k14)) fx h [0, 10] rfl rfl rfl rfl (q_runV fx h hl.1 [0, 10] rfl rfl (tX4_found l D cI cJ cZ cS tb a_t a_party a_kept a_tape a_telephone a_sheets a_findings H.size v_isKept v_findings r2 r14 k14 hg) mvX4_found k_207 ⟨rfl, rfl⟩ ⟨Nat.le_of_ble_eq_true rfl, Nat.le_of_ble_eq_true rfl⟩ rfl rfl rfl rfl (Nat.le_of_ble_eq_true rfl) dX4_write_15 ⟨Nat.le_of_ble_eq_true rfl, Nat.le_of_ble_eq_true rfl⟩) (fun H locs h => ?_)
  refine lv_i2l hx hb dX4_write_18 rfl ?_
  exact q_retl (fun k : (Nat → Int64) × (Nat → Int64) × (Nat → Int64) × (Nat → Int64) × (Nat → Int32) => (wX4_write cI cJ cZ cS a_t a_party a_kept a_tape a_telephone a_sheets a_sheets0 a_sheets0_numbers a_sheets1 a_sheets1_numbers a_sheets2 a_sheets2_numbers a_sheets3 a_sheets3_numbers a_findings v_isKept v_sheets0_bits v_sheets0_size k.1 v_sheets1_bits v_sheets1_size k.2.1 v_sheets2_bits v_sheets2_size k.2.2.1 v_sheets3_bits v_sheets3_size k.2.2.2.1 k.2.2.2.2)) fx hf h dX4_write_19
/-! X1_hasRun -/
abbrev wX1_hasRun (cI cJ cZ cS : ClassId) (a_t a_numbers : Nat) (v_bits : Int32) (v_size : Int32) : va_W := [(a_t, .inr (1, [.int v_bits, .int v_size, .ref a_numbers]))]
abbrev rX1_hasRun : Room := { frames := 0, cells := 0, slots := 0, locals := 0 }
def fX1_hasRun (v_size : Int32) (x1 : Int32) (x2 : Int32) : Option (Int32 × Unit) :=
  (if x1 < 0 then (
  some (0, ()))
  else (
  (if x2 < 0 then (
  some (0, ()))
  else (
  (if v_size < x2 then (
  some (0, ()))
  else (
  (if (v_size - x2) < x1 then (
  some (0, ()))
  else (
  some (1, ())))))))))
set_option maxRecDepth 100000 in
set_option maxHeartbeats 4000000 in
theorem tX1_hasRun (l : Launch) (D : va_G) (cI cJ cZ cS : ClassId) (tb : Nat) (a_t a_numbers : Nat) (sz : Nat) (v_bits : Int32) (v_size : Int32) (x1 : Int32) (x2 : Int32) (rr : Int32) (kk' : Unit) (hf : fX1_hasRun v_size x1 x2 = some (rr, kk')) : Met l yX1_hasRun (Cond.code yX1_hasRun cX1_hasRun 3 (some .boolean) :: wA) rX1_hasRun (q_Pre D cI cJ cZ cS tb [.ref a_t, .int x1, .int x2] sz (wX1_hasRun cI cJ cZ cS a_t a_numbers v_bits v_size)) (q_Ri D rr (va_A (wX1_hasRun cI cJ cZ cS a_t a_numbers v_bits v_size) sz) ((fun k : Unit => (wX1_hasRun cI cJ cZ cS a_t a_numbers v_bits v_size)) kk')) 0 0 (va_A (wX1_hasRun cI cJ cZ cS a_t a_numbers v_bits v_size) sz) := by
  refine q_enter (Qf := fun A => (q_Ri D rr A ((fun k : Unit => (wX1_hasRun cI cJ cZ cS a_t a_numbers v_bits v_size)) kk'))) (by decide) rfl (Nat.le_of_ble_eq_true rfl) ?_
  intro p e s m below meth c A ls fx hname h hl
  have hx := fx.1
  have hb := fx.2.1
  have hl : lv_has ls 3 [(0, .ref a_t), (1, .int x1), (2, .int x2)] := hl
  generalize h9 : s.heap = H at h ⊢
  clear h9
  generalize h9 : ([] : List Loc) = locs at h ⊢
  clear h9
  unfold fX1_hasRun at hf
  refine lv_iload_n hx hb dX1_hasRun_0 rfl (lv_at hl 1 rfl) ?_
  refine lv_if_lt (tgt := 30) hx hb dX1_hasRun_1 (by decide) (fun c1 => ?_) (fun c1 => ?_)
  · have hf := it_t c1 hf
    refine lv_iconst (v := 0) hx hb dX1_hasRun_30 (by decide) ?_
    exact q_retz (fun k : Unit => (wX1_hasRun cI cJ cZ cS a_t a_numbers v_bits v_size)) fx rfl hf h dX1_hasRun_31
  have hf := it_f c1 hf
  refine lv_iload_n hx hb dX1_hasRun_4 rfl (lv_at hl 2 rfl) ?_
  refine lv_if_lt (tgt := 30) hx hb dX1_hasRun_5 (by decide) (fun c2 => ?_) (fun c2 => ?_)
  · have hf := it_t c2 hf
    refine lv_iconst (v := 0) hx hb dX1_hasRun_30 (by decide) ?_
    exact q_retz (fun k : Unit => (wX1_hasRun cI cJ cZ cS a_t a_numbers v_bits v_size)) fx rfl hf h dX1_hasRun_31
  have hf := it_f c2 hf
  refine lv_iload_n hx hb dX1_hasRun_8 rfl (lv_at hl 2 rfl) ?_
  refine lv_aload_n hx hb dX1_hasRun_9 rfl (lv_at hl 0 rfl) ?_
  refine q_get (v := .int v_size) fx inX1 h 0 rfl rfl 1 (by decide) k_163 rfl dX1_hasRun_10 ?_
  refine lv_icmp_gt (tgt := 30) hx hb dX1_hasRun_13 (by decide) (fun c3 => ?_) (fun c3 => ?_)
  · have hf := it_t c3 hf
    refine lv_iconst (v := 0) hx hb dX1_hasRun_30 (by decide) ?_
    exact q_retz (fun k : Unit => (wX1_hasRun cI cJ cZ cS a_t a_numbers v_bits v_size)) fx rfl hf h dX1_hasRun_31
  have hf := it_f c3 hf
  refine lv_iload_n hx hb dX1_hasRun_16 rfl (lv_at hl 1 rfl) ?_
  refine lv_aload_n hx hb dX1_hasRun_17 rfl (lv_at hl 0 rfl) ?_
  refine q_get (v := .int v_size) fx inX1 h 0 rfl rfl 1 (by decide) k_163 rfl dX1_hasRun_18 ?_
  refine lv_iload_n hx hb dX1_hasRun_21 rfl (lv_at hl 2 rfl) ?_
  refine lv_isub hx hb dX1_hasRun_22 ?_
  refine lv_icmp_gt (tgt := 30) hx hb dX1_hasRun_23 (by decide) (fun c4 => ?_) (fun c4 => ?_)
  · have hf := it_t c4 hf
    refine lv_iconst (v := 0) hx hb dX1_hasRun_30 (by decide) ?_
    exact q_retz (fun k : Unit => (wX1_hasRun cI cJ cZ cS a_t a_numbers v_bits v_size)) fx rfl hf h dX1_hasRun_31
  have hf := it_f c4 hf
  refine lv_iconst (v := 1) hx hb dX1_hasRun_26 (by decide) ?_
  refine lv_goto (tgt := 31) hx hb dX1_hasRun_27 (by decide) ?_
  exact q_retz (fun k : Unit => (wX1_hasRun cI cJ cZ cS a_t a_numbers v_bits v_size)) fx rfl hf h dX1_hasRun_31
