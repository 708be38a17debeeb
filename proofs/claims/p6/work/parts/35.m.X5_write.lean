/-! X5_write -/
abbrev wX5_write (cI cJ cZ cS : ClassId) (a_t a_s a_keptS a_statuses a_pile a_tape a_steps a_wish a_mark a_bitsOf a_sizeOf a_number a_moved : Nat) (v_isKept : Int32) (v_taped : Int32) (v_at : Int32) (v_fault : Int32) (v_laid : Int32) (v_open : Int32) (v_statuses : Nat → Int32) (v_bitsOf : Nat → Int32) (v_sizeOf : Nat → Int32) (v_number : Nat → Int64) : va_W := [(a_t, .inr (5, [.ref a_s, .ref a_keptS, .ref a_statuses, .int v_isKept, .ref a_pile, .ref a_tape, .ref a_steps, .int v_taped, .int v_at, .int v_fault, .int v_laid, .int v_open, .ref a_wish, .ref a_mark, .ref a_bitsOf, .ref a_sizeOf, .ref a_number, .ref a_moved])), (a_statuses, .inl (cI, 7, .inl v_statuses)), (a_bitsOf, .inl (cI, 4, .inl v_bitsOf)), (a_sizeOf, .inl (cI, 4, .inl v_sizeOf)), (a_number, .inl (cJ, 160, .inr (.inl v_number)))]
abbrev rX5_write : Room := { frames := 3, cells := 0, slots := 0, locals := 66 }
def fX5_write (v_statuses : Nat → Int32) (v_bitsOf : Nat → Int32) (v_sizeOf : Nat → Int32) (v_number : Nat → Int64) (x1 : Int32) (x2 : Int32) (x3 : Int64) : Option (Int64 × (Nat → Int32) × (Nat → Int64)) :=
  bR (fX5_wrong v_bitsOf x1) (fun r1 k1 =>
  (if r1 = 0 then (
  gIn x1 4 (
  bR (fX5_in (x2.toInt64) 0 (((v_sizeOf x1.toNatClampNeg) - 1).toInt64)) (fun r4 k4 =>
  (if r4 = 0 then (
  bR (fX5_finds v_statuses (-1000000001)) (fun r11 k11 =>
  some (r11.toInt64, (k11, v_number))))
  else (
  gIn ((40 * x1) + x2) 160 (
  nm (v_number ((40 * x1) + x2).toNatClampNeg) (fun u7 =>
  gIn x1 4 (
  bR (fX5_narrowed (v_bitsOf x1.toNatClampNeg) x3) (fun r9 k9 =>
  gIn ((40 * x1) + x2) 160 (
  some (u7, (v_statuses, (vp_updL v_number ((40 * x1) + x2).toNatClampNeg r9)))))))))))))
  else (
  bR (fX5_finds v_statuses r1) (fun r12 k12 =>
  some (r12.toInt64, (k12, v_number))))))
set_option maxRecDepth 100000 in
set_option maxHeartbeats 4000000 in
theorem tX5_write (l : Launch) (D : va_G) (cI cJ cZ cS : ClassId) (tb : Nat) (a_t a_s a_keptS a_statuses a_pile a_tape a_steps a_wish a_mark a_bitsOf a_sizeOf a_number a_moved : Nat) (sz : Nat) (v_isKept : Int32) (v_taped : Int32) (v_at : Int32) (v_fault : Int32) (v_laid : Int32) (v_open : Int32) (v_statuses : Nat → Int32) (v_bitsOf : Nat → Int32) (v_sizeOf : Nat → Int32) (v_number : Nat → Int64) (x1 : Int32) (x2 : Int32) (x3 : Int64) (rr : Int64) (kk' : (Nat → Int32) × (Nat → Int64)) (hf : fX5_write v_statuses v_bitsOf v_sizeOf v_number x1 x2 x3 = some (rr, kk')) : Met l yX5_write (Cond.code yX5_write cX5_write 8 (some .long) :: wA) rX5_write (q_Pre D cI cJ cZ cS tb [.ref a_t, .int x1, .int x2, .long x3] sz (wX5_write cI cJ cZ cS a_t a_s a_keptS a_statuses a_pile a_tape a_steps a_wish a_mark a_bitsOf a_sizeOf a_number a_moved v_isKept v_taped v_at v_fault v_laid v_open v_statuses v_bitsOf v_sizeOf v_number)) (q_Rl D rr (va_A (wX5_write cI cJ cZ cS a_t a_s a_keptS a_statuses a_pile a_tape a_steps a_wish a_mark a_bitsOf a_sizeOf a_number a_moved v_isKept v_taped v_at v_fault v_laid v_open v_statuses v_bitsOf v_sizeOf v_number) sz) ((fun k : (Nat → Int32) × (Nat → Int64) => (wX5_write cI cJ cZ cS a_t a_s a_keptS a_statuses a_pile a_tape a_steps a_wish a_mark a_bitsOf a_sizeOf a_number a_moved v_isKept v_taped v_at v_fault v_laid v_open k.1 v_bitsOf v_sizeOf k.2)) kk')) 0 0 (va_A (wX5_write cI cJ cZ cS a_t a_s a_keptS a_statuses a_pile a_tape a_steps a_wish a_mark a_bitsOf a_sizeOf a_number a_moved v_isKept v_taped v_at v_fault v_laid v_open v_statuses v_bitsOf v_sizeOf v_number) sz) := by
  refine q_enter (Qf := fun A => (q_Rl D rr A ((fun k : (Nat → Int32) × (Nat → Int64) => (wX5_write cI cJ cZ cS a_t a_s a_keptS a_statuses a_pile a_tape a_steps a_wish a_mark a_bitsOf a_sizeOf a_number a_moved v_isKept v_taped v_at v_fault v_laid v_open k.1 v_bitsOf v_sizeOf k.2)) kk'))) (by decide) rfl (Nat.le_of_ble_eq_true rfl) ?_
  intro p e s m below meth c A ls fx hname h hl
  have hx := fx.1
  have hb := fx.2.1
  have hl : lv_has ls 8 [(0, .ref a_t), (1, .int x1), (2, .int x2), (3, .long x3)] := hl
  generalize h9 : s.heap = H at h ⊢
  clear h9
  generalize h9 : ([] : List Loc) = locs at h ⊢
  clear h9
  unfold fX5_write at hf
  refine lv_aload_n hx hb dX5_write_0 rfl (lv_at hl 0 rfl) ?_
  refine lv_iload_n hx hb dX5_write_1 rfl (lv_at hl 1 rfl) ?_
  obtain ⟨r1, k1, hg, hf⟩ := bR_inv hf
  refine q_ci (rest := []) (ws' := (wX5_write cI cJ cZ cS a_t a_s a_keptS a_statuses a_pile a_tape a_steps a_wish a_mark a_bitsOf a_sizeOf a_number a_moved v_isKept v_taped v_at v_fault v_laid v_open v_statuses v_bitsOf v_sizeOf v_number)) (w1 := (wX5_wrong cI cJ cZ cS a_t a_s a_keptS a_statuses a_pile a_tape a_steps a_wish a_mark a_bitsOf a_sizeOf a_number a_moved v_isKept v_taped v_at v_fault v_laid v_open v_bitsOf)) fx h [0, 2] rfl rfl rfl rfl (q_runV fx h hl.1 [0, 2] rfl rfl (tX5_wrong l D cI cJ cZ cS tb a_t a_s a_keptS a_statuses a_pile a_tape a_steps a_wish a_mark a_bitsOf a_sizeOf a_number a_moved H.size v_isKept v_taped v_at v_fault v_laid v_open v_bitsOf x1 r1 k1 hg) mvX5_wrong k_967 ⟨rfl, rfl⟩ ⟨Nat.le_of_ble_eq_true rfl, Nat.le_of_ble_eq_true rfl⟩ rfl rfl rfl rfl (Nat.le_of_ble_eq_true rfl) dX5_write_2 ⟨Nat.le_of_ble_eq_true rfl, Nat.le_of_ble_eq_true rfl⟩) (fun H locs h => ?_)
  refine lv_istore (lv' := [(5, .int r1), (0, .ref a_t), (1, .int x1), (2, .int x2), (3, .long x3)]) hx hb dX5_write_5 hl (by decide) rfl (fun ls hl => ?_)
  refine lv_iload hx hb dX5_write_7 (lv_at hl 0 rfl) ?_
  refine lv_if_eq (tgt := 20) hx hb dX5_write_9 (by decide) (fun c2 => ?_) (fun c2 => ?_)
  · have hf := it_t c2 hf
    refine lv_iload_n hx hb dX5_write_20 rfl (lv_at hl 3 rfl) ?_
    refine lv_i2l hx hb dX5_write_21 rfl ?_
    refine lv_lconst (v := 0) hx hb dX5_write_22 (by decide) ?_
    refine lv_aload_n hx hb dX5_write_23 rfl (lv_at hl 1 rfl) ?_
    refine q_get (v := .ref a_sizeOf) fx inX5 h 0 rfl rfl 15 (by decide) k_651 rfl dX5_write_24 ?_
    refine lv_iload_n hx hb dX5_write_27 rfl (lv_at hl 2 rfl) ?_
    obtain ⟨i3, hf⟩ := gIn_inv hf
    refine q_iald fx h 3 rfl i3 dX5_write_28 ?_
    refine lv_iconst (v := 1) hx hb dX5_write_29 (by decide) ?_
    refine lv_isub hx hb dX5_write_30 ?_
    refine lv_i2l hx hb dX5_write_31 rfl ?_
    obtain ⟨r4, k4, hg, hf⟩ := bR_inv hf
    refine q_ci (rest := []) (ws' := (wX5_write cI cJ cZ cS a_t a_s a_keptS a_statuses a_pile a_tape a_steps a_wish a_mark a_bitsOf a_sizeOf a_number a_moved v_isKept v_taped v_at v_fault v_laid v_open v_statuses v_bitsOf v_sizeOf v_number)) (w1 := (wX5_in cI cJ cZ cS)) fx h [] rfl rfl rfl rfl (q_runS fx h hl.1 [] rfl rfl (tX5_in l D cI cJ cZ cS tb H.size (x2.toInt64) 0 (((v_sizeOf x1.toNatClampNeg) - 1).toInt64) r4 k4 hg) msX5_in k_697 ⟨rfl, rfl⟩ ⟨Nat.le_of_ble_eq_true rfl, Nat.le_of_ble_eq_true rfl⟩ rfl rfl (Nat.le_of_ble_eq_true rfl) dX5_write_32 ⟨Nat.le_of_ble_eq_true rfl, Nat.le_of_ble_eq_true rfl⟩) (fun H locs h => ?_)
    refine lv_if_ne (tgt := 46) hx hb dX5_write_35 (by decide) (fun c5 => ?_) (fun c5 => ?_)
    · have hf := it_f c5 hf
      refine lv_aload_n hx hb dX5_write_46 rfl (lv_at hl 1 rfl) ?_
      refine q_get (v := .ref a_number) fx inX5 h 0 rfl rfl 16 (by decide) k_652 rfl dX5_write_47 ?_
      refine lv_bipush (v := 40) hx hb dX5_write_50 (by decide) ?_
      refine lv_iload_n hx hb dX5_write_52 rfl (lv_at hl 2 rfl) ?_
      refine lv_imul hx hb dX5_write_53 ?_
      refine lv_iload_n hx hb dX5_write_54 rfl (lv_at hl 3 rfl) ?_
      refine lv_iadd hx hb dX5_write_55 ?_
      obtain ⟨i6, hf⟩ := gIn_inv hf
      refine q_lald fx h 4 rfl i6 dX5_write_56 ?_
      obtain ⟨u7, eu7, hf⟩ := nm_inv hf
      refine lv_eql eu7 ?_
      refine lv_lstore (lv' := [(6, .long u7), (5, .int r1), (0, .ref a_t), (1, .int x1), (2, .int x2), (3, .long x3)]) hx hb dX5_write_57 hl (by decide) rfl (fun ls hl => ?_)
      refine lv_aload_n hx hb dX5_write_59 rfl (lv_at hl 2 rfl) ?_
      refine q_get (v := .ref a_number) fx inX5 h 0 rfl rfl 16 (by decide) k_652 rfl dX5_write_60 ?_
      refine lv_bipush (v := 40) hx hb dX5_write_63 (by decide) ?_
      refine lv_iload_n hx hb dX5_write_65 rfl (lv_at hl 3 rfl) ?_
      refine lv_imul hx hb dX5_write_66 ?_
      refine lv_iload_n hx hb dX5_write_67 rfl (lv_at hl 4 rfl) ?_
      refine lv_iadd hx hb dX5_write_68 ?_
      refine lv_aload_n hx hb dX5_write_69 rfl (lv_at hl 2 rfl) ?_
      refine q_get (v := .ref a_bitsOf) fx inX5 h 0 rfl rfl 14 (by decide) k_650 rfl dX5_write_70 ?_
      refine lv_iload_n hx hb dX5_write_73 rfl (lv_at hl 3 rfl) ?_
      obtain ⟨i8, hf⟩ := gIn_inv hf
      refine q_iald fx h 2 rfl i8 dX5_write_74 ?_
      refine lv_lload_n hx hb dX5_write_75 rfl (lv_at hl 5 rfl) ?_
      obtain ⟨r9, k9, hg, hf⟩ := bR_inv hf
      refine q_cl (rest := [.int ((40 * x1) + x2), .ref a_number]) (ws' := (wX5_write cI cJ cZ cS a_t a_s a_keptS a_statuses a_pile a_tape a_steps a_wish a_mark a_bitsOf a_sizeOf a_number a_moved v_isKept v_taped v_at v_fault v_laid v_open v_statuses v_bitsOf v_sizeOf v_number)) (w1 := (wX5_narrowed cI cJ cZ cS)) fx h [] rfl rfl rfl rfl (q_runS fx h hl.1 [] rfl rfl (tX5_narrowed l D cI cJ cZ cS tb H.size (v_bitsOf x1.toNatClampNeg) x3 r9 k9 hg) msX5_narrowed k_972 ⟨rfl, rfl⟩ ⟨Nat.le_of_ble_eq_true rfl, Nat.le_of_ble_eq_true rfl⟩ rfl rfl (Nat.le_of_ble_eq_true rfl) dX5_write_76 ⟨Nat.le_of_ble_eq_true rfl, Nat.le_of_ble_eq_true rfl⟩) (fun H locs h => ?_)
      obtain ⟨i10, hf⟩ := gIn_inv hf
      refine q_last (ws' := (wX5_write cI cJ cZ cS a_t a_s a_keptS a_statuses a_pile a_tape a_steps a_wish a_mark a_bitsOf a_sizeOf a_number a_moved v_isKept v_taped v_at v_fault v_laid v_open v_statuses v_bitsOf v_sizeOf (vp_updL v_number ((40 * x1) + x2).toNatClampNeg r9))) fx h 4 rfl i10 rfl dX5_write_79 (fun H locs h => ?_)
      refine lv_lload hx hb dX5_write_80 (lv_at hl 0 rfl) ?_
      exact q_retl (fun k : (Nat → Int32) × (Nat → Int64) => (wX5_write cI cJ cZ cS a_t a_s a_keptS a_statuses a_pile a_tape a_steps a_wish a_mark a_bitsOf a_sizeOf a_number a_moved v_isKept v_taped v_at v_fault v_laid v_open k.1 v_bitsOf v_sizeOf k.2)) fx hf h dX5_write_82
    have hf := it_t c5 hf
    refine lv_aload_n hx hb dX5_write_38 rfl (lv_at hl 1 rfl) ?_
    refine q_ldc fx k_701 dX5_write_39 ?_
    obtain ⟨r11, k11, hg, hf⟩ := bR_inv hf
    refine q_ci (rest := []) (ws' := (wX5_write cI cJ cZ cS a_t a_s a_keptS a_statuses a_pile a_tape a_steps a_wish a_mark a_bitsOf a_sizeOf a_number a_moved v_isKept v_taped v_at v_fault v_laid v_open k11 v_bitsOf v_sizeOf v_number)) (w1 := (wX5_finds cI cJ cZ cS a_t a_s a_keptS a_statuses a_pile a_tape a_steps a_wish a_mark a_bitsOf a_sizeOf a_number a_moved v_isKept v_taped v_at v_fault v_laid v_open k11)) fx h [0, 1] rfl rfl rfl rfl (q_runV fx h hl.1 [0, 1] rfl rfl (tX5_finds l D cI cJ cZ cS tb a_t a_s a_keptS a_statuses a_pile a_tape a_steps a_wish a_mark a_bitsOf a_sizeOf a_number a_moved H.size v_isKept v_taped v_at v_fault v_laid v_open v_statuses (-1000000001) r11 k11 hg) mvX5_finds k_702 ⟨rfl, rfl⟩ ⟨Nat.le_of_ble_eq_true rfl, Nat.le_of_ble_eq_true rfl⟩ rfl rfl rfl rfl (Nat.le_of_ble_eq_true rfl) dX5_write_41 ⟨Nat.le_of_ble_eq_true rfl, Nat.le_of_ble_eq_true rfl⟩) (fun H locs h => ?_)
    refine lv_i2l hx hb dX5_write_44 rfl ?_
    exact q_retl (fun k : (Nat → Int32) × (Nat → Int64) => (wX5_write cI cJ cZ cS a_t a_s a_keptS a_statuses a_pile a_tape a_steps a_wish a_mark a_bitsOf a_sizeOf a_number a_moved v_isKept v_taped v_at v_fault v_laid v_open k.1 v_bitsOf v_sizeOf k.2)) fx hf h dX5_write_45
  have hf := it_f c2 hf
  refine lv_aload_n hx hb dX5_write_12 rfl (lv_at hl 1 rfl) ?_
  refine lv_iload hx hb dX5_write_13 (lv_at hl 0 rfl) ?_
  obtain ⟨r12, k12, hg, hf⟩ := bR_inv hf
  refine q_ci (rest := []) (ws' := (wX5_write cI cJ cZ cS a_t a_s a_keptS a_statuses a_pile a_tape a_steps a_wish a_mark a_bitsOf a_sizeOf a_number a_moved v_isKept v_taped v_at v_fault v_laid v_open k12 v_bitsOf v_sizeOf v_number)) (w1 := (wX5_finds cI cJ cZ cS a_t a_s a_keptS a_statuses a_pile a_tape a_steps a_wish a_mark a_bitsOf a_sizeOf a_number a_moved v_isKept v_taped v_at v_fault v_laid v_open k12)) fx h [0, 1] rfl rfl rfl rfl (q_runV fx h hl.1 [0, 1] rfl rfl (tX5_finds l D cI cJ cZ cS tb a_t a_s a_keptS a_statuses a_pile a_tape a_steps a_wish a_mark a_bitsOf a_sizeOf a_number a_moved H.size v_isKept v_taped v_at v_fault v_laid v_open v_statuses r1 r12 k12 hg) mvX5_finds k_702 ⟨rfl, rfl⟩ ⟨Nat.le_of_ble_eq_true rfl, Nat.le_of_ble_eq_true rfl⟩ rfl rfl rfl rfl (Nat.le_of_ble_eq_true rfl) dX5_write_15 ⟨Nat.le_of_ble_eq_true rfl, Nat.le_of_ble_eq_true rfl⟩) (fun H locs h => ?_)
  refine lv_i2l hx hb dX5_write_18 rfl ?_
  exact q_retl (fun k : (Nat → Int32) × (Nat → Int64) => (wX5_write cI cJ cZ cS a_t a_s a_keptS a_statuses a_pile a_tape a_steps a_wish a_mark a_bitsOf a_sizeOf a_number a_moved v_isKept v_taped v_at v_fault v_laid v_open k.1 v_bitsOf v_sizeOf k.2)) fx hf h dX5_write_19
/-! X5_copy -/
abbrev wX5_copy (cI cJ cZ cS : ClassId) (a_t a_s a_keptS a_statuses a_pile a_tape a_steps a_wish a_mark a_bitsOf a_sizeOf a_number a_moved : Nat) (v_isKept : Int32) (v_taped : Int32) (v_at : Int32) (v_fault : Int32) (v_laid : Int32) (v_open : Int32) (v_statuses : Nat → Int32) (v_bitsOf : Nat → Int32) (v_sizeOf : Nat → Int32) (v_number : Nat → Int64) (v_moved : Nat → Int64) : va_W := [(a_t, .inr (5, [.ref a_s, .ref a_keptS, .ref a_statuses, .int v_isKept, .ref a_pile, .ref a_tape, .ref a_steps, .int v_taped, .int v_at, .int v_fault, .int v_laid, .int v_open, .ref a_wish, .ref a_mark, .ref a_bitsOf, .ref a_sizeOf, .ref a_number, .ref a_moved])), (a_statuses, .inl (cI, 7, .inl v_statuses)), (a_bitsOf, .inl (cI, 4, .inl v_bitsOf)), (a_sizeOf, .inl (cI, 4, .inl v_sizeOf)), (a_number, .inl (cJ, 160, .inr (.inl v_number))), (a_moved, .inl (cJ, 40, .inr (.inl v_moved)))]
abbrev rX5_copy : Room := { frames := 2, cells := 0, slots := 0, locals := 45 }
def fX5_copy_156 (v_bitsOf : Nat → Int32) (v_sizeOf : Nat → Int32) (ag156 : (Nat → Int32) → (Nat → Int64) → (Nat → Int64) → Int32 → Int32 → Int32 → Int32 → Option (Int32 × (Nat → Int32) × (Nat → Int64) × (Nat → Int64))) (v_statuses : Nat → Int32) (v_number : Nat → Int64) (v_moved : Nat → Int64) (y3 : Int32) (y4 : Int32) (y5 : Int32) (y6 : Int32) : Option (Int32 × (Nat → Int32) × (Nat → Int64) × (Nat → Int64)) :=
  (if y5 ≤ y6 then (
  some (y5, (v_statuses, v_number, v_moved)))
  else (
  gIn y6 40 (
  gIn (((40 * y3) + y4) + y6) 160 (
  nm (y6 + 1) (fun u4 =>
  ag156 v_statuses (vp_updL v_number (((40 * y3) + y4) + y6).toNatClampNeg (v_moved y6.toNatClampNeg)) v_moved y3 y4 y5 u4)))))
set_option maxRecDepth 100000 in
set_option maxHeartbeats 4000000 in
theorem LX5_copy_156 {p : Program} {l : Launch} {e : Env} {s : State} {m : MethodId} {args : Array Value} {below : List Frame} {meth : Method} {c : Code} {D : va_G} {cI cJ cZ cS : ClassId} {tb : Nat} {A : Nat → Prop} {a_t a_s a_keptS a_statuses a_pile a_tape a_steps a_wish a_mark a_bitsOf a_sizeOf a_number a_moved : Nat} {v_isKept : Int32} {v_taped : Int32} {v_at : Int32} {v_fault : Int32} {v_laid : Int32} {v_open : Int32} {v_bitsOf : Nat → Int32} {v_sizeOf : Nat → Int32} {rr : Int32} {kk' : (Nat → Int32) × (Nat → Int64) × (Nat → Int64)} (fx : q_Fx p s m args meth c cX5_copy 7 RX5 (some .int) D cI cJ cZ cS tb A) {ag156 : (Nat → Int32) → (Nat → Int64) → (Nat → Int64) → Int32 → Int32 → Int32 → Int32 → Option (Int32 × (Nat → Int32) × (Nat → Int64) × (Nat → Int64))} (hag156 : ∀ {v_statuses : Nat → Int32} {v_number : Nat → Int64} {v_moved : Nat → Int64} {y3 : Int32} {y4 : Int32} {y5 : Int32} {y6 : Int32} {H : Heap} {locs : List Loc} {ls : Array Slot}, q_H D A s (wX5_copy cI cJ cZ cS a_t a_s a_keptS a_statuses a_pile a_tape a_steps a_wish a_mark a_bitsOf a_sizeOf a_number a_moved v_isKept v_taped v_at v_fault v_laid v_open v_statuses v_bitsOf v_sizeOf v_number v_moved) H locs → lv_has ls 7 [(0, .ref a_t), (3, .int y3), (4, .int y4), (5, .int y5), (6, .int y6)] → ag156 v_statuses v_number v_moved y3 y4 y5 y6 = some (rr, kk') → W p l e rX5_copy s m args below meth c H locs 0 0 (MQ below (q_Ri D rr A ((fun k : (Nat → Int32) × (Nat → Int64) × (Nat → Int64) => (wX5_copy cI cJ cZ cS a_t a_s a_keptS a_statuses a_pile a_tape a_steps a_wish a_mark a_bitsOf a_sizeOf a_number a_moved v_isKept v_taped v_at v_fault v_laid v_open k.1 v_bitsOf v_sizeOf k.2.1 k.2.2)) kk')) args s 0 0 A) (F0 m 156 ls [])) : ∀ {v_statuses : Nat → Int32} {v_number : Nat → Int64} {v_moved : Nat → Int64} {y3 : Int32} {y4 : Int32} {y5 : Int32} {y6 : Int32} {H : Heap} {locs : List Loc} {ls : Array Slot}, q_H D A s (wX5_copy cI cJ cZ cS a_t a_s a_keptS a_statuses a_pile a_tape a_steps a_wish a_mark a_bitsOf a_sizeOf a_number a_moved v_isKept v_taped v_at v_fault v_laid v_open v_statuses v_bitsOf v_sizeOf v_number v_moved) H locs → lv_has ls 7 [(0, .ref a_t), (3, .int y3), (4, .int y4), (5, .int y5), (6, .int y6)] → fX5_copy_156 v_bitsOf v_sizeOf ag156 v_statuses v_number v_moved y3 y4 y5 y6 = some (rr, kk') → W p l e rX5_copy s m args below meth c H locs 0 0 (MQ below (q_Ri D rr A ((fun k : (Nat → Int32) × (Nat → Int64) × (Nat → Int64) => (wX5_copy cI cJ cZ cS a_t a_s a_keptS a_statuses a_pile a_tape a_steps a_wish a_mark a_bitsOf a_sizeOf a_number a_moved v_isKept v_taped v_at v_fault v_laid v_open k.1 v_bitsOf v_sizeOf k.2.1 k.2.2)) kk')) args s 0 0 A) (F0 m 156 ls []) := by
  intro v_statuses v_number v_moved y3 y4 y5 y6 H locs ls h hl hf
  have hx := fx.1
  have hb := fx.2.1
  unfold fX5_copy_156 at hf
  refine lv_iload hx hb dX5_copy_156 (lv_at hl 4 rfl) ?_
  refine lv_iload hx hb dX5_copy_158 (lv_at hl 3 rfl) ?_
  refine lv_icmp_ge (tgt := 191) hx hb dX5_copy_160 (by decide) (fun c1 => ?_) (fun c1 => ?_)
  · have hf := it_t c1 hf
    refine lv_iload hx hb dX5_copy_191 (lv_at hl 3 rfl) ?_
    exact q_reti (fun k : (Nat → Int32) × (Nat → Int64) × (Nat → Int64) => (wX5_copy cI cJ cZ cS a_t a_s a_keptS a_statuses a_pile a_tape a_steps a_wish a_mark a_bitsOf a_sizeOf a_number a_moved v_isKept v_taped v_at v_fault v_laid v_open k.1 v_bitsOf v_sizeOf k.2.1 k.2.2)) fx hf h dX5_copy_193
  have hf := it_f c1 hf
  refine lv_aload_n hx hb dX5_copy_163 rfl (lv_at hl 0 rfl) ?_
  refine q_get (v := .ref a_number) fx inX5 h 0 rfl rfl 16 (by decide) k_652 rfl dX5_copy_164 ?_
  refine lv_bipush (v := 40) hx hb dX5_copy_167 (by decide) ?_
  refine lv_iload_n hx hb dX5_copy_169 rfl (lv_at hl 1 rfl) ?_
  refine lv_imul hx hb dX5_copy_170 ?_
  refine lv_iload hx hb dX5_copy_171 (lv_at hl 2 rfl) ?_
  refine lv_iadd hx hb dX5_copy_173 ?_
  refine lv_iload hx hb dX5_copy_174 (lv_at hl 4 rfl) ?_
  refine lv_iadd hx hb dX5_copy_176 ?_
  refine lv_aload_n hx hb dX5_copy_177 rfl (lv_at hl 0 rfl) ?_
  refine q_get (v := .ref a_moved) fx inX5 h 0 rfl rfl 17 (by decide) k_653 rfl dX5_copy_178 ?_
  refine lv_iload hx hb dX5_copy_181 (lv_at hl 4 rfl) ?_
  obtain ⟨i2, hf⟩ := gIn_inv hf
  refine q_lald fx h 5 rfl i2 dX5_copy_183 ?_
  obtain ⟨i3, hf⟩ := gIn_inv hf
  refine q_last (ws' := (wX5_copy cI cJ cZ cS a_t a_s a_keptS a_statuses a_pile a_tape a_steps a_wish a_mark a_bitsOf a_sizeOf a_number a_moved v_isKept v_taped v_at v_fault v_laid v_open v_statuses v_bitsOf v_sizeOf (vp_updL v_number (((40 * y3) + y4) + y6).toNatClampNeg (v_moved y6.toNatClampNeg)) v_moved)) fx h 4 rfl i3 rfl dX5_copy_184 (fun H locs h => ?_)
  obtain ⟨u4, eu4, hf⟩ := nm_inv hf
  refine lv_iinc (v := u4) (lv' := [(6, .int u4), (0, .ref a_t), (3, .int y3), (4, .int y4), (5, .int y5)]) hx hb dX5_copy_185 hl (k := 4) rfl (by rw [eu4]; rfl) (by decide) rfl (fun ls hl => ?_)
  refine lv_goto (tgt := 156) hx hb dX5_copy_188 (by decide) ?_
  exact hag156 h (lv_sub hl [1, 2, 3, 4, 0] rfl) hf
set_option maxRecDepth 100000 in
theorem EX5_copy_156 {p : Program} {l : Launch} {e : Env} {s : State} {m : MethodId} {args : Array Value} {below : List Frame} {meth : Method} {c : Code} {D : va_G} {cI cJ cZ cS : ClassId} {tb : Nat} {A : Nat → Prop} {a_t a_s a_keptS a_statuses a_pile a_tape a_steps a_wish a_mark a_bitsOf a_sizeOf a_number a_moved : Nat} {v_isKept : Int32} {v_taped : Int32} {v_at : Int32} {v_fault : Int32} {v_laid : Int32} {v_open : Int32} {v_bitsOf : Nat → Int32} {v_sizeOf : Nat → Int32} {rr : Int32} {kk' : (Nat → Int32) × (Nat → Int64) × (Nat → Int64)} (fx : q_Fx p s m args meth c cX5_copy 7 RX5 (some .int) D cI cJ cZ cS tb A) : ∀ (n : Nat), ∀ {v_statuses : Nat → Int32} {v_number : Nat → Int64} {v_moved : Nat → Int64} {y3 : Int32} {y4 : Int32} {y5 : Int32} {y6 : Int32} {H : Heap} {locs : List Loc} {ls : Array Slot}, q_H D A s (wX5_copy cI cJ cZ cS a_t a_s a_keptS a_statuses a_pile a_tape a_steps a_wish a_mark a_bitsOf a_sizeOf a_number a_moved v_isKept v_taped v_at v_fault v_laid v_open v_statuses v_bitsOf v_sizeOf v_number v_moved) H locs → lv_has ls 7 [(0, .ref a_t), (3, .int y3), (4, .int y4), (5, .int y5), (6, .int y6)] → ll7 (fX5_copy_156 v_bitsOf v_sizeOf) n v_statuses v_number v_moved y3 y4 y5 y6 = some (rr, kk') → W p l e rX5_copy s m args below meth c H locs 0 0 (MQ below (q_Ri D rr A ((fun k : (Nat → Int32) × (Nat → Int64) × (Nat → Int64) => (wX5_copy cI cJ cZ cS a_t a_s a_keptS a_statuses a_pile a_tape a_steps a_wish a_mark a_bitsOf a_sizeOf a_number a_moved v_isKept v_taped v_at v_fault v_laid v_open k.1 v_bitsOf v_sizeOf k.2.1 k.2.2)) kk')) args s 0 0 A) (F0 m 156 ls []) := by
  intro n
  induction n with
  | zero => intro v_statuses v_number v_moved y3 y4 y5 y6 H locs ls h hl hf; exact (ll7_z hf).elim
  | succ n ih => intro v_statuses v_number v_moved y3 y4 y5 y6 H locs ls h hl hf; exact LX5_copy_156 fx ih h hl (ll7_s hf)
def fX5_copy_119 (v_bitsOf : Nat → Int32) (v_sizeOf : Nat → Int32) (ag119 : (Nat → Int32) → (Nat → Int64) → (Nat → Int64) → Int32 → Int32 → Int32 → Int32 → Int32 → Int32 → Option (Int32 × (Nat → Int32) × (Nat → Int64) × (Nat → Int64))) (v_statuses : Nat → Int32) (v_number : Nat → Int64) (v_moved : Nat → Int64) (y1 : Int32) (y2 : Int32) (y3 : Int32) (y4 : Int32) (y5 : Int32) (y6 : Int32) : Option (Int32 × (Nat → Int32) × (Nat → Int64) × (Nat → Int64)) :=
  (if y5 ≤ y6 then (
  ll7 (fX5_copy_156 v_bitsOf v_sizeOf) qF v_statuses v_number v_moved y3 y4 y5 0)
  else (
  gIn (((40 * y1) + y2) + y6) 160 (
  gIn y6 40 (
  nm (y6 + 1) (fun u8 =>
  ag119 v_statuses v_number (vp_updL v_moved y6.toNatClampNeg (v_number (((40 * y1) + y2) + y6).toNatClampNeg)) y1 y2 y3 y4 y5 u8)))))
set_option maxRecDepth 100000 in
set_option maxHeartbeats 4000000 in
theorem LX5_copy_119 {p : Program} {l : Launch} {e : Env} {s : State} {m : MethodId} {args : Array Value} {below : List Frame} {meth : Method} {c : Code} {D : va_G} {cI cJ cZ cS : ClassId} {tb : Nat} {A : Nat → Prop} {a_t a_s a_keptS a_statuses a_pile a_tape a_steps a_wish a_mark a_bitsOf a_sizeOf a_number a_moved : Nat} {v_isKept : Int32} {v_taped : Int32} {v_at : Int32} {v_fault : Int32} {v_laid : Int32} {v_open : Int32} {v_bitsOf : Nat → Int32} {v_sizeOf : Nat → Int32} {rr : Int32} {kk' : (Nat → Int32) × (Nat → Int64) × (Nat → Int64)} (fx : q_Fx p s m args meth c cX5_copy 7 RX5 (some .int) D cI cJ cZ cS tb A) {ag119 : (Nat → Int32) → (Nat → Int64) → (Nat → Int64) → Int32 → Int32 → Int32 → Int32 → Int32 → Int32 → Option (Int32 × (Nat → Int32) × (Nat → Int64) × (Nat → Int64))} (hag119 : ∀ {v_statuses : Nat → Int32} {v_number : Nat → Int64} {v_moved : Nat → Int64} {y1 : Int32} {y2 : Int32} {y3 : Int32} {y4 : Int32} {y5 : Int32} {y6 : Int32} {H : Heap} {locs : List Loc} {ls : Array Slot}, q_H D A s (wX5_copy cI cJ cZ cS a_t a_s a_keptS a_statuses a_pile a_tape a_steps a_wish a_mark a_bitsOf a_sizeOf a_number a_moved v_isKept v_taped v_at v_fault v_laid v_open v_statuses v_bitsOf v_sizeOf v_number v_moved) H locs → lv_has ls 7 [(0, .ref a_t), (1, .int y1), (2, .int y2), (3, .int y3), (4, .int y4), (5, .int y5), (6, .int y6)] → ag119 v_statuses v_number v_moved y1 y2 y3 y4 y5 y6 = some (rr, kk') → W p l e rX5_copy s m args below meth c H locs 0 0 (MQ below (q_Ri D rr A ((fun k : (Nat → Int32) × (Nat → Int64) × (Nat → Int64) => (wX5_copy cI cJ cZ cS a_t a_s a_keptS a_statuses a_pile a_tape a_steps a_wish a_mark a_bitsOf a_sizeOf a_number a_moved v_isKept v_taped v_at v_fault v_laid v_open k.1 v_bitsOf v_sizeOf k.2.1 k.2.2)) kk')) args s 0 0 A) (F0 m 119 ls [])) : ∀ {v_statuses : Nat → Int32} {v_number : Nat → Int64} {v_moved : Nat → Int64} {y1 : Int32} {y2 : Int32} {y3 : Int32} {y4 : Int32} {y5 : Int32} {y6 : Int32} {H : Heap} {locs : List Loc} {ls : Array Slot}, q_H D A s (wX5_copy cI cJ cZ cS a_t a_s a_keptS a_statuses a_pile a_tape a_steps a_wish a_mark a_bitsOf a_sizeOf a_number a_moved v_isKept v_taped v_at v_fault v_laid v_open v_statuses v_bitsOf v_sizeOf v_number v_moved) H locs → lv_has ls 7 [(0, .ref a_t), (1, .int y1), (2, .int y2), (3, .int y3), (4, .int y4), (5, .int y5), (6, .int y6)] → fX5_copy_119 v_bitsOf v_sizeOf ag119 v_statuses v_number v_moved y1 y2 y3 y4 y5 y6 = some (rr, kk') → W p l e rX5_copy s m args below meth c H locs 0 0 (MQ below (q_Ri D rr A ((fun k : (Nat → Int32) × (Nat → Int64) × (Nat → Int64) => (wX5_copy cI cJ cZ cS a_t a_s a_keptS a_statuses a_pile a_tape a_steps a_wish a_mark a_bitsOf a_sizeOf a_number a_moved v_isKept v_taped v_at v_fault v_laid v_open k.1 v_bitsOf v_sizeOf k.2.1 k.2.2)) kk')) args s 0 0 A) (F0 m 119 ls []) := by
  intro v_statuses v_number v_moved y1 y2 y3 y4 y5 y6 H locs ls h hl hf
  have hx := fx.1
  have hb := fx.2.1
  unfold fX5_copy_119 at hf
  refine lv_iload hx hb dX5_copy_119 (lv_at hl 6 rfl) ?_
  refine lv_iload hx hb dX5_copy_121 (lv_at hl 5 rfl) ?_
  refine lv_icmp_ge (tgt := 153) hx hb dX5_copy_123 (by decide) (fun c5 => ?_) (fun c5 => ?_)
  · have hf := it_t c5 hf
    refine lv_iconst (v := 0) hx hb dX5_copy_153 (by decide) ?_
    refine lv_istore (lv' := [(6, .int 0), (0, .ref a_t), (1, .int y1), (2, .int y2), (3, .int y3), (4, .int y4), (5, .int y5)]) hx hb dX5_copy_154 hl (by decide) rfl (fun ls hl => ?_)
    exact EX5_copy_156 fx qF h (lv_sub hl [1, 4, 5, 6, 0] rfl) hf
  have hf := it_f c5 hf
  refine lv_aload_n hx hb dX5_copy_126 rfl (lv_at hl 0 rfl) ?_
  refine q_get (v := .ref a_moved) fx inX5 h 0 rfl rfl 17 (by decide) k_653 rfl dX5_copy_127 ?_
  refine lv_iload hx hb dX5_copy_130 (lv_at hl 6 rfl) ?_
  refine lv_aload_n hx hb dX5_copy_132 rfl (lv_at hl 0 rfl) ?_
  refine q_get (v := .ref a_number) fx inX5 h 0 rfl rfl 16 (by decide) k_652 rfl dX5_copy_133 ?_
  refine lv_bipush (v := 40) hx hb dX5_copy_136 (by decide) ?_
  refine lv_iload_n hx hb dX5_copy_138 rfl (lv_at hl 1 rfl) ?_
  refine lv_imul hx hb dX5_copy_139 ?_
  refine lv_iload_n hx hb dX5_copy_140 rfl (lv_at hl 2 rfl) ?_
  refine lv_iadd hx hb dX5_copy_141 ?_
  refine lv_iload hx hb dX5_copy_142 (lv_at hl 6 rfl) ?_
  refine lv_iadd hx hb dX5_copy_144 ?_
  obtain ⟨i6, hf⟩ := gIn_inv hf
  refine q_lald fx h 4 rfl i6 dX5_copy_145 ?_
  obtain ⟨i7, hf⟩ := gIn_inv hf
  refine q_last (ws' := (wX5_copy cI cJ cZ cS a_t a_s a_keptS a_statuses a_pile a_tape a_steps a_wish a_mark a_bitsOf a_sizeOf a_number a_moved v_isKept v_taped v_at v_fault v_laid v_open v_statuses v_bitsOf v_sizeOf v_number (vp_updL v_moved y6.toNatClampNeg (v_number (((40 * y1) + y2) + y6).toNatClampNeg)))) fx h 5 rfl i7 rfl dX5_copy_146 (fun H locs h => ?_)
  obtain ⟨u8, eu8, hf⟩ := nm_inv hf
  refine lv_iinc (v := u8) (lv' := [(6, .int u8), (0, .ref a_t), (1, .int y1), (2, .int y2), (3, .int y3), (4, .int y4), (5, .int y5)]) hx hb dX5_copy_147 hl (k := 6) rfl (by rw [eu8]; rfl) (by decide) rfl (fun ls hl => ?_)
  refine lv_goto (tgt := 119) hx hb dX5_copy_150 (by decide) ?_
  exact hag119 h (lv_sub hl [1, 2, 3, 4, 5, 6, 0] rfl) hf
set_option maxRecDepth 100000 in
theorem EX5_copy_119 {p : Program} {l : Launch} {e : Env} {s : State} {m : MethodId} {args : Array Value} {below : List Frame} {meth : Method} {c : Code} {D : va_G} {cI cJ cZ cS : ClassId} {tb : Nat} {A : Nat → Prop} {a_t a_s a_keptS a_statuses a_pile a_tape a_steps a_wish a_mark a_bitsOf a_sizeOf a_number a_moved : Nat} {v_isKept : Int32} {v_taped : Int32} {v_at : Int32} {v_fault : Int32} {v_laid : Int32} {v_open : Int32} {v_bitsOf : Nat → Int32} {v_sizeOf : Nat → Int32} {rr : Int32} {kk' : (Nat → Int32) × (Nat → Int64) × (Nat → Int64)} (fx : q_Fx p s m args meth c cX5_copy 7 RX5 (some .int) D cI cJ cZ cS tb A) : ∀ (n : Nat), ∀ {v_statuses : Nat → Int32} {v_number : Nat → Int64} {v_moved : Nat → Int64} {y1 : Int32} {y2 : Int32} {y3 : Int32} {y4 : Int32} {y5 : Int32} {y6 : Int32} {H : Heap} {locs : List Loc} {ls : Array Slot}, q_H D A s (wX5_copy cI cJ cZ cS a_t a_s a_keptS a_statuses a_pile a_tape a_steps a_wish a_mark a_bitsOf a_sizeOf a_number a_moved v_isKept v_taped v_at v_fault v_laid v_open v_statuses v_bitsOf v_sizeOf v_number v_moved) H locs → lv_has ls 7 [(0, .ref a_t), (1, .int y1), (2, .int y2), (3, .int y3), (4, .int y4), (5, .int y5), (6, .int y6)] → ll9 (fX5_copy_119 v_bitsOf v_sizeOf) n v_statuses v_number v_moved y1 y2 y3 y4 y5 y6 = some (rr, kk') → W p l e rX5_copy s m args below meth c H locs 0 0 (MQ below (q_Ri D rr A ((fun k : (Nat → Int32) × (Nat → Int64) × (Nat → Int64) => (wX5_copy cI cJ cZ cS a_t a_s a_keptS a_statuses a_pile a_tape a_steps a_wish a_mark a_bitsOf a_sizeOf a_number a_moved v_isKept v_taped v_at v_fault v_laid v_open k.1 v_bitsOf v_sizeOf k.2.1 k.2.2)) kk')) args s 0 0 A) (F0 m 119 ls []) := by
  intro n
  induction n with
  | zero => intro v_statuses v_number v_moved y1 y2 y3 y4 y5 y6 H locs ls h hl hf; exact (ll9_z hf).elim
  | succ n ih => intro v_statuses v_number v_moved y1 y2 y3 y4 y5 y6 H locs ls h hl hf; exact LX5_copy_119 fx ih h hl (ll9_s hf)
def fX5_copy_109 (v_bitsOf : Nat → Int32) (v_sizeOf : Nat → Int32) (v_statuses : Nat → Int32) (v_number : Nat → Int64) (v_moved : Nat → Int64) : Option (Int32 × (Nat → Int32) × (Nat → Int64) × (Nat → Int64)) :=
  bR (fX5_finds v_statuses (-1000000001)) (fun r9 k9 =>
  some (r9, (k9, v_number, v_moved)))
set_option maxRecDepth 100000 in
set_option maxHeartbeats 4000000 in
theorem LX5_copy_109 {p : Program} {l : Launch} {e : Env} {s : State} {m : MethodId} {args : Array Value} {below : List Frame} {meth : Method} {c : Code} {D : va_G} {cI cJ cZ cS : ClassId} {tb : Nat} {A : Nat → Prop} {a_t a_s a_keptS a_statuses a_pile a_tape a_steps a_wish a_mark a_bitsOf a_sizeOf a_number a_moved : Nat} {v_isKept : Int32} {v_taped : Int32} {v_at : Int32} {v_fault : Int32} {v_laid : Int32} {v_open : Int32} {v_bitsOf : Nat → Int32} {v_sizeOf : Nat → Int32} {rr : Int32} {kk' : (Nat → Int32) × (Nat → Int64) × (Nat → Int64)} (fx : q_Fx p s m args meth c cX5_copy 7 RX5 (some .int) D cI cJ cZ cS tb A) : ∀ {v_statuses : Nat → Int32} {v_number : Nat → Int64} {v_moved : Nat → Int64} {H : Heap} {locs : List Loc} {ls : Array Slot}, q_H D A s (wX5_copy cI cJ cZ cS a_t a_s a_keptS a_statuses a_pile a_tape a_steps a_wish a_mark a_bitsOf a_sizeOf a_number a_moved v_isKept v_taped v_at v_fault v_laid v_open v_statuses v_bitsOf v_sizeOf v_number v_moved) H locs → lv_has ls 7 [(0, .ref a_t)] → fX5_copy_109 v_bitsOf v_sizeOf v_statuses v_number v_moved = some (rr, kk') → W p l e rX5_copy s m args below meth c H locs 0 0 (MQ below (q_Ri D rr A ((fun k : (Nat → Int32) × (Nat → Int64) × (Nat → Int64) => (wX5_copy cI cJ cZ cS a_t a_s a_keptS a_statuses a_pile a_tape a_steps a_wish a_mark a_bitsOf a_sizeOf a_number a_moved v_isKept v_taped v_at v_fault v_laid v_open k.1 v_bitsOf v_sizeOf k.2.1 k.2.2)) kk')) args s 0 0 A) (F0 m 109 ls []) := by
  intro v_statuses v_number v_moved H locs ls h hl hf
  have hx := fx.1
  have hb := fx.2.1
  unfold fX5_copy_109 at hf
  refine lv_aload_n hx hb dX5_copy_109 rfl (lv_at hl 0 rfl) ?_
  refine q_ldc fx k_701 dX5_copy_110 ?_
  obtain ⟨r9, k9, hg, hf⟩ := bR_inv hf
  refine q_ci (rest := []) (ws' := (wX5_copy cI cJ cZ cS a_t a_s a_keptS a_statuses a_pile a_tape a_steps a_wish a_mark a_bitsOf a_sizeOf a_number a_moved v_isKept v_taped v_at v_fault v_laid v_open k9 v_bitsOf v_sizeOf v_number v_moved)) (w1 := (wX5_finds cI cJ cZ cS a_t a_s a_keptS a_statuses a_pile a_tape a_steps a_wish a_mark a_bitsOf a_sizeOf a_number a_moved v_isKept v_taped v_at v_fault v_laid v_open k9)) fx h [0, 1] rfl rfl rfl rfl (q_runV fx h hl.1 [0, 1] rfl rfl (tX5_finds l D cI cJ cZ cS tb a_t a_s a_keptS a_statuses a_pile a_tape a_steps a_wish a_mark a_bitsOf a_sizeOf a_number a_moved H.size v_isKept v_taped v_at v_fault v_laid v_open v_statuses (-1000000001) r9 k9 hg) mvX5_finds k_702 ⟨rfl, rfl⟩ ⟨Nat.le_of_ble_eq_true rfl, Nat.le_of_ble_eq_true rfl⟩ rfl rfl rfl rfl (Nat.le_of_ble_eq_true rfl) dX5_copy_112 ⟨Nat.le_of_ble_eq_true rfl, Nat.le_of_ble_eq_true rfl⟩) (fun H locs h => ?_)
  exact q_reti (fun k : (Nat → Int32) × (Nat → Int64) × (Nat → Int64) => (wX5_copy cI cJ cZ cS a_t a_s a_keptS a_statuses a_pile a_tape a_steps a_wish a_mark a_bitsOf a_sizeOf a_number a_moved v_isKept v_taped v_at v_fault v_laid v_open k.1 v_bitsOf v_sizeOf k.2.1 k.2.2)) fx hf h dX5_copy_115
def fX5_copy_39 (v_bitsOf : Nat → Int32) (v_sizeOf : Nat → Int32) (v_statuses : Nat → Int32) (v_number : Nat → Int64) (v_moved : Nat → Int64) : Option (Int32 × (Nat → Int32) × (Nat → Int64) × (Nat → Int64)) :=
  bR (fX5_finds v_statuses (-1000000006)) (fun r10 k10 =>
  some (r10, (k10, v_number, v_moved)))
set_option maxRecDepth 100000 in
set_option maxHeartbeats 4000000 in
theorem LX5_copy_39 {p : Program} {l : Launch} {e : Env} {s : State} {m : MethodId} {args : Array Value} {below : List Frame} {meth : Method} {c : Code} {D : va_G} {cI cJ cZ cS : ClassId} {tb : Nat} {A : Nat → Prop} {a_t a_s a_keptS a_statuses a_pile a_tape a_steps a_wish a_mark a_bitsOf a_sizeOf a_number a_moved : Nat} {v_isKept : Int32} {v_taped : Int32} {v_at : Int32} {v_fault : Int32} {v_laid : Int32} {v_open : Int32} {v_bitsOf : Nat → Int32} {v_sizeOf : Nat → Int32} {rr : Int32} {kk' : (Nat → Int32) × (Nat → Int64) × (Nat → Int64)} (fx : q_Fx p s m args meth c cX5_copy 7 RX5 (some .int) D cI cJ cZ cS tb A) : ∀ {v_statuses : Nat → Int32} {v_number : Nat → Int64} {v_moved : Nat → Int64} {H : Heap} {locs : List Loc} {ls : Array Slot}, q_H D A s (wX5_copy cI cJ cZ cS a_t a_s a_keptS a_statuses a_pile a_tape a_steps a_wish a_mark a_bitsOf a_sizeOf a_number a_moved v_isKept v_taped v_at v_fault v_laid v_open v_statuses v_bitsOf v_sizeOf v_number v_moved) H locs → lv_has ls 7 [(0, .ref a_t)] → fX5_copy_39 v_bitsOf v_sizeOf v_statuses v_number v_moved = some (rr, kk') → W p l e rX5_copy s m args below meth c H locs 0 0 (MQ below (q_Ri D rr A ((fun k : (Nat → Int32) × (Nat → Int64) × (Nat → Int64) => (wX5_copy cI cJ cZ cS a_t a_s a_keptS a_statuses a_pile a_tape a_steps a_wish a_mark a_bitsOf a_sizeOf a_number a_moved v_isKept v_taped v_at v_fault v_laid v_open k.1 v_bitsOf v_sizeOf k.2.1 k.2.2)) kk')) args s 0 0 A) (F0 m 39 ls []) := by
  intro v_statuses v_number v_moved H locs ls h hl hf
  have hx := fx.1
  have hb := fx.2.1
  unfold fX5_copy_39 at hf
  refine lv_aload_n hx hb dX5_copy_39 rfl (lv_at hl 0 rfl) ?_
  refine q_ldc fx k_971 dX5_copy_40 ?_
  obtain ⟨r10, k10, hg, hf⟩ := bR_inv hf
  refine q_ci (rest := []) (ws' := (wX5_copy cI cJ cZ cS a_t a_s a_keptS a_statuses a_pile a_tape a_steps a_wish a_mark a_bitsOf a_sizeOf a_number a_moved v_isKept v_taped v_at v_fault v_laid v_open k10 v_bitsOf v_sizeOf v_number v_moved)) (w1 := (wX5_finds cI cJ cZ cS a_t a_s a_keptS a_statuses a_pile a_tape a_steps a_wish a_mark a_bitsOf a_sizeOf a_number a_moved v_isKept v_taped v_at v_fault v_laid v_open k10)) fx h [0, 1] rfl rfl rfl rfl (q_runV fx h hl.1 [0, 1] rfl rfl (tX5_finds l D cI cJ cZ cS tb a_t a_s a_keptS a_statuses a_pile a_tape a_steps a_wish a_mark a_bitsOf a_sizeOf a_number a_moved H.size v_isKept v_taped v_at v_fault v_laid v_open v_statuses (-1000000006) r10 k10 hg) mvX5_finds k_702 ⟨rfl, rfl⟩ ⟨Nat.le_of_ble_eq_true rfl, Nat.le_of_ble_eq_true rfl⟩ rfl rfl rfl rfl (Nat.le_of_ble_eq_true rfl) dX5_copy_42 ⟨Nat.le_of_ble_eq_true rfl, Nat.le_of_ble_eq_true rfl⟩) (fun H locs h => ?_)
  exact q_reti (fun k : (Nat → Int32) × (Nat → Int64) × (Nat → Int64) => (wX5_copy cI cJ cZ cS a_t a_s a_keptS a_statuses a_pile a_tape a_steps a_wish a_mark a_bitsOf a_sizeOf a_number a_moved v_isKept v_taped v_at v_fault v_laid v_open k.1 v_bitsOf v_sizeOf k.2.1 k.2.2)) fx hf h dX5_copy_45
def fX5_copy_14 (v_bitsOf : Nat → Int32) (v_sizeOf : Nat → Int32) (v_statuses : Nat → Int32) (v_number : Nat → Int64) (v_moved : Nat → Int64) : Option (Int32 × (Nat → Int32) × (Nat → Int64) × (Nat → Int64)) :=
  bR (fX5_finds v_statuses (-1000000001)) (fun r11 k11 =>
  some (r11, (k11, v_number, v_moved)))
set_option maxRecDepth 100000 in
set_option maxHeartbeats 4000000 in
theorem LX5_copy_14 {p : Program} {l : Launch} {e : Env} {s : State} {m : MethodId} {args : Array Value} {below : List Frame} {meth : Method} {c : Code} {D : va_G} {cI cJ cZ cS : ClassId} {tb : Nat} {A : Nat → Prop} {a_t a_s a_keptS a_statuses a_pile a_tape a_steps a_wish a_mark a_bitsOf a_sizeOf a_number a_moved : Nat} {v_isKept : Int32} {v_taped : Int32} {v_at : Int32} {v_fault : Int32} {v_laid : Int32} {v_open : Int32} {v_bitsOf : Nat → Int32} {v_sizeOf : Nat → Int32} {rr : Int32} {kk' : (Nat → Int32) × (Nat → Int64) × (Nat → Int64)} (fx : q_Fx p s m args meth c cX5_copy 7 RX5 (some .int) D cI cJ cZ cS tb A) : ∀ {v_statuses : Nat → Int32} {v_number : Nat → Int64} {v_moved : Nat → Int64} {H : Heap} {locs : List Loc} {ls : Array Slot}, q_H D A s (wX5_copy cI cJ cZ cS a_t a_s a_keptS a_statuses a_pile a_tape a_steps a_wish a_mark a_bitsOf a_sizeOf a_number a_moved v_isKept v_taped v_at v_fault v_laid v_open v_statuses v_bitsOf v_sizeOf v_number v_moved) H locs → lv_has ls 7 [(0, .ref a_t)] → fX5_copy_14 v_bitsOf v_sizeOf v_statuses v_number v_moved = some (rr, kk') → W p l e rX5_copy s m args below meth c H locs 0 0 (MQ below (q_Ri D rr A ((fun k : (Nat → Int32) × (Nat → Int64) × (Nat → Int64) => (wX5_copy cI cJ cZ cS a_t a_s a_keptS a_statuses a_pile a_tape a_steps a_wish a_mark a_bitsOf a_sizeOf a_number a_moved v_isKept v_taped v_at v_fault v_laid v_open k.1 v_bitsOf v_sizeOf k.2.1 k.2.2)) kk')) args s 0 0 A) (F0 m 14 ls []) := by
  intro v_statuses v_number v_moved H locs ls h hl hf
  have hx := fx.1
  have hb := fx.2.1
  unfold fX5_copy_14 at hf
  refine lv_aload_n hx hb dX5_copy_14 rfl (lv_at hl 0 rfl) ?_
  refine q_ldc fx k_701 dX5_copy_15 ?_
  obtain ⟨r11, k11, hg, hf⟩ := bR_inv hf
  refine q_ci (rest := []) (ws' := (wX5_copy cI cJ cZ cS a_t a_s a_keptS a_statuses a_pile a_tape a_steps a_wish a_mark a_bitsOf a_sizeOf a_number a_moved v_isKept v_taped v_at v_fault v_laid v_open k11 v_bitsOf v_sizeOf v_number v_moved)) (w1 := (wX5_finds cI cJ cZ cS a_t a_s a_keptS a_statuses a_pile a_tape a_steps a_wish a_mark a_bitsOf a_sizeOf a_number a_moved v_isKept v_taped v_at v_fault v_laid v_open k11)) fx h [0, 1] rfl rfl rfl rfl (q_runV fx h hl.1 [0, 1] rfl rfl (tX5_finds l D cI cJ cZ cS tb a_t a_s a_keptS a_statuses a_pile a_tape a_steps a_wish a_mark a_bitsOf a_sizeOf a_number a_moved H.size v_isKept v_taped v_at v_fault v_laid v_open v_statuses (-1000000001) r11 k11 hg) mvX5_finds k_702 ⟨rfl, rfl⟩ ⟨Nat.le_of_ble_eq_true rfl, Nat.le_of_ble_eq_true rfl⟩ rfl rfl rfl rfl (Nat.le_of_ble_eq_true rfl) dX5_copy_17 ⟨Nat.le_of_ble_eq_true rfl, Nat.le_of_ble_eq_true rfl⟩) (fun H locs h => ?_)
  exact q_reti (fun k : (Nat → Int32) × (Nat → Int64) × (Nat → Int64) => (wX5_copy cI cJ cZ cS a_t a_s a_keptS a_statuses a_pile a_tape a_steps a_wish a_mark a_bitsOf a_sizeOf a_number a_moved v_isKept v_taped v_at v_fault v_laid v_open k.1 v_bitsOf v_sizeOf k.2.1 k.2.2)) fx hf h dX5_copy_20
def fX5_copy (v_statuses : Nat → Int32) (v_bitsOf : Nat → Int32) (v_sizeOf : Nat → Int32) (v_number : Nat → Int64) (v_moved : Nat → Int64) (x1 : Int32) (x2 : Int32) (x3 : Int32) (x4 : Int32) (x5 : Int32) : Option (Int32 × (Nat → Int32) × (Nat → Int64) × (Nat → Int64)) :=
  bR (fX5_isOne x1) (fun r12 k12 =>
  (if r12 = 0 then (
  fX5_copy_14 v_bitsOf v_sizeOf v_statuses v_number v_moved)
  else (
  bR (fX5_isOne x3) (fun r14 k14 =>
  (if r14 = 0 then (
  fX5_copy_14 v_bitsOf v_sizeOf v_statuses v_number v_moved)
  else (
  gIn x1 4 (
  (if (v_bitsOf x1.toNatClampNeg) = 0 then (
  fX5_copy_39 v_bitsOf v_sizeOf v_statuses v_number v_moved)
  else (
  gIn x3 4 (
  (if (v_bitsOf x3.toNatClampNeg) = 0 then (
  fX5_copy_39 v_bitsOf v_sizeOf v_statuses v_number v_moved)
  else (
  gIn x1 4 (
  gIn x3 4 (
  (if (v_bitsOf x1.toNatClampNeg) = (v_bitsOf x3.toNatClampNeg) then (
  (if x2 < 0 then (
  fX5_copy_109 v_bitsOf v_sizeOf v_statuses v_number v_moved)
  else (
  (if x4 < 0 then (
  fX5_copy_109 v_bitsOf v_sizeOf v_statuses v_number v_moved)
  else (
  (if x5 < 0 then (
  fX5_copy_109 v_bitsOf v_sizeOf v_statuses v_number v_moved)
  else (
  gIn x1 4 (
  (if ((v_sizeOf x1.toNatClampNeg) - x2) < x5 then (
  fX5_copy_109 v_bitsOf v_sizeOf v_statuses v_number v_moved)
  else (
  gIn x3 4 (
  (if x5 ≤ ((v_sizeOf x3.toNatClampNeg) - x4) then (
  ll9 (fX5_copy_119 v_bitsOf v_sizeOf) qF v_statuses v_number v_moved x1 x2 x3 x4 x5 0)
  else (
  fX5_copy_109 v_bitsOf v_sizeOf v_statuses v_number v_moved)))))))))))))
  else (
  bR (fX5_finds v_statuses (-1000000003)) (fun r30 k30 =>
  some (r30, (k30, v_number, v_moved)))))))))))))))))))
set_option maxRecDepth 100000 in
set_option maxHeartbeats 4000000 in
theorem tX5_copy (l : Launch) (D : va_G) (cI cJ cZ cS : ClassId) (tb : Nat) (a_t a_s a_keptS a_statuses a_pile a_tape a_steps a_wish a_mark a_bitsOf a_sizeOf a_number a_moved : Nat) (sz : Nat) (v_isKept : Int32) (v_taped : Int32) (v_at : Int32) (v_fault : Int32) (v_laid : Int32) (v_open : Int32) (v_statuses : Nat → Int32) (v_bitsOf : Nat → Int32) (v_sizeOf : Nat → Int32) (v_number : Nat → Int64) (v_moved : Nat → Int64) (x1 : Int32) (x2 : Int32) (x3 : Int32) (x4 : Int32) (x5 : Int32) (rr : Int32) (kk' : (Nat → Int32) × (Nat → Int64) × (Nat → Int64)) (hf : fX5_copy v_statuses v_bitsOf v_sizeOf v_number v_moved x1 x2 x3 x4 x5 = some (rr, kk')) : Met l yX5_copy (Cond.code yX5_copy cX5_copy 7 (some .int) :: wA) rX5_copy (q_Pre D cI cJ cZ cS tb [.ref a_t, .int x1, .int x2, .int x3, .int x4, .int x5] sz (wX5_copy cI cJ cZ cS a_t a_s a_keptS a_statuses a_pile a_tape a_steps a_wish a_mark a_bitsOf a_sizeOf a_number a_moved v_isKept v_taped v_at v_fault v_laid v_open v_statuses v_bitsOf v_sizeOf v_number v_moved)) (q_Ri D rr (va_A (wX5_copy cI cJ cZ cS a_t a_s a_keptS a_statuses a_pile a_tape a_steps a_wish a_mark a_bitsOf a_sizeOf a_number a_moved v_isKept v_taped v_at v_fault v_laid v_open v_statuses v_bitsOf v_sizeOf v_number v_moved) sz) ((fun k : (Nat → Int32) × (Nat → Int64) × (Nat → Int64) => (wX5_copy cI cJ cZ cS a_t a_s a_keptS a_statuses a_pile a_tape a_steps a_wish a_mark a_bitsOf a_sizeOf a_number a_moved v_isKept v_taped v_at v_fault v_laid v_open k.1 v_bitsOf v_sizeOf k.2.1 k.2.2)) kk')) 0 0 (va_A (wX5_copy cI cJ cZ cS a_t a_s a_keptS a_statuses a_pile a_tape a_steps a_wish a_mark a_bitsOf a_sizeOf a_number a_moved v_isKept v_taped v_at v_fault v_laid v_open v_statuses v_bitsOf v_sizeOf v_number v_moved) sz) := by
  refine q_enter (Qf := fun A => (q_Ri D rr A ((fun k : (Nat → Int32) × (Nat → Int64) × (Nat → Int64) => (wX5_copy cI cJ cZ cS a_t a_s a_keptS a_statuses a_pile a_tape a_steps a_wish a_mark a_bitsOf a_sizeOf a_number a_moved v_isKept v_taped v_at v_fault v_laid v_open k.1 v_bitsOf v_sizeOf k.2.1 k.2.2)) kk'))) (by decide) rfl (Nat.le_of_ble_eq_true rfl) ?_
  intro p e s m below meth c A ls fx hname h hl
  have hx := fx.1
  have hb := fx.2.1
  have hl : lv_has ls 7 [(0, .ref a_t), (1, .int x1), (2, .int x2), (3, .int x3), (4, .int x4), (5, .int x5)] := hl
  generalize h9 : s.heap = H at h ⊢
  clear h9
  generalize h9 : ([] : List Loc) = locs at h ⊢
  clear h9
  unfold fX5_copy at hf
  refine lv_iload_n hx hb dX5_copy_0 rfl (lv_at hl 1 rfl) ?_
  obtain ⟨r12, k12, hg, hf⟩ := bR_inv hf
  refine q_ci (rest := []) (ws' := (wX5_copy cI cJ cZ cS a_t a_s a_keptS a_statuses a_pile a_tape a_steps a_wish a_mark a_bitsOf a_sizeOf a_number a_moved v_isKept v_taped v_at v_fault v_laid v_open v_statuses v_bitsOf v_sizeOf v_number v_moved)) (w1 := (wX5_isOne cI cJ cZ cS)) fx h [] rfl rfl rfl rfl (q_runS fx h hl.1 [] rfl rfl (tX5_isOne l D cI cJ cZ cS tb H.size x1 r12 k12 hg) msX5_isOne k_959 ⟨rfl, rfl⟩ ⟨Nat.le_of_ble_eq_true rfl, Nat.le_of_ble_eq_true rfl⟩ rfl rfl (Nat.le_of_ble_eq_true rfl) dX5_copy_1 ⟨Nat.le_of_ble_eq_true rfl, Nat.le_of_ble_eq_true rfl⟩) (fun H locs h => ?_)
  refine lv_if_eq (tgt := 14) hx hb dX5_copy_4 (by decide) (fun c13 => ?_) (fun c13 => ?_)
  · have hf := it_t c13 hf
    exact LX5_copy_14 fx h (lv_sub hl [0] rfl) hf
  have hf := it_f c13 hf
  refine lv_iload_n hx hb dX5_copy_7 rfl (lv_at hl 3 rfl) ?_
  obtain ⟨r14, k14, hg, hf⟩ := bR_inv hf
  refine q_ci (rest := []) (ws' := (wX5_copy cI cJ cZ cS a_t a_s a_keptS a_statuses a_pile a_tape a_steps a_wish a_mark a_bitsOf a_sizeOf a_number a_moved v_isKept v_taped v_at v_fault v_laid v_open v_statuses v_bitsOf v_sizeOf v_number v_moved)) (w1 := (wX5_isOne cI cJ cZ cS)) fx h [] rfl rfl rfl rfl (q_runS fx h hl.1 [] rfl rfl (tX5_isOne l D cI cJ cZ cS tb H.size x3 r14 k14 hg) msX5_isOne k_959 ⟨rfl, rfl⟩ ⟨Nat.le_of_ble_eq_true rfl, Nat.le_of_ble_eq_true rfl⟩ rfl rfl (Nat.le_of_ble_eq_true rfl) dX5_copy_8 ⟨Nat.le_of_ble_eq_true rfl, Nat.le_of_ble_eq_true rfl⟩) (fun H locs h => ?_)
  refine lv_if_ne (tgt := 21) hx hb dX5_copy_11 (by decide) (fun c15 => ?_) (fun c15 => ?_)
  · have hf := it_f c15 hf
    refine lv_aload_n hx hb dX5_copy_21 rfl (lv_at hl 0 rfl) ?_
    refine q_get (v := .ref a_bitsOf) fx inX5 h 0 rfl rfl 14 (by decide) k_650 rfl dX5_copy_22 ?_
    refine lv_iload_n hx hb dX5_copy_25 rfl (lv_at hl 1 rfl) ?_
    obtain ⟨i16, hf⟩ := gIn_inv hf
    refine q_iald fx h 2 rfl i16 dX5_copy_26 ?_
    refine lv_if_eq (tgt := 39) hx hb dX5_copy_27 (by decide) (fun c17 => ?_) (fun c17 => ?_)
    · have hf := it_t c17 hf
      exact LX5_copy_39 fx h (lv_sub hl [0] rfl) hf
    have hf := it_f c17 hf
    refine lv_aload_n hx hb dX5_copy_30 rfl (lv_at hl 0 rfl) ?_
    refine q_get (v := .ref a_bitsOf) fx inX5 h 0 rfl rfl 14 (by decide) k_650 rfl dX5_copy_31 ?_
    refine lv_iload_n hx hb dX5_copy_34 rfl (lv_at hl 3 rfl) ?_
    obtain ⟨i18, hf⟩ := gIn_inv hf
    refine q_iald fx h 2 rfl i18 dX5_copy_35 ?_
    refine lv_if_ne (tgt := 46) hx hb dX5_copy_36 (by decide) (fun c19 => ?_) (fun c19 => ?_)
    · have hf := it_f c19 hf
      refine lv_aload_n hx hb dX5_copy_46 rfl (lv_at hl 0 rfl) ?_
      refine q_get (v := .ref a_bitsOf) fx inX5 h 0 rfl rfl 14 (by decide) k_650 rfl dX5_copy_47 ?_
      refine lv_iload_n hx hb dX5_copy_50 rfl (lv_at hl 1 rfl) ?_
      obtain ⟨i20, hf⟩ := gIn_inv hf
      refine q_iald fx h 2 rfl i20 dX5_copy_51 ?_
      refine lv_aload_n hx hb dX5_copy_52 rfl (lv_at hl 0 rfl) ?_
      refine q_get (v := .ref a_bitsOf) fx inX5 h 0 rfl rfl 14 (by decide) k_650 rfl dX5_copy_53 ?_
      refine lv_iload_n hx hb dX5_copy_56 rfl (lv_at hl 3 rfl) ?_
      obtain ⟨i21, hf⟩ := gIn_inv hf
      refine q_iald fx h 2 rfl i21 dX5_copy_57 ?_
      refine lv_icmp_eq (tgt := 68) hx hb dX5_copy_58 (by decide) (fun c22 => ?_) (fun c22 => ?_)
      · have hf := it_t c22 hf
        refine lv_iload_n hx hb dX5_copy_68 rfl (lv_at hl 2 rfl) ?_
        refine lv_if_lt (tgt := 109) hx hb dX5_copy_69 (by decide) (fun c23 => ?_) (fun c23 => ?_)
        · have hf := it_t c23 hf
          exact LX5_copy_109 fx h (lv_sub hl [0] rfl) hf
        have hf := it_f c23 hf
        refine lv_iload hx hb dX5_copy_72 (lv_at hl 4 rfl) ?_
        refine lv_if_lt (tgt := 109) hx hb dX5_copy_74 (by decide) (fun c24 => ?_) (fun c24 => ?_)
        · have hf := it_t c24 hf
          exact LX5_copy_109 fx h (lv_sub hl [0] rfl) hf
        have hf := it_f c24 hf
        refine lv_iload hx hb dX5_copy_77 (lv_at hl 5 rfl) ?_
        refine lv_if_lt (tgt := 109) hx hb dX5_copy_79 (by decide) (fun c25 => ?_) (fun c25 => ?_)
        · have hf := it_t c25 hf
          exact LX5_copy_109 fx h (lv_sub hl [0] rfl) hf
        have hf := it_f c25 hf
        refine lv_iload hx hb dX5_copy_82 (lv_at hl 5 rfl) ?_
        refine lv_aload_n hx hb dX5_copy_84 rfl (lv_at hl 0 rfl) ?_
        refine q_get (v := .ref a_sizeOf) fx inX5 h 0 rfl rfl 15 (by decide) k_651 rfl dX5_copy_85 ?_
        refine lv_iload_n hx hb dX5_copy_88 rfl (lv_at hl 1 rfl) ?_
        obtain ⟨i26, hf⟩ := gIn_inv hf
        refine q_iald fx h 3 rfl i26 dX5_copy_89 ?_
        refine lv_iload_n hx hb dX5_copy_90 rfl (lv_at hl 2 rfl) ?_
        refine lv_isub hx hb dX5_copy_91 ?_
        refine lv_icmp_gt (tgt := 109) hx hb dX5_copy_92 (by decide) (fun c27 => ?_) (fun c27 => ?_)
        · have hf := it_t c27 hf
          exact LX5_copy_109 fx h (lv_sub hl [0] rfl) hf
        have hf := it_f c27 hf
        refine lv_iload hx hb dX5_copy_95 (lv_at hl 5 rfl) ?_
        refine lv_aload_n hx hb dX5_copy_97 rfl (lv_at hl 0 rfl) ?_
        refine q_get (v := .ref a_sizeOf) fx inX5 h 0 rfl rfl 15 (by decide) k_651 rfl dX5_copy_98 ?_
        refine lv_iload_n hx hb dX5_copy_101 rfl (lv_at hl 3 rfl) ?_
        obtain ⟨i28, hf⟩ := gIn_inv hf
        refine q_iald fx h 3 rfl i28 dX5_copy_102 ?_
        refine lv_iload hx hb dX5_copy_103 (lv_at hl 4 rfl) ?_
        refine lv_isub hx hb dX5_copy_105 ?_
        refine lv_icmp_le (tgt := 116) hx hb dX5_copy_106 (by decide) (fun c29 => ?_) (fun c29 => ?_)
        · have hf := it_t c29 hf
          refine lv_iconst (v := 0) hx hb dX5_copy_116 (by decide) ?_
          refine lv_istore (lv' := [(6, .int 0), (0, .ref a_t), (1, .int x1), (2, .int x2), (3, .int x3), (4, .int x4), (5, .int x5)]) hx hb dX5_copy_117 hl (by decide) rfl (fun ls hl => ?_)
          exact EX5_copy_119 fx qF h (lv_sub hl [1, 2, 3, 4, 5, 6, 0] rfl) hf
        have hf := it_f c29 hf
        exact LX5_copy_109 fx h (lv_sub hl [0] rfl) hf
      have hf := it_f c22 hf
      refine lv_aload_n hx hb dX5_copy_61 rfl (lv_at hl 0 rfl) ?_
      refine q_ldc fx k_752 dX5_copy_62 ?_
      obtain ⟨r30, k30, hg, hf⟩ := bR_inv hf
      refine q_ci (rest := []) (ws' := (wX5_copy cI cJ cZ cS a_t a_s a_keptS a_statuses a_pile a_tape a_steps a_wish a_mark a_bitsOf a_sizeOf a_number a_moved v_isKept v_taped v_at v_fault v_laid v_open k30 v_bitsOf v_sizeOf v_number v_moved)) (w1 := (wX5_finds cI cJ cZ cS a_t a_s a_keptS a_statuses a_pile a_tape a_steps a_wish a_mark a_bitsOf a_sizeOf a_number a_moved v_isKept v_taped v_at v_fault v_laid v_open k30)) fx h [0, 1] rfl rfl rfl rfl (q_runV fx h hl.1 [0, 1] rfl rfl (tX5_finds l D cI cJ cZ cS tb a_t a_s a_keptS a_statuses a_pile a_tape a_steps a_wish a_mark a_bitsOf a_sizeOf a_number a_moved H.size v_isKept v_taped v_at v_fault v_laid v_open v_statuses (-1000000003) r30 k30 hg) mvX5_finds k_702 ⟨rfl, rfl⟩ ⟨Nat.le_of_ble_eq_true rfl, Nat.le_of_ble_eq_true rfl⟩ rfl rfl rfl rfl (Nat.le_of_ble_eq_true rfl) dX5_copy_64 ⟨Nat.le_of_ble_eq_true rfl, Nat.le_of_ble_eq_true rfl⟩) (fun H locs h => ?_)
      exact q_reti (fun k : (Nat → Int32) × (Nat → Int64) × (Nat → Int64) => (wX5_copy cI cJ cZ cS a_t a_s a_keptS a_statuses a_pile a_tape a_steps a_wish a_mark a_bitsOf a_sizeOf a_number a_moved v_isKept v_taped v_at v_fault v_laid v_open k.1 v_bitsOf v_sizeOf k.2.1 k.2.2)) fx hf h dX5_copy_67
    have hf := it_t c19 hf
    exact LX5_copy_39 fx h (lv_sub hl [0] rfl) hf
  have hf := it_t c15 hf
  exact LX5_copy_14 fx h (lv_sub hl [0] rfl) hf
/-! X5_lays -/
abbrev wX5_lays (cI cJ cZ cS : ClassId) (a_t a_s a_keptS a_statuses a_pile a_tape a_steps a_wish a_mark a_bitsOf a_sizeOf a_number a_moved : Nat) (v_isKept : Int32) (v_taped : Int32) (v_at : Int32) (v_fault : Int32) (v_laid : Int32) (v_open : Int32) (v_s : Nat → Int32) (v_statuses : Nat → Int32) (v_bitsOf : Nat → Int32) (v_sizeOf : Nat → Int32) (v_number : Nat → Int64) : va_W := [(a_t, .inr (5, [.ref a_s, .ref a_keptS, .ref a_statuses, .int v_isKept, .ref a_pile, .ref a_tape, .ref a_steps, .int v_taped, .int v_at, .int v_fault, .int v_laid, .int v_open, .ref a_wish, .ref a_mark, .ref a_bitsOf, .ref a_sizeOf, .ref a_number, .ref a_moved])), (a_s, .inl (cI, 538, .inl v_s)), (a_statuses, .inl (cI, 7, .inl v_statuses)), (a_bitsOf, .inl (cI, 4, .inl v_bitsOf)), (a_sizeOf, .inl (cI, 4, .inl v_sizeOf)), (a_number, .inl (cJ, 160, .inr (.inl v_number)))]
abbrev rX5_lays : Room := { frames := 3, cells := 0, slots := 0, locals := 66 }
def fX5_lays_77 (v_bitsOf : Nat → Int32) (v_sizeOf : Nat → Int32) (v_number : Nat → Int64) (v_s : Nat → Int32) (v_statuses : Nat → Int32) (y3 : Int32) : Option (Int32 × (Nat → Int32) × (Nat → Int32)) :=
  some (y3, ((upd v_s 1 y3), v_statuses))
set_option maxRecDepth 100000 in
set_option maxHeartbeats 4000000 in
theorem LX5_lays_77 {p : Program} {l : Launch} {e : Env} {s : State} {m : MethodId} {args : Array Value} {below : List Frame} {meth : Method} {c : Code} {D : va_G} {cI cJ cZ cS : ClassId} {tb : Nat} {A : Nat → Prop} {a_t a_s a_keptS a_statuses a_pile a_tape a_steps a_wish a_mark a_bitsOf a_sizeOf a_number a_moved : Nat} {v_isKept : Int32} {v_taped : Int32} {v_at : Int32} {v_fault : Int32} {v_laid : Int32} {v_open : Int32} {v_bitsOf : Nat → Int32} {v_sizeOf : Nat → Int32} {v_number : Nat → Int64} {rr : Int32} {kk' : (Nat → Int32) × (Nat → Int32)} (fx : q_Fx p s m args meth c cX5_lays 5 RX5 (some .int) D cI cJ cZ cS tb A) : ∀ {v_s : Nat → Int32} {v_statuses : Nat → Int32} {y3 : Int32} {H : Heap} {locs : List Loc} {ls : Array Slot}, q_H D A s (wX5_lays cI cJ cZ cS a_t a_s a_keptS a_statuses a_pile a_tape a_steps a_wish a_mark a_bitsOf a_sizeOf a_number a_moved v_isKept v_taped v_at v_fault v_laid v_open v_s v_statuses v_bitsOf v_sizeOf v_number) H locs → lv_has ls 5 [(0, .ref a_t), (3, .int y3)] → fX5_lays_77 v_bitsOf v_sizeOf v_number v_s v_statuses y3 = some (rr, kk') → W p l e rX5_lays s m args below meth c H locs 0 0 (MQ below (q_Ri D rr A ((fun k : (Nat → Int32) × (Nat → Int32) => (wX5_lays cI cJ cZ cS a_t a_s a_keptS a_statuses a_pile a_tape a_steps a_wish a_mark a_bitsOf a_sizeOf a_number a_moved v_isKept v_taped v_at v_fault v_laid v_open k.1 k.2 v_bitsOf v_sizeOf v_number)) kk')) args s 0 0 A) (F0 m 77 ls []) := by
  intro v_s v_statuses y3 H locs ls h hl hf
  have hx := fx.1
  have hb := fx.2.1
  unfold fX5_lays_77 at hf
  refine lv_aload_n hx hb dX5_lays_77 rfl (lv_at hl 0 rfl) ?_
  refine q_get (v := .ref a_s) fx inX5 h 0 rfl rfl 0 (by decide) k_636 rfl dX5_lays_78 ?_
  refine lv_iconst (v := 1) hx hb dX5_lays_81 (by decide) ?_
  refine lv_iload_n hx hb dX5_lays_82 rfl (lv_at hl 1 rfl) ?_
  refine q_iastK (ws' := (wX5_lays cI cJ cZ cS a_t a_s a_keptS a_statuses a_pile a_tape a_steps a_wish a_mark a_bitsOf a_sizeOf a_number a_moved v_isKept v_taped v_at v_fault v_laid v_open (upd v_s 1 y3) v_statuses v_bitsOf v_sizeOf v_number)) fx h 1 rfl 1 (vinK (by decide)) (by decide) rfl dX5_lays_83 (fun H locs h => ?_)
  refine lv_iload_n hx hb dX5_lays_84 rfl (lv_at hl 1 rfl) ?_
  exact q_reti (fun k : (Nat → Int32) × (Nat → Int32) => (wX5_lays cI cJ cZ cS a_t a_s a_keptS a_statuses a_pile a_tape a_steps a_wish a_mark a_bitsOf a_sizeOf a_number a_moved v_isKept v_taped v_at v_fault v_laid v_open k.1 k.2 v_bitsOf v_sizeOf v_number)) fx hf h dX5_lays_85
def fX5_lays_69 (v_bitsOf : Nat → Int32) (v_sizeOf : Nat → Int32) (v_number : Nat → Int64) (ag21 : (Nat → Int32) → (Nat → Int32) → Int32 → Int32 → Int32 → Option (Int32 × (Nat → Int32) × (Nat → Int32))) (v_s : Nat → Int32) (v_statuses : Nat → Int32) (s0 : Int32) (s1 : Int32) (y1 : Int32) (y4 : Int32) : Option (Int32 × (Nat → Int32) × (Nat → Int32)) :=
  nm (s0 ||| s1) (fun u1 =>
  nm (y4 + 1) (fun u2 =>
  ag21 v_s v_statuses y1 u1 u2))
set_option maxRecDepth 100000 in
set_option maxHeartbeats 4000000 in
theorem LX5_lays_69 {p : Program} {l : Launch} {e : Env} {s : State} {m : MethodId} {args : Array Value} {below : List Frame} {meth : Method} {c : Code} {D : va_G} {cI cJ cZ cS : ClassId} {tb : Nat} {A : Nat → Prop} {a_t a_s a_keptS a_statuses a_pile a_tape a_steps a_wish a_mark a_bitsOf a_sizeOf a_number a_moved : Nat} {v_isKept : Int32} {v_taped : Int32} {v_at : Int32} {v_fault : Int32} {v_laid : Int32} {v_open : Int32} {v_bitsOf : Nat → Int32} {v_sizeOf : Nat → Int32} {v_number : Nat → Int64} {rr : Int32} {kk' : (Nat → Int32) × (Nat → Int32)} (fx : q_Fx p s m args meth c cX5_lays 5 RX5 (some .int) D cI cJ cZ cS tb A) {ag21 : (Nat → Int32) → (Nat → Int32) → Int32 → Int32 → Int32 → Option (Int32 × (Nat → Int32) × (Nat → Int32))} (hag21 : ∀ {v_s : Nat → Int32} {v_statuses : Nat → Int32} {y1 : Int32} {y3 : Int32} {y4 : Int32} {H : Heap} {locs : List Loc} {ls : Array Slot}, q_H D A s (wX5_lays cI cJ cZ cS a_t a_s a_keptS a_statuses a_pile a_tape a_steps a_wish a_mark a_bitsOf a_sizeOf a_number a_moved v_isKept v_taped v_at v_fault v_laid v_open v_s v_statuses v_bitsOf v_sizeOf v_number) H locs → lv_has ls 5 [(0, .ref a_t), (1, .int y1), (3, .int y3), (4, .int y4)] → ag21 v_s v_statuses y1 y3 y4 = some (rr, kk') → W p l e rX5_lays s m args below meth c H locs 0 0 (MQ below (q_Ri D rr A ((fun k : (Nat → Int32) × (Nat → Int32) => (wX5_lays cI cJ cZ cS a_t a_s a_keptS a_statuses a_pile a_tape a_steps a_wish a_mark a_bitsOf a_sizeOf a_number a_moved v_isKept v_taped v_at v_fault v_laid v_open k.1 k.2 v_bitsOf v_sizeOf v_number)) kk')) args s 0 0 A) (F0 m 21 ls [])) : ∀ {v_s : Nat → Int32} {v_statuses : Nat → Int32} {s0 : Int32} {s1 : Int32} {y1 : Int32} {y4 : Int32} {H : Heap} {locs : List Loc} {ls : Array Slot}, q_H D A s (wX5_lays cI cJ cZ cS a_t a_s a_keptS a_statuses a_pile a_tape a_steps a_wish a_mark a_bitsOf a_sizeOf a_number a_moved v_isKept v_taped v_at v_fault v_laid v_open v_s v_statuses v_bitsOf v_sizeOf v_number) H locs → lv_has ls 5 [(0, .ref a_t), (1, .int y1), (4, .int y4)] → fX5_lays_69 v_bitsOf v_sizeOf v_number ag21 v_s v_statuses s0 s1 y1 y4 = some (rr, kk') → W p l e rX5_lays s m args below meth c H locs 0 0 (MQ below (q_Ri D rr A ((fun k : (Nat → Int32) × (Nat → Int32) => (wX5_lays cI cJ cZ cS a_t a_s a_keptS a_statuses a_pile a_tape a_steps a_wish a_mark a_bitsOf a_sizeOf a_number a_moved v_isKept v_taped v_at v_fault v_laid v_open k.1 k.2 v_bitsOf v_sizeOf v_number)) kk')) args s 0 0 A) (F0 m 69 ls [.int s1, .int s0]) := by
  intro v_s v_statuses s0 s1 y1 y4 H locs ls h hl hf
  have hx := fx.1
  have hb := fx.2.1
  unfold fX5_lays_69 at hf
  refine lv_ior hx hb dX5_lays_69 ?_
  obtain ⟨u1, eu1, hf⟩ := nm_inv hf
  refine lv_eqi eu1 ?_
  refine lv_istore_n (lv' := [(3, .int u1), (0, .ref a_t), (1, .int y1), (4, .int y4)]) hx hb dX5_lays_70 rfl hl (by decide) rfl (fun ls hl => ?_)
  obtain ⟨u2, eu2, hf⟩ := nm_inv hf
  refine lv_iinc (v := u2) (lv' := [(4, .int u2), (3, .int u1), (0, .ref a_t), (1, .int y1)]) hx hb dX5_lays_71 hl (k := 3) rfl (by rw [eu2]; rfl) (by decide) rfl (fun ls hl => ?_)
  refine lv_goto (tgt := 21) hx hb dX5_lays_74 (by decide) ?_
  exact hag21 h (lv_sub hl [2, 3, 1, 0] rfl) hf
def fX5_lays_21 (v_bitsOf : Nat → Int32) (v_sizeOf : Nat → Int32) (v_number : Nat → Int64) (ag21 : (Nat → Int32) → (Nat → Int32) → Int32 → Int32 → Int32 → Option (Int32 × (Nat → Int32) × (Nat → Int32))) (v_s : Nat → Int32) (v_statuses : Nat → Int32) (y1 : Int32) (y3 : Int32) (y4 : Int32) : Option (Int32 × (Nat → Int32) × (Nat → Int32)) :=
  (if (v_s 0) ≤ y4 then (
  fX5_lays_77 v_bitsOf v_sizeOf v_number v_s v_statuses y3)
  else (
  gIn y1 4 (
  (if (v_sizeOf y1.toNatClampNeg) ≤ y4 then (
  fX5_lays_77 v_bitsOf v_sizeOf v_number v_s v_statuses y3)
  else (
  gIn ((40 * y1) + y4) 160 (
  (if (lg_cmp (v_number ((40 * y1) + y4).toNatClampNeg) 0) = 0 then (
  fX5_lays_69 v_bitsOf v_sizeOf v_number ag21 v_s v_statuses y3 0 y1 y4)
  else (
  fX5_lays_69 v_bitsOf v_sizeOf v_number ag21 v_s v_statuses y3 (jshl 1 y4) y1 y4))))))))
set_option maxRecDepth 100000 in
set_option maxHeartbeats 4000000 in
theorem LX5_lays_21 {p : Program} {l : Launch} {e : Env} {s : State} {m : MethodId} {args : Array Value} {below : List Frame} {meth : Method} {c : Code} {D : va_G} {cI cJ cZ cS : ClassId} {tb : Nat} {A : Nat → Prop} {a_t a_s a_keptS a_statuses a_pile a_tape a_steps a_wish a_mark a_bitsOf a_sizeOf a_number a_moved : Nat} {v_isKept : Int32} {v_taped : Int32} {v_at : Int32} {v_fault : Int32} {v_laid : Int32} {v_open : Int32} {v_bitsOf : Nat → Int32} {v_sizeOf : Nat → Int32} {v_number : Nat → Int64} {rr : Int32} {kk' : (Nat → Int32) × (Nat → Int32)} (fx : q_Fx p s m args meth c cX5_lays 5 RX5 (some .int) D cI cJ cZ cS tb A) {ag21 : (Nat → Int32) → (Nat → Int32) → Int32 → Int32 → Int32 → Option (Int32 × (Nat → Int32) × (Nat → Int32))} (hag21 : ∀ {v_s : Nat → Int32} {v_statuses : Nat → Int32} {y1 : Int32} {y3 : Int32} {y4 : Int32} {H : Heap} {locs : List Loc} {ls : Array Slot}, q_H D A s (wX5_lays cI cJ cZ cS a_t a_s a_keptS a_statuses a_pile a_tape a_steps a_wish a_mark a_bitsOf a_sizeOf a_number a_moved v_isKept v_taped v_at v_fault v_laid v_open v_s v_statuses v_bitsOf v_sizeOf v_number) H locs → lv_has ls 5 [(0, .ref a_t), (1, .int y1), (3, .int y3), (4, .int y4)] → ag21 v_s v_statuses y1 y3 y4 = some (rr, kk') → W p l e rX5_lays s m args below meth c H locs 0 0 (MQ below (q_Ri D rr A ((fun k : (Nat → Int32) × (Nat → Int32) => (wX5_lays cI cJ cZ cS a_t a_s a_keptS a_statuses a_pile a_tape a_steps a_wish a_mark a_bitsOf a_sizeOf a_number a_moved v_isKept v_taped v_at v_fault v_laid v_open k.1 k.2 v_bitsOf v_sizeOf v_number)) kk')) args s 0 0 A) (F0 m 21 ls [])) : ∀ {v_s : Nat → Int32} {v_statuses : Nat → Int32} {y1 : Int32} {y3 : Int32} {y4 : Int32} {H : Heap} {locs : List Loc} {ls : Array Slot}, q_H D A s (wX5_lays cI cJ cZ cS a_t a_s a_keptS a_statuses a_pile a_tape a_steps a_wish a_mark a_bitsOf a_sizeOf a_number a_moved v_isKept v_taped v_at v_fault v_laid v_open v_s v_statuses v_bitsOf v_sizeOf v_number) H locs → lv_has ls 5 [(0, .ref a_t), (1, .int y1), (3, .int y3), (4, .int y4)] → fX5_lays_21 v_bitsOf v_sizeOf v_number ag21 v_s v_statuses y1 y3 y4 = some (rr, kk') → W p l e rX5_lays s m args below meth c H locs 0 0 (MQ below (q_Ri D rr A ((fun k : (Nat → Int32) × (Nat → Int32) => (wX5_lays cI cJ cZ cS a_t a_s a_keptS a_statuses a_pile a_tape a_steps a_wish a_mark a_bitsOf a_sizeOf a_number a_moved v_isKept v_taped v_at v_fault v_laid v_open k.1 k.2 v_bitsOf v_sizeOf v_number)) kk')) args s 0 0 A) (F0 m 21 ls []) := by
  intro v_s v_statuses y1 y3 y4 H locs ls h hl hf
  have hx := fx.1
  have hb := fx.2.1
  unfold fX5_lays_21 at hf
  refine lv_iload hx hb dX5_lays_21 (lv_at hl 3 rfl) ?_
  refine lv_aload_n hx hb dX5_lays_23 rfl (lv_at hl 0 rfl) ?_
  refine q_get (v := .ref a_s) fx inX5 h 0 rfl rfl 0 (by decide) k_636 rfl dX5_lays_24 ?_
  refine lv_iconst (v := 0) hx hb dX5_lays_27 (by decide) ?_
  refine q_ialdK fx h 1 rfl 0 (vinK (by decide)) (by decide) dX5_lays_28 ?_
  refine lv_icmp_ge (tgt := 77) hx hb dX5_lays_29 (by decide) (fun c3 => ?_) (fun c3 => ?_)
  · have hf := it_t c3 hf
    exact LX5_lays_77 fx h (lv_sub hl [0, 2] rfl) hf
  have hf := it_f c3 hf
  refine lv_iload hx hb dX5_lays_32 (lv_at hl 3 rfl) ?_
  refine lv_aload_n hx hb dX5_lays_34 rfl (lv_at hl 0 rfl) ?_
  refine q_get (v := .ref a_sizeOf) fx inX5 h 0 rfl rfl 15 (by decide) k_651 rfl dX5_lays_35 ?_
  refine lv_iload_n hx hb dX5_lays_38 rfl (lv_at hl 1 rfl) ?_
  obtain ⟨i4, hf⟩ := gIn_inv hf
  refine q_iald fx h 4 rfl i4 dX5_lays_39 ?_
  refine lv_icmp_ge (tgt := 77) hx hb dX5_lays_40 (by decide) (fun c5 => ?_) (fun c5 => ?_)
  · have hf := it_t c5 hf
    exact LX5_lays_77 fx h (lv_sub hl [0, 2] rfl) hf
  have hf := it_f c5 hf
  refine lv_iload_n hx hb dX5_lays_43 rfl (lv_at hl 2 rfl) ?_
  refine lv_aload_n hx hb dX5_lays_44 rfl (lv_at hl 0 rfl) ?_
  refine q_get (v := .ref a_number) fx inX5 h 0 rfl rfl 16 (by decide) k_652 rfl dX5_lays_45 ?_
  refine lv_bipush (v := 40) hx hb dX5_lays_48 (by decide) ?_
  refine lv_iload_n hx hb dX5_lays_50 rfl (lv_at hl 1 rfl) ?_
  refine lv_imul hx hb dX5_lays_51 ?_
  refine lv_iload hx hb dX5_lays_52 (lv_at hl 3 rfl) ?_
  refine lv_iadd hx hb dX5_lays_54 ?_
  obtain ⟨i6, hf⟩ := gIn_inv hf
  refine q_lald fx h 5 rfl i6 dX5_lays_55 ?_
  refine lv_lconst (v := 0) hx hb dX5_lays_56 (by decide) ?_
  refine W.lcmp hx hb dX5_lays_57 ?_
  refine lv_if_eq (tgt := 68) hx hb dX5_lays_58 (by decide) (fun c7 => ?_) (fun c7 => ?_)
  · have hf := it_t c7 hf
    refine lv_iconst (v := 0) hx hb dX5_lays_68 (by decide) ?_
    exact LX5_lays_69 fx hag21 h (lv_sub hl [0, 1, 3] rfl) hf
  have hf := it_f c7 hf
  refine lv_iconst (v := 1) hx hb dX5_lays_61 (by decide) ?_
  refine lv_iload hx hb dX5_lays_62 (lv_at hl 3 rfl) ?_
  refine lv_ishl hx hb dX5_lays_64 ?_
  refine lv_goto (tgt := 69) hx hb dX5_lays_65 (by decide) ?_
  exact LX5_lays_69 fx hag21 h (lv_sub hl [0, 1, 3] rfl) hf
set_option maxRecDepth 100000 in
theorem EX5_lays_21 {p : Program} {l : Launch} {e : Env} {s : State} {m : MethodId} {args : Array Value} {below : List Frame} {meth : Method} {c : Code} {D : va_G} {cI cJ cZ cS : ClassId} {tb : Nat} {A : Nat → Prop} {a_t a_s a_keptS a_statuses a_pile a_tape a_steps a_wish a_mark a_bitsOf a_sizeOf a_number a_moved : Nat} {v_isKept : Int32} {v_taped : Int32} {v_at : Int32} {v_fault : Int32} {v_laid : Int32} {v_open : Int32} {v_bitsOf : Nat → Int32} {v_sizeOf : Nat → Int32} {v_number : Nat → Int64} {rr : Int32} {kk' : (Nat → Int32) × (Nat → Int32)} (fx : q_Fx p s m args meth c cX5_lays 5 RX5 (some .int) D cI cJ cZ cS tb A) : ∀ (n : Nat), ∀ {v_s : Nat → Int32} {v_statuses : Nat → Int32} {y1 : Int32} {y3 : Int32} {y4 : Int32} {H : Heap} {locs : List Loc} {ls : Array Slot}, q_H D A s (wX5_lays cI cJ cZ cS a_t a_s a_keptS a_statuses a_pile a_tape a_steps a_wish a_mark a_bitsOf a_sizeOf a_number a_moved v_isKept v_taped v_at v_fault v_laid v_open v_s v_statuses v_bitsOf v_sizeOf v_number) H locs → lv_has ls 5 [(0, .ref a_t), (1, .int y1), (3, .int y3), (4, .int y4)] → ll5 (fX5_lays_21 v_bitsOf v_sizeOf v_number) n v_s v_statuses y1 y3 y4 = some (rr, kk') → W p l e rX5_lays s m args below meth c H locs 0 0 (MQ below (q_Ri D rr A ((fun k : (Nat → Int32) × (Nat → Int32) => (wX5_lays cI cJ cZ cS a_t a_s a_keptS a_statuses a_pile a_tape a_steps a_wish a_mark a_bitsOf a_sizeOf a_number a_moved v_isKept v_taped v_at v_fault v_laid v_open k.1 k.2 v_bitsOf v_sizeOf v_number)) kk')) args s 0 0 A) (F0 m 21 ls []) := by
  intro n
  induction n with
  | zero => intro v_s v_statuses y1 y3 y4 H locs ls h hl hf; exact (ll5_z hf).elim
  | succ n ih => intro v_s v_statuses y1 y3 y4 H locs ls h hl hf; exact LX5_lays_21 fx ih h hl (ll5_s hf)
def fX5_lays (v_s : Nat → Int32) (v_statuses : Nat → Int32) (v_bitsOf : Nat → Int32) (v_sizeOf : Nat → Int32) (v_number : Nat → Int64) (x1 : Int32) : Option (Int32 × (Nat → Int32) × (Nat → Int32)) :=
  bR (fX5_wrong v_bitsOf x1) (fun r8 k8 =>
  (if r8 = 0 then (
  ll5 (fX5_lays_21 v_bitsOf v_sizeOf v_number) qF v_s v_statuses x1 0 0)
  else (
  bR (fX5_finds v_statuses r8) (fun r10 k10 =>
  some (r10, (v_s, k10))))))
set_option maxRecDepth 100000 in
set_option maxHeartbeats 4000000 in
theorem tX5_lays (l : Launch) (D : va_G) (cI cJ cZ cS : ClassId) (tb : Nat) (a_t a_s a_keptS a_statuses a_pile a_tape a_steps a_wish a_mark a_bitsOf a_sizeOf a_number a_moved : Nat) (sz : Nat) (v_isKept : Int32) (v_taped : Int32) (v_at : Int32) (v_fault : Int32) (v_laid : Int32) (v_open : Int32) (v_s : Nat → Int32) (v_statuses : Nat → Int32) (v_bitsOf : Nat → Int32) (v_sizeOf : Nat → Int32) (v_number : Nat → Int64) (x1 : Int32) (rr : Int32) (kk' : (Nat → Int32) × (Nat → Int32)) (hf : fX5_lays v_s v_statuses v_bitsOf v_sizeOf v_number x1 = some (rr, kk')) : Met l yX5_lays (Cond.code yX5_lays cX5_lays 5 (some .int) :: wA) rX5_lays (q_Pre D cI cJ cZ cS tb [.ref a_t, .int x1] sz (wX5_lays cI cJ cZ cS a_t a_s a_keptS a_statuses a_pile a_tape a_steps a_wish a_mark a_bitsOf a_sizeOf a_number a_moved v_isKept v_taped v_at v_fault v_laid v_open v_s v_statuses v_bitsOf v_sizeOf v_number)) (q_Ri D rr (va_A (wX5_lays cI cJ cZ cS a_t a_s a_keptS a_statuses a_pile a_tape a_steps a_wish a_mark a_bitsOf a_sizeOf a_number a_moved v_isKept v_taped v_at v_fault v_laid v_open v_s v_statuses v_bitsOf v_sizeOf v_number) sz) ((fun k : (Nat → Int32) × (Nat → Int32) => (wX5_lays cI cJ cZ cS a_t a_s a_keptS a_statuses a_pile a_tape a_steps a_wish a_mark a_bitsOf a_sizeOf a_number a_moved v_isKept v_taped v_at v_fault v_laid v_open k.1 k.2 v_bitsOf v_sizeOf v_number)) kk')) 0 0 (va_A (wX5_lays cI cJ cZ cS a_t a_s a_keptS a_statuses a_pile a_tape a_steps a_wish a_mark a_bitsOf a_sizeOf a_number a_moved v_isKept v_taped v_at v_fault v_laid v_open v_s v_statuses v_bitsOf v_sizeOf v_number) sz) := by
  refine q_enter (Qf := fun A => (q_Ri D rr A ((fun k : (Nat → Int32) × (Nat → Int32) => (wX5_lays cI cJ cZ cS a_t a_s a_keptS a_statuses a_pile a_tape a_steps a_wish a_mark a_bitsOf a_sizeOf a_number a_moved v_isKept v_taped v_at v_fault v_laid v_open k.1 k.2 v_bitsOf v_sizeOf v_number)) kk'))) (by decide) rfl (Nat.le_of_ble_eq_true rfl) ?_
  intro p e s m below meth c A ls fx hname h hl
  have hx := fx.1
  have hb := fx.2.1
  have hl : lv_has ls 5 [(0, .ref a_t), (1, .int x1)] := hl
  generalize h9 : s.heap = H at h ⊢
  clear h9
  generalize h9 : ([] : List Loc) = locs at h ⊢
  clear h9
  unfold fX5_lays at hf
  refine lv_aload_n hx hb dX5_lays_0 rfl (lv_at hl 0 rfl) ?_
  refine lv_iload_n hx hb dX5_lays_1 rfl (lv_at hl 1 rfl) ?_
  obtain ⟨r8, k8, hg, hf⟩ := bR_inv hf
  refine q_ci (rest := []) (ws' := (wX5_lays cI cJ cZ cS a_t a_s a_keptS a_statuses a_pile a_tape a_steps a_wish a_mark a_bitsOf a_sizeOf a_number a_moved v_isKept v_taped v_at v_fault v_laid v_open v_s v_statuses v_bitsOf v_sizeOf v_number)) (w1 := (wX5_wrong cI cJ cZ cS a_t a_s a_keptS a_statuses a_pile a_tape a_steps a_wish a_mark a_bitsOf a_sizeOf a_number a_moved v_isKept v_taped v_at v_fault v_laid v_open v_bitsOf)) fx h [0, 3] rfl rfl rfl rfl (q_runV fx h hl.1 [0, 3] rfl rfl (tX5_wrong l D cI cJ cZ cS tb a_t a_s a_keptS a_statuses a_pile a_tape a_steps a_wish a_mark a_bitsOf a_sizeOf a_number a_moved H.size v_isKept v_taped v_at v_fault v_laid v_open v_bitsOf x1 r8 k8 hg) mvX5_wrong k_967 ⟨rfl, rfl⟩ ⟨Nat.le_of_ble_eq_true rfl, Nat.le_of_ble_eq_true rfl⟩ rfl rfl rfl rfl (Nat.le_of_ble_eq_true rfl) dX5_lays_2 ⟨Nat.le_of_ble_eq_true rfl, Nat.le_of_ble_eq_true rfl⟩) (fun H locs h => ?_)
  refine lv_istore_n (lv' := [(2, .int r8), (0, .ref a_t), (1, .int x1)]) hx hb dX5_lays_5 rfl hl (by decide) rfl (fun ls hl => ?_)
  refine lv_iload_n hx hb dX5_lays_6 rfl (lv_at hl 0 rfl) ?_
  refine lv_if_eq (tgt := 16) hx hb dX5_lays_7 (by decide) (fun c9 => ?_) (fun c9 => ?_)
  · have hf := it_t c9 hf
    refine lv_iconst (v := 0) hx hb dX5_lays_16 (by decide) ?_
    refine lv_istore_n (lv' := [(3, .int 0), (2, .int r8), (0, .ref a_t), (1, .int x1)]) hx hb dX5_lays_17 rfl hl (by decide) rfl (fun ls hl => ?_)
    refine lv_iconst (v := 0) hx hb dX5_lays_18 (by decide) ?_
    refine lv_istore (lv' := [(4, .int 0), (3, .int 0), (2, .int r8), (0, .ref a_t), (1, .int x1)]) hx hb dX5_lays_19 hl (by decide) rfl (fun ls hl => ?_)
    exact EX5_lays_21 fx qF h (lv_sub hl [3, 4, 1, 0] rfl) hf
  have hf := it_f c9 hf
  refine lv_aload_n hx hb dX5_lays_10 rfl (lv_at hl 1 rfl) ?_
  refine lv_iload_n hx hb dX5_lays_11 rfl (lv_at hl 0 rfl) ?_
  obtain ⟨r10, k10, hg, hf⟩ := bR_inv hf
  refine q_ci (rest := []) (ws' := (wX5_lays cI cJ cZ cS a_t a_s a_keptS a_statuses a_pile a_tape a_steps a_wish a_mark a_bitsOf a_sizeOf a_number a_moved v_isKept v_taped v_at v_fault v_laid v_open v_s k10 v_bitsOf v_sizeOf v_number)) (w1 := (wX5_finds cI cJ cZ cS a_t a_s a_keptS a_statuses a_pile a_tape a_steps a_wish a_mark a_bitsOf a_sizeOf a_number a_moved v_isKept v_taped v_at v_fault v_laid v_open k10)) fx h [0, 2] rfl rfl rfl rfl (q_runV fx h hl.1 [0, 2] rfl rfl (tX5_finds l D cI cJ cZ cS tb a_t a_s a_keptS a_statuses a_pile a_tape a_steps a_wish a_mark a_bitsOf a_sizeOf a_number a_moved H.size v_isKept v_taped v_at v_fault v_laid v_open v_statuses r8 r10 k10 hg) mvX5_finds k_702 ⟨rfl, rfl⟩ ⟨Nat.le_of_ble_eq_true rfl, Nat.le_of_ble_eq_true rfl⟩ rfl rfl rfl rfl (Nat.le_of_ble_eq_true rfl) dX5_lays_12 ⟨Nat.le_of_ble_eq_true rfl, Nat.le_of_ble_eq_true rfl⟩) (fun H locs h => ?_)
  exact q_reti (fun k : (Nat → Int32) × (Nat → Int32) => (wX5_lays cI cJ cZ cS a_t a_s a_keptS a_statuses a_pile a_tape a_steps a_wish a_mark a_bitsOf a_sizeOf a_number a_moved v_isKept v_taped v_at v_fault v_laid v_open k.1 k.2 v_bitsOf v_sizeOf v_number)) fx hf h dX5_lays_15
/-! X5_book -/
abbrev wX5_book (cI cJ cZ cS : ClassId) (a_t a_s a_keptS a_statuses a_pile a_tape a_steps a_wish a_mark a_bitsOf a_sizeOf a_number a_moved : Nat) (v_isKept : Int32) (v_taped : Int32) (v_at : Int32) (v_fault : Int32) (v_laid : Int32) (v_open : Int32) (v_s : Nat → Int32) (v_statuses : Nat → Int32) (v_pile : Nat → Int32) (v_bitsOf : Nat → Int32) (v_sizeOf : Nat → Int32) (v_number : Nat → Int64) : va_W := [(a_t, .inr (5, [.ref a_s, .ref a_keptS, .ref a_statuses, .int v_isKept, .ref a_pile, .ref a_tape, .ref a_steps, .int v_taped, .int v_at, .int v_fault, .int v_laid, .int v_open, .ref a_wish, .ref a_mark, .ref a_bitsOf, .ref a_sizeOf, .ref a_number, .ref a_moved])), (a_s, .inl (cI, 538, .inl v_s)), (a_statuses, .inl (cI, 7, .inl v_statuses)), (a_pile, .inl (cZ, 64, .inl v_pile)), (a_bitsOf, .inl (cI, 4, .inl v_bitsOf)), (a_sizeOf, .inl (cI, 4, .inl v_sizeOf)), (a_number, .inl (cJ, 160, .inr (.inl v_number)))]
abbrev rX5_book : Room := { frames := 5, cells := 0, slots := 0, locals := 116 }
def fX5_book_26 (v_s : Nat → Int32) (v_bitsOf : Nat → Int32) (v_sizeOf : Nat → Int32) (ag26 : (Nat → Int32) → (Nat → Int32) → (Nat → Int64) → Int32 → Int32 → Int32 → Option (Int32 × (Nat → Int32) × (Nat → Int32) × (Nat → Int64))) (v_statuses : Nat → Int32) (v_pile : Nat → Int32) (v_number : Nat → Int64) (y1 : Int32) (y3 : Int32) (y4 : Int32) : Option (Int32 × (Nat → Int32) × (Nat → Int32) × (Nat → Int64)) :=
  gIn y1 4 (
  (if (v_sizeOf y1.toNatClampNeg) ≤ y4 then (
  gIn y1 4 (
  some (v_sizeOf y1.toNatClampNeg, (v_statuses, v_pile, v_number))))
  else (
  gIn y1 4 (
  bR (fX5_narrowed (v_bitsOf y1.toNatClampNeg) (y3.toInt64)) (fun r5 k5 =>
  gIn ((40 * y1) + y4) 160 (
  bR (fX5_would v_s v_pile y3) (fun r7 k7 =>
  nm (y4 + 1) (fun u8 =>
  ag26 v_statuses k7 (vp_updL v_number ((40 * y1) + y4).toNatClampNeg r5) y1 r7 u8))))))))
set_option maxRecDepth 100000 in
set_option maxHeartbeats 4000000 in
theorem LX5_book_26 {p : Program} {l : Launch} {e : Env} {s : State} {m : MethodId} {args : Array Value} {below : List Frame} {meth : Method} {c : Code} {D : va_G} {cI cJ cZ cS : ClassId} {tb : Nat} {A : Nat → Prop} {a_t a_s a_keptS a_statuses a_pile a_tape a_steps a_wish a_mark a_bitsOf a_sizeOf a_number a_moved : Nat} {v_isKept : Int32} {v_taped : Int32} {v_at : Int32} {v_fault : Int32} {v_laid : Int32} {v_open : Int32} {v_s : Nat → Int32} {v_bitsOf : Nat → Int32} {v_sizeOf : Nat → Int32} {rr : Int32} {kk' : (Nat → Int32) × (Nat → Int32) × (Nat → Int64)} (fx : q_Fx p s m args meth c cX5_book 5 RX5 (some .int) D cI cJ cZ cS tb A) {ag26 : (Nat → Int32) → (Nat → Int32) → (Nat → Int64) → Int32 → Int32 → Int32 → Option (Int32 × (Nat → Int32) × (Nat → Int32) × (Nat → Int64))} (hag26 : ∀ {v_statuses : Nat → Int32} {v_pile : Nat → Int32} {v_number : Nat → Int64} {y1 : Int32} {y3 : Int32} {y4 : Int32} {H : Heap} {locs : List Loc} {ls : Array Slot}, q_H D A s (wX5_book cI cJ cZ cS a_t a_s a_keptS a_statuses a_pile a_tape a_steps a_wish a_mark a_bitsOf a_sizeOf a_number a_moved v_isKept v_taped v_at v_fault v_laid v_open v_s v_statuses v_pile v_bitsOf v_sizeOf v_number) H locs → lv_has ls 5 [(0, .ref a_t), (1, .int y1), (3, .int y3), (4, .int y4)] → ag26 v_statuses v_pile v_number y1 y3 y4 = some (rr, kk') → W p l e rX5_book s m args below meth c H locs 0 0 (MQ below (q_Ri D rr A ((fun k : (Nat → Int32) × (Nat → Int32) × (Nat → Int64) => (wX5_book cI cJ cZ cS a_t a_s a_keptS a_statuses a_pile a_tape a_steps a_wish a_mark a_bitsOf a_sizeOf a_number a_moved v_isKept v_taped v_at v_fault v_laid v_open v_s k.1 k.2.1 v_bitsOf v_sizeOf k.2.2)) kk')) args s 0 0 A) (F0 m 26 ls [])) : ∀ {v_statuses : Nat → Int32} {v_pile : Nat → Int32} {v_number : Nat → Int64} {y1 : Int32} {y3 : Int32} {y4 : Int32} {H : Heap} {locs : List Loc} {ls : Array Slot}, q_H D A s (wX5_book cI cJ cZ cS a_t a_s a_keptS a_statuses a_pile a_tape a_steps a_wish a_mark a_bitsOf a_sizeOf a_number a_moved v_isKept v_taped v_at v_fault v_laid v_open v_s v_statuses v_pile v_bitsOf v_sizeOf v_number) H locs → lv_has ls 5 [(0, .ref a_t), (1, .int y1), (3, .int y3), (4, .int y4)] → fX5_book_26 v_s v_bitsOf v_sizeOf ag26 v_statuses v_pile v_number y1 y3 y4 = some (rr, kk') → W p l e rX5_book s m args below meth c H locs 0 0 (MQ below (q_Ri D rr A ((fun k : (Nat → Int32) × (Nat → Int32) × (Nat → Int64) => (wX5_book cI cJ cZ cS a_t a_s a_keptS a_statuses a_pile a_tape a_steps a_wish a_mark a_bitsOf a_sizeOf a_number a_moved v_isKept v_taped v_at v_fault v_laid v_open v_s k.1 k.2.1 v_bitsOf v_sizeOf k.2.2)) kk')) args s 0 0 A) (F0 m 26 ls []) := by
  intro v_statuses v_pile v_number y1 y3 y4 H locs ls h hl hf
  have hx := fx.1
  have hb := fx.2.1
  unfold fX5_book_26 at hf
  refine lv_iload hx hb dX5_book_26 (lv_at hl 3 rfl) ?_
  refine lv_aload_n hx hb dX5_book_28 rfl (lv_at hl 0 rfl) ?_
  refine q_get (v := .ref a_sizeOf) fx inX5 h 0 rfl rfl 15 (by decide) k_651 rfl dX5_book_29 ?_
  refine lv_iload_n hx hb dX5_book_32 rfl (lv_at hl 1 rfl) ?_
  obtain ⟨i1, hf⟩ := gIn_inv hf
  refine q_iald fx h 5 rfl i1 dX5_book_33 ?_
  refine lv_icmp_ge (tgt := 72) hx hb dX5_book_34 (by decide) (fun c2 => ?_) (fun c2 => ?_)
  · have hf := it_t c2 hf
    refine lv_aload_n hx hb dX5_book_72 rfl (lv_at hl 0 rfl) ?_
    refine q_get (v := .ref a_sizeOf) fx inX5 h 0 rfl rfl 15 (by decide) k_651 rfl dX5_book_73 ?_
    refine lv_iload_n hx hb dX5_book_76 rfl (lv_at hl 1 rfl) ?_
    obtain ⟨i3, hf⟩ := gIn_inv hf
    refine q_iald fx h 5 rfl i3 dX5_book_77 ?_
    exact q_reti (fun k : (Nat → Int32) × (Nat → Int32) × (Nat → Int64) => (wX5_book cI cJ cZ cS a_t a_s a_keptS a_statuses a_pile a_tape a_steps a_wish a_mark a_bitsOf a_sizeOf a_number a_moved v_isKept v_taped v_at v_fault v_laid v_open v_s k.1 k.2.1 v_bitsOf v_sizeOf k.2.2)) fx hf h dX5_book_78
  have hf := it_f c2 hf
  refine lv_aload_n hx hb dX5_book_37 rfl (lv_at hl 0 rfl) ?_
  refine q_get (v := .ref a_number) fx inX5 h 0 rfl rfl 16 (by decide) k_652 rfl dX5_book_38 ?_
  refine lv_bipush (v := 40) hx hb dX5_book_41 (by decide) ?_
  refine lv_iload_n hx hb dX5_book_43 rfl (lv_at hl 1 rfl) ?_
  refine lv_imul hx hb dX5_book_44 ?_
  refine lv_iload hx hb dX5_book_45 (lv_at hl 3 rfl) ?_
  refine lv_iadd hx hb dX5_book_47 ?_
  refine lv_aload_n hx hb dX5_book_48 rfl (lv_at hl 0 rfl) ?_
  refine q_get (v := .ref a_bitsOf) fx inX5 h 0 rfl rfl 14 (by decide) k_650 rfl dX5_book_49 ?_
  refine lv_iload_n hx hb dX5_book_52 rfl (lv_at hl 1 rfl) ?_
  obtain ⟨i4, hf⟩ := gIn_inv hf
  refine q_iald fx h 4 rfl i4 dX5_book_53 ?_
  refine lv_iload_n hx hb dX5_book_54 rfl (lv_at hl 2 rfl) ?_
  refine lv_i2l hx hb dX5_book_55 rfl ?_
  obtain ⟨r5, k5, hg, hf⟩ := bR_inv hf
  refine q_cl (rest := [.int ((40 * y1) + y4), .ref a_number]) (ws' := (wX5_book cI cJ cZ cS a_t a_s a_keptS a_statuses a_pile a_tape a_steps a_wish a_mark a_bitsOf a_sizeOf a_number a_moved v_isKept v_taped v_at v_fault v_laid v_open v_s v_statuses v_pile v_bitsOf v_sizeOf v_number)) (w1 := (wX5_narrowed cI cJ cZ cS)) fx h [] rfl rfl rfl rfl (q_runS fx h hl.1 [] rfl rfl (tX5_narrowed l D cI cJ cZ cS tb H.size (v_bitsOf y1.toNatClampNeg) (y3.toInt64) r5 k5 hg) msX5_narrowed k_972 ⟨rfl, rfl⟩ ⟨Nat.le_of_ble_eq_true rfl, Nat.le_of_ble_eq_true rfl⟩ rfl rfl (Nat.le_of_ble_eq_true rfl) dX5_book_56 ⟨Nat.le_of_ble_eq_true rfl, Nat.le_of_ble_eq_true rfl⟩) (fun H locs h => ?_)
  obtain ⟨i6, hf⟩ := gIn_inv hf
  refine q_last (ws' := (wX5_book cI cJ cZ cS a_t a_s a_keptS a_statuses a_pile a_tape a_steps a_wish a_mark a_bitsOf a_sizeOf a_number a_moved v_isKept v_taped v_at v_fault v_laid v_open v_s v_statuses v_pile v_bitsOf v_sizeOf (vp_updL v_number ((40 * y1) + y4).toNatClampNeg r5))) fx h 6 rfl i6 rfl dX5_book_59 (fun H locs h => ?_)
  refine lv_aload_n hx hb dX5_book_60 rfl (lv_at hl 0 rfl) ?_
  refine lv_iload_n hx hb dX5_book_61 rfl (lv_at hl 2 rfl) ?_
  obtain ⟨r7, k7, hg, hf⟩ := bR_inv hf
  refine q_ci (rest := []) (ws' := (wX5_book cI cJ cZ cS a_t a_s a_keptS a_statuses a_pile a_tape a_steps a_wish a_mark a_bitsOf a_sizeOf a_number a_moved v_isKept v_taped v_at v_fault v_laid v_open v_s v_statuses k7 v_bitsOf v_sizeOf (vp_updL v_number ((40 * y1) + y4).toNatClampNeg r5))) (w1 := (wX5_would cI cJ cZ cS a_t a_s a_keptS a_statuses a_pile a_tape a_steps a_wish a_mark a_bitsOf a_sizeOf a_number a_moved v_isKept v_taped v_at v_fault v_laid v_open v_s k7)) fx h [0, 1, 3] rfl rfl rfl rfl (q_runV fx h hl.1 [0, 1, 3] rfl rfl (tX5_would l D cI cJ cZ cS tb a_t a_s a_keptS a_statuses a_pile a_tape a_steps a_wish a_mark a_bitsOf a_sizeOf a_number a_moved H.size v_isKept v_taped v_at v_fault v_laid v_open v_s v_pile y3 r7 k7 hg) mvX5_would k_818 ⟨rfl, rfl⟩ ⟨Nat.le_of_ble_eq_true rfl, Nat.le_of_ble_eq_true rfl⟩ rfl rfl rfl rfl (Nat.le_of_ble_eq_true rfl) dX5_book_62 ⟨Nat.le_of_ble_eq_true rfl, Nat.le_of_ble_eq_true rfl⟩) (fun H locs h => ?_)
  refine lv_istore_n (lv' := [(3, .int r7), (0, .ref a_t), (1, .int y1), (4, .int y4)]) hx hb dX5_book_65 rfl hl (by decide) rfl (fun ls hl => ?_)
  obtain ⟨u8, eu8, hf⟩ := nm_inv hf
  refine lv_iinc (v := u8) (lv' := [(4, .int u8), (3, .int r7), (0, .ref a_t), (1, .int y1)]) hx hb dX5_book_66 hl (k := 3) rfl (by rw [eu8]; rfl) (by decide) rfl (fun ls hl => ?_)
  refine lv_goto (tgt := 26) hx hb dX5_book_69 (by decide) ?_
  exact hag26 h (lv_sub hl [2, 3, 1, 0] rfl) hf
set_option maxRecDepth 100000 in
theorem EX5_book_26 {p : Program} {l : Launch} {e : Env} {s : State} {m : MethodId} {args : Array Value} {below : List Frame} {meth : Method} {c : Code} {D : va_G} {cI cJ cZ cS : ClassId} {tb : Nat} {A : Nat → Prop} {a_t a_s a_keptS a_statuses a_pile a_tape a_steps a_wish a_mark a_bitsOf a_sizeOf a_number a_moved : Nat} {v_isKept : Int32} {v_taped : Int32} {v_at : Int32} {v_fault : Int32} {v_laid : Int32} {v_open : Int32} {v_s : Nat → Int32} {v_bitsOf : Nat → Int32} {v_sizeOf : Nat → Int32} {rr : Int32} {kk' : (Nat → Int32) × (Nat → Int32) × (Nat → Int64)} (fx : q_Fx p s m args meth c cX5_book 5 RX5 (some .int) D cI cJ cZ cS tb A) : ∀ (n : Nat), ∀ {v_statuses : Nat → Int32} {v_pile : Nat → Int32} {v_number : Nat → Int64} {y1 : Int32} {y3 : Int32} {y4 : Int32} {H : Heap} {locs : List Loc} {ls : Array Slot}, q_H D A s (wX5_book cI cJ cZ cS a_t a_s a_keptS a_statuses a_pile a_tape a_steps a_wish a_mark a_bitsOf a_sizeOf a_number a_moved v_isKept v_taped v_at v_fault v_laid v_open v_s v_statuses v_pile v_bitsOf v_sizeOf v_number) H locs → lv_has ls 5 [(0, .ref a_t), (1, .int y1), (3, .int y3), (4, .int y4)] → ll6 (fX5_book_26 v_s v_bitsOf v_sizeOf) n v_statuses v_pile v_number y1 y3 y4 = some (rr, kk') → W p l e rX5_book s m args below meth c H locs 0 0 (MQ below (q_Ri D rr A ((fun k : (Nat → Int32) × (Nat → Int32) × (Nat → Int64) => (wX5_book cI cJ cZ cS a_t a_s a_keptS a_statuses a_pile a_tape a_steps a_wish a_mark a_bitsOf a_sizeOf a_number a_moved v_isKept v_taped v_at v_fault v_laid v_open v_s k.1 k.2.1 v_bitsOf v_sizeOf k.2.2)) kk')) args s 0 0 A) (F0 m 26 ls []) := by
  intro n
  induction n with
  | zero => intro v_statuses v_pile v_number y1 y3 y4 H locs ls h hl hf; exact (ll6_z hf).elim
  | succ n ih => intro v_statuses v_pile v_number y1 y3 y4 H locs ls h hl hf; exact LX5_book_26 fx ih h hl (ll6_s hf)
def fX5_book (v_s : Nat → Int32) (v_statuses : Nat → Int32) (v_pile : Nat → Int32) (v_bitsOf : Nat → Int32) (v_sizeOf : Nat → Int32) (v_number : Nat → Int64) (x1 : Int32) : Option (Int32 × (Nat → Int32) × (Nat → Int32) × (Nat → Int64)) :=
  bR (fX5_wrong v_bitsOf x1) (fun r9 k9 =>
  (if r9 = 0 then (
  nm (v_s 1) (fun u11 =>
  ll6 (fX5_book_26 v_s v_bitsOf v_sizeOf) qF v_statuses v_pile v_number x1 u11 0))
  else (
  bR (fX5_finds v_statuses r9) (fun r12 k12 =>
  some (r12, (k12, v_pile, v_number))))))
set_option maxRecDepth 100000 in
set_option maxHeartbeats 4000000 in
theorem tX5_book (l : Launch) (D : va_G) (cI cJ cZ cS : ClassId) (tb : Nat) (a_t a_s a_keptS a_statuses a_pile a_tape a_steps a_wish a_mark a_bitsOf a_sizeOf a_number a_moved : Nat) (sz : Nat) (v_isKept : Int32) (v_taped : Int32) (v_at : Int32) (v_fault : Int32) (v_laid : Int32) (v_open : Int32) (v_s : Nat → Int32) (v_statuses : Nat → Int32) (v_pile : Nat → Int32) (v_bitsOf : Nat → Int32) (v_sizeOf : Nat → Int32) (v_number : Nat → Int64) (x1 : Int32) (rr : Int32) (kk' : (Nat → Int32) × (Nat → Int32) × (Nat → Int64)) (hf : fX5_book v_s v_statuses v_pile v_bitsOf v_sizeOf v_number x1 = some (rr, kk')) : Met l yX5_book (Cond.code yX5_book cX5_book 5 (some .int) :: wA) rX5_book (q_Pre D cI cJ cZ cS tb [.ref a_t, .int x1] sz (wX5_book cI cJ cZ cS a_t a_s a_keptS a_statuses a_pile a_tape a_steps a_wish a_mark a_bitsOf a_sizeOf a_number a_moved v_isKept v_taped v_at v_fault v_laid v_open v_s v_statuses v_pile v_bitsOf v_sizeOf v_number)) (q_Ri D rr (va_A (wX5_book cI cJ cZ cS a_t a_s a_keptS a_statuses a_pile a_tape a_steps a_wish a_mark a_bitsOf a_sizeOf a_number a_moved v_isKept v_taped v_at v_fault v_laid v_open v_s v_statuses v_pile v_bitsOf v_sizeOf v_number) sz) ((fun k : (Nat → Int32) × (Nat → Int32) × (Nat → Int64) => (wX5_book cI cJ cZ cS a_t a_s a_keptS a_statuses a_pile a_tape a_steps a_wish a_mark a_bitsOf a_sizeOf a_number a_moved v_isKept v_taped v_at v_fault v_laid v_open v_s k.1 k.2.1 v_bitsOf v_sizeOf k.2.2)) kk')) 0 0 (va_A (wX5_book cI cJ cZ cS a_t a_s a_keptS a_statuses a_pile a_tape a_steps a_wish a_mark a_bitsOf a_sizeOf a_number a_moved v_isKept v_taped v_at v_fault v_laid v_open v_s v_statuses v_pile v_bitsOf v_sizeOf v_number) sz) := by
  refine q_enter (Qf := fun A => (q_Ri D rr A ((fun k : (Nat → Int32) × (Nat → Int32) × (Nat → Int64) => (wX5_book cI cJ cZ cS a_t a_s a_keptS a_statuses a_pile a_tape a_steps a_wish a_mark a_bitsOf a_sizeOf a_number a_moved v_isKept v_taped v_at v_fault v_laid v_open v_s k.1 k.2.1 v_bitsOf v_sizeOf k.2.2)) kk'))) (by decide) rfl (Nat.le_of_ble_eq_true rfl) ?_
  intro p e s m below meth c A ls fx hname h hl
  have hx := fx.1
  have hb := fx.2.1
  have hl : lv_has ls 5 [(0, .ref a_t), (1, .int x1)] := hl
  generalize h9 : s.heap = H at h ⊢
  clear h9
  generalize h9 : ([] : List Loc) = locs at h ⊢
  clear h9
  unfold fX5_book at hf
  refine lv_aload_n hx hb dX5_book_0 rfl (lv_at hl 0 rfl) ?_
  refine lv_iload_n hx hb dX5_book_1 rfl (lv_at hl 1 rfl) ?_
  obtain ⟨r9, k9, hg, hf⟩ := bR_inv hf
  refine q_ci (rest := []) (ws' := (wX5_book cI cJ cZ cS a_t a_s a_keptS a_statuses a_pile a_tape a_steps a_wish a_mark a_bitsOf a_sizeOf a_number a_moved v_isKept v_taped v_at v_fault v_laid v_open v_s v_statuses v_pile v_bitsOf v_sizeOf v_number)) (w1 := (wX5_wrong cI cJ cZ cS a_t a_s a_keptS a_statuses a_pile a_tape a_steps a_wish a_mark a_bitsOf a_sizeOf a_number a_moved v_isKept v_taped v_at v_fault v_laid v_open v_bitsOf)) fx h [0, 4] rfl rfl rfl rfl (q_runV fx h hl.1 [0, 4] rfl rfl (tX5_wrong l D cI cJ cZ cS tb a_t a_s a_keptS a_statuses a_pile a_tape a_steps a_wish a_mark a_bitsOf a_sizeOf a_number a_moved H.size v_isKept v_taped v_at v_fault v_laid v_open v_bitsOf x1 r9 k9 hg) mvX5_wrong k_967 ⟨rfl, rfl⟩ ⟨Nat.le_of_ble_eq_true rfl, Nat.le_of_ble_eq_true rfl⟩ rfl rfl rfl rfl (Nat.le_of_ble_eq_true rfl) dX5_book_2 ⟨Nat.le_of_ble_eq_true rfl, Nat.le_of_ble_eq_true rfl⟩) (fun H locs h => ?_)
  refine lv_istore_n (lv' := [(2, .int r9), (0, .ref a_t), (1, .int x1)]) hx hb dX5_book_5 rfl hl (by decide) rfl (fun ls hl => ?_)
  refine lv_iload_n hx hb dX5_book_6 rfl (lv_at hl 0 rfl) ?_
  refine lv_if_eq (tgt := 16) hx hb dX5_book_7 (by decide) (fun c10 => ?_) (fun c10 => ?_)
  · have hf := it_t c10 hf
    refine lv_aload_n hx hb dX5_book_16 rfl (lv_at hl 1 rfl) ?_
    refine q_get (v := .ref a_s) fx inX5 h 0 rfl rfl 0 (by decide) k_636 rfl dX5_book_17 ?_
    refine lv_iconst (v := 1) hx hb dX5_book_20 (by decide) ?_
    refine q_ialdK fx h 1 rfl 1 (vinK (by decide)) (by decide) dX5_book_21 ?_
    obtain ⟨u11, eu11, hf⟩ := nm_inv hf
    refine lv_eqi eu11 ?_
    refine lv_istore_n (lv' := [(3, .int u11), (2, .int r9), (0, .ref a_t), (1, .int x1)]) hx hb dX5_book_22 rfl hl (by decide) rfl (fun ls hl => ?_)
    refine lv_iconst (v := 0) hx hb dX5_book_23 (by decide) ?_
    refine lv_istore (lv' := [(4, .int 0), (3, .int u11), (2, .int r9), (0, .ref a_t), (1, .int x1)]) hx hb dX5_book_24 hl (by decide) rfl (fun ls hl => ?_)
    exact EX5_book_26 fx qF h (lv_sub hl [3, 4, 1, 0] rfl) hf
  have hf := it_f c10 hf
  refine lv_aload_n hx hb dX5_book_10 rfl (lv_at hl 1 rfl) ?_
  refine lv_iload_n hx hb dX5_book_11 rfl (lv_at hl 0 rfl) ?_
  obtain ⟨r12, k12, hg, hf⟩ := bR_inv hf
  refine q_ci (rest := []) (ws' := (wX5_book cI cJ cZ cS a_t a_s a_keptS a_statuses a_pile a_tape a_steps a_wish a_mark a_bitsOf a_sizeOf a_number a_moved v_isKept v_taped v_at v_fault v_laid v_open v_s k12 v_pile v_bitsOf v_sizeOf v_number)) (w1 := (wX5_finds cI cJ cZ cS a_t a_s a_keptS a_statuses a_pile a_tape a_steps a_wish a_mark a_bitsOf a_sizeOf a_number a_moved v_isKept v_taped v_at v_fault v_laid v_open k12)) fx h [0, 2] rfl rfl rfl rfl (q_runV fx h hl.1 [0, 2] rfl rfl (tX5_finds l D cI cJ cZ cS tb a_t a_s a_keptS a_statuses a_pile a_tape a_steps a_wish a_mark a_bitsOf a_sizeOf a_number a_moved H.size v_isKept v_taped v_at v_fault v_laid v_open v_statuses r9 r12 k12 hg) mvX5_finds k_702 ⟨rfl, rfl⟩ ⟨Nat.le_of_ble_eq_true rfl, Nat.le_of_ble_eq_true rfl⟩ rfl rfl rfl rfl (Nat.le_of_ble_eq_true rfl) dX5_book_12 ⟨Nat.le_of_ble_eq_true rfl, Nat.le_of_ble_eq_true rfl⟩) (fun H locs h => ?_)
  exact q_reti (fun k : (Nat → Int32) × (Nat → Int32) × (Nat → Int64) => (wX5_book cI cJ cZ cS a_t a_s a_keptS a_statuses a_pile a_tape a_steps a_wish a_mark a_bitsOf a_sizeOf a_number a_moved v_isKept v_taped v_at v_fault v_laid v_open v_s k.1 k.2.1 v_bitsOf v_sizeOf k.2.2)) fx hf h dX5_book_15
/-! X5_isRow -/
abbrev wX5_isRow (cI cJ cZ cS : ClassId) (a_t a_s a_keptS a_statuses a_pile a_tape a_steps a_wish a_mark a_bitsOf a_sizeOf a_number a_moved : Nat) (v_isKept : Int32) (v_taped : Int32) (v_at : Int32) (v_fault : Int32) (v_laid : Int32) (v_open : Int32) (v_s : Nat → Int32) (v_pile : Nat → Int32) (v_sizeOf : Nat → Int32) (v_number : Nat → Int64) : va_W := [(a_t, .inr (5, [.ref a_s, .ref a_keptS, .ref a_statuses, .int v_isKept, .ref a_pile, .ref a_tape, .ref a_steps, .int v_taped, .int v_at, .int v_fault, .int v_laid, .int v_open, .ref a_wish, .ref a_mark, .ref a_bitsOf, .ref a_sizeOf, .ref a_number, .ref a_moved])), (a_s, .inl (cI, 538, .inl v_s)), (a_pile, .inl (cZ, 64, .inl v_pile)), (a_sizeOf, .inl (cI, 4, .inl v_sizeOf)), (a_number, .inl (cJ, 160, .inr (.inl v_number)))]
abbrev rX5_isRow : Room := { frames := 5, cells := 0, slots := 0, locals := 116 }
def fX5_isRow_62 (v_s : Nat → Int32) (v_sizeOf : Nat → Int32) (v_number : Nat → Int64) (ag2 : (Nat → Int32) → Int32 → Int32 → Option (Int32 × (Nat → Int32))) (v_pile : Nat → Int32) (y1 : Int32) (y2 : Int32) : Option (Int32 × (Nat → Int32)) :=
  nm (y2 + 1) (fun u1 =>
  ag2 v_pile y1 u1)
set_option maxRecDepth 100000 in
set_option maxHeartbeats 4000000 in
theorem LX5_isRow_62 {p : Program} {l : Launch} {e : Env} {s : State} {m : MethodId} {args : Array Value} {below : List Frame} {meth : Method} {c : Code} {D : va_G} {cI cJ cZ cS : ClassId} {tb : Nat} {A : Nat → Prop} {a_t a_s a_keptS a_statuses a_pile a_tape a_steps a_wish a_mark a_bitsOf a_sizeOf a_number a_moved : Nat} {v_isKept : Int32} {v_taped : Int32} {v_at : Int32} {v_fault : Int32} {v_laid : Int32} {v_open : Int32} {v_s : Nat → Int32} {v_sizeOf : Nat → Int32} {v_number : Nat → Int64} {rr : Int32} {kk' : (Nat → Int32)} (fx : q_Fx p s m args meth c cX5_isRow 5 RX5 (some .boolean) D cI cJ cZ cS tb A) {ag2 : (Nat → Int32) → Int32 → Int32 → Option (Int32 × (Nat → Int32))} (hag2 : ∀ {v_pile : Nat → Int32} {y1 : Int32} {y2 : Int32} {H : Heap} {locs : List Loc} {ls : Array Slot}, q_H D A s (wX5_isRow cI cJ cZ cS a_t a_s a_keptS a_statuses a_pile a_tape a_steps a_wish a_mark a_bitsOf a_sizeOf a_number a_moved v_isKept v_taped v_at v_fault v_laid v_open v_s v_pile v_sizeOf v_number) H locs → lv_has ls 5 [(0, .ref a_t), (1, .int y1), (2, .int y2)] → ag2 v_pile y1 y2 = some (rr, kk') → W p l e rX5_isRow s m args below meth c H locs 0 0 (MQ below (q_Ri D rr A ((fun k : (Nat → Int32) => (wX5_isRow cI cJ cZ cS a_t a_s a_keptS a_statuses a_pile a_tape a_steps a_wish a_mark a_bitsOf a_sizeOf a_number a_moved v_isKept v_taped v_at v_fault v_laid v_open v_s k v_sizeOf v_number)) kk')) args s 0 0 A) (F0 m 2 ls [])) : ∀ {v_pile : Nat → Int32} {y1 : Int32} {y2 : Int32} {H : Heap} {locs : List Loc} {ls : Array Slot}, q_H D A s (wX5_isRow cI cJ cZ cS a_t a_s a_keptS a_statuses a_pile a_tape a_steps a_wish a_mark a_bitsOf a_sizeOf a_number a_moved v_isKept v_taped v_at v_fault v_laid v_open v_s v_pile v_sizeOf v_number) H locs → lv_has ls 5 [(0, .ref a_t), (1, .int y1), (2, .int y2)] → fX5_isRow_62 v_s v_sizeOf v_number ag2 v_pile y1 y2 = some (rr, kk') → W p l e rX5_isRow s m args below meth c H locs 0 0 (MQ below (q_Ri D rr A ((fun k : (Nat → Int32) => (wX5_isRow cI cJ cZ cS a_t a_s a_keptS a_statuses a_pile a_tape a_steps a_wish a_mark a_bitsOf a_sizeOf a_number a_moved v_isKept v_taped v_at v_fault v_laid v_open v_s k v_sizeOf v_number)) kk')) args s 0 0 A) (F0 m 62 ls []) := by
  intro v_pile y1 y2 H locs ls h hl hf
  have hx := fx.1
  have hb := fx.2.1
  unfold fX5_isRow_62 at hf
  obtain ⟨u1, eu1, hf⟩ := nm_inv hf
  refine lv_iinc (v := u1) (lv' := [(2, .int u1), (0, .ref a_t), (1, .int y1)]) hx hb dX5_isRow_62 hl (k := 2) rfl (by rw [eu1]; rfl) (by decide) rfl (fun ls hl => ?_)
  refine lv_goto (tgt := 2) hx hb dX5_isRow_65 (by decide) ?_
  exact hag2 h (lv_sub hl [1, 2, 0] rfl) hf
def fX5_isRow_2 (v_s : Nat → Int32) (v_sizeOf : Nat → Int32) (v_number : Nat → Int64) (ag2 : (Nat → Int32) → Int32 → Int32 → Option (Int32 × (Nat → Int32))) (v_pile : Nat → Int32) (y1 : Int32) (y2 : Int32) : Option (Int32 × (Nat → Int32)) :=
  gIn y1 4 (
  (if (v_sizeOf y1.toNatClampNeg) ≤ y2 then (
  some (1, v_pile))
  else (
  gIn ((40 * y1) + y2) 160 (
  nm (v_number ((40 * y1) + y2).toNatClampNeg) (fun u5 =>
  bR (fX5_isList v_s u5) (fun r6 k6 =>
  (if r6 = 0 then (
  some (0, v_pile))
  else (
  (if y2 ≤ 0 then (
  fX5_isRow_62 v_s v_sizeOf v_number ag2 v_pile y1 y2)
  else (
  gIn (((40 * y1) + y2) - 1) 160 (
  bR (fX5_would v_s v_pile ((v_number (((40 * y1) + y2) - 1).toNatClampNeg).toInt32)) (fun r10 k10 =>
  (if (lg_cmp u5 (r10.toInt64)) = 0 then (
  fX5_isRow_62 v_s v_sizeOf v_number ag2 k10 y1 y2)
  else (
  some (0, k10)))))))))))))))
set_option maxRecDepth 100000 in
set_option maxHeartbeats 4000000 in
theorem LX5_isRow_2 {p : Program} {l : Launch} {e : Env} {s : State} {m : MethodId} {args : Array Value} {below : List Frame} {meth : Method} {c : Code} {D : va_G} {cI cJ cZ cS : ClassId} {tb : Nat} {A : Nat → Prop} {a_t a_s a_keptS a_statuses a_pile a_tape a_steps a_wish a_mark a_bitsOf a_sizeOf a_number a_moved : Nat} {v_isKept : Int32} {v_taped : Int32} {v_at : Int32} {v_fault : Int32} {v_laid : Int32} {v_open : Int32} {v_s : Nat → Int32} {v_sizeOf : Nat → Int32} {v_number : Nat → Int64} {rr : Int32} {kk' : (Nat → Int32)} (fx : q_Fx p s m args meth c cX5_isRow 5 RX5 (some .boolean) D cI cJ cZ cS tb A) {ag2 : (Nat → Int32) → Int32 → Int32 → Option (Int32 × (Nat → Int32))} (hag2 : ∀ {v_pile : Nat → Int32} {y1 : Int32} {y2 : Int32} {H : Heap} {locs : List Loc} {ls : Array Slot}, q_H D A s (wX5_isRow cI cJ cZ cS a_t a_s a_keptS a_statuses a_pile a_tape a_steps a_wish a_mark a_bitsOf a_sizeOf a_number a_moved v_isKept v_taped v_at v_fault v_laid v_open v_s v_pile v_sizeOf v_number) H locs → lv_has ls 5 [(0, .ref a_t), (1, .int y1), (2, .int y2)] → ag2 v_pile y1 y2 = some (rr, kk') → W p l e rX5_isRow s m args below meth c H locs 0 0 (MQ below (q_Ri D rr A ((fun k : (Nat → Int32) => (wX5_isRow cI cJ cZ cS a_t a_s a_keptS a_statuses a_pile a_tape a_steps a_wish a_mark a_bitsOf a_sizeOf a_number a_moved v_isKept v_taped v_at v_fault v_laid v_open v_s k v_sizeOf v_number)) kk')) args s 0 0 A) (F0 m 2 ls [])) : ∀ {v_pile : Nat → Int32} {y1 : Int32} {y2 : Int32} {H : Heap} {locs : List Loc} {ls : Array Slot}, q_H D A s (wX5_isRow cI cJ cZ cS a_t a_s a_keptS a_statuses a_pile a_tape a_steps a_wish a_mark a_bitsOf a_sizeOf a_number a_moved v_isKept v_taped v_at v_fault v_laid v_open v_s v_pile v_sizeOf v_number) H locs → lv_has ls 5 [(0, .ref a_t), (1, .int y1), (2, .int y2)] → fX5_isRow_2 v_s v_sizeOf v_number ag2 v_pile y1 y2 = some (rr, kk') → W p l e rX5_isRow s m args below meth c H locs 0 0 (MQ below (q_Ri D rr A ((fun k : (Nat → Int32) => (wX5_isRow cI cJ cZ cS a_t a_s a_keptS a_statuses a_pile a_tape a_steps a_wish a_mark a_bitsOf a_sizeOf a_number a_moved v_isKept v_taped v_at v_fault v_laid v_open v_s k v_sizeOf v_number)) kk')) args s 0 0 A) (F0 m 2 ls []) := by
  intro v_pile y1 y2 H locs ls h hl hf
  have hx := fx.1
  have hb := fx.2.1
  unfold fX5_isRow_2 at hf
  refine lv_iload_n hx hb dX5_isRow_2 rfl (lv_at hl 2 rfl) ?_
  refine lv_aload_n hx hb dX5_isRow_3 rfl (lv_at hl 0 rfl) ?_
  refine q_get (v := .ref a_sizeOf) fx inX5 h 0 rfl rfl 15 (by decide) k_651 rfl dX5_isRow_4 ?_
  refine lv_iload_n hx hb dX5_isRow_7 rfl (lv_at hl 1 rfl) ?_
  obtain ⟨i2, hf⟩ := gIn_inv hf
  refine q_iald fx h 3 rfl i2 dX5_isRow_8 ?_
  refine lv_icmp_ge (tgt := 68) hx hb dX5_isRow_9 (by decide) (fun c3 => ?_) (fun c3 => ?_)
  · have hf := it_t c3 hf
    refine lv_iconst (v := 1) hx hb dX5_isRow_68 (by decide) ?_
    exact q_retz (fun k : (Nat → Int32) => (wX5_isRow cI cJ cZ cS a_t a_s a_keptS a_statuses a_pile a_tape a_steps a_wish a_mark a_bitsOf a_sizeOf a_number a_moved v_isKept v_taped v_at v_fault v_laid v_open v_s k v_sizeOf v_number)) fx rfl hf h dX5_isRow_69
  have hf := it_f c3 hf
  refine lv_aload_n hx hb dX5_isRow_12 rfl (lv_at hl 0 rfl) ?_
  refine q_get (v := .ref a_number) fx inX5 h 0 rfl rfl 16 (by decide) k_652 rfl dX5_isRow_13 ?_
  refine lv_bipush (v := 40) hx hb dX5_isRow_16 (by decide) ?_
  refine lv_iload_n hx hb dX5_isRow_18 rfl (lv_at hl 1 rfl) ?_
  refine lv_imul hx hb dX5_isRow_19 ?_
  refine lv_iload_n hx hb dX5_isRow_20 rfl (lv_at hl 2 rfl) ?_
  refine lv_iadd hx hb dX5_isRow_21 ?_
  obtain ⟨i4, hf⟩ := gIn_inv hf
  refine q_lald fx h 4 rfl i4 dX5_isRow_22 ?_
  obtain ⟨u5, eu5, hf⟩ := nm_inv hf
  refine lv_eql eu5 ?_
  refine lv_lstore_n (lv' := [(3, .long u5), (0, .ref a_t), (1, .int y1), (2, .int y2)]) hx hb dX5_isRow_23 rfl hl (by decide) rfl (fun ls hl => ?_)
  refine lv_aload_n hx hb dX5_isRow_24 rfl (lv_at hl 1 rfl) ?_
  refine lv_lload_n hx hb dX5_isRow_25 rfl (lv_at hl 0 rfl) ?_
  obtain ⟨r6, k6, hg, hf⟩ := bR_inv hf
  refine q_ci (rest := []) (ws' := (wX5_isRow cI cJ cZ cS a_t a_s a_keptS a_statuses a_pile a_tape a_steps a_wish a_mark a_bitsOf a_sizeOf a_number a_moved v_isKept v_taped v_at v_fault v_laid v_open v_s v_pile v_sizeOf v_number)) (w1 := (wX5_isList cI cJ cZ cS a_t a_s a_keptS a_statuses a_pile a_tape a_steps a_wish a_mark a_bitsOf a_sizeOf a_number a_moved v_isKept v_taped v_at v_fault v_laid v_open v_s)) fx h [0, 1] rfl rfl rfl rfl (q_runV fx h hl.1 [0, 1] rfl rfl (tX5_isList l D cI cJ cZ cS tb a_t a_s a_keptS a_statuses a_pile a_tape a_steps a_wish a_mark a_bitsOf a_sizeOf a_number a_moved H.size v_isKept v_taped v_at v_fault v_laid v_open v_s u5 r6 k6 hg) mvX5_isList k_806 ⟨rfl, rfl⟩ ⟨Nat.le_of_ble_eq_true rfl, Nat.le_of_ble_eq_true rfl⟩ rfl rfl rfl rfl (Nat.le_of_ble_eq_true rfl) dX5_isRow_26 ⟨Nat.le_of_ble_eq_true rfl, Nat.le_of_ble_eq_true rfl⟩) (fun H locs h => ?_)
  refine lv_if_eq (tgt := 60) hx hb dX5_isRow_29 (by decide) (fun c7 => ?_) (fun c7 => ?_)
  · have hf := it_t c7 hf
    refine lv_iconst (v := 0) hx hb dX5_isRow_60 (by decide) ?_
    exact q_retz (fun k : (Nat → Int32) => (wX5_isRow cI cJ cZ cS a_t a_s a_keptS a_statuses a_pile a_tape a_steps a_wish a_mark a_bitsOf a_sizeOf a_number a_moved v_isKept v_taped v_at v_fault v_laid v_open v_s k v_sizeOf v_number)) fx rfl hf h dX5_isRow_61
  have hf := it_f c7 hf
  refine lv_iload_n hx hb dX5_isRow_32 rfl (lv_at hl 3 rfl) ?_
  refine lv_if_le (tgt := 62) hx hb dX5_isRow_33 (by decide) (fun c8 => ?_) (fun c8 => ?_)
  · have hf := it_t c8 hf
    exact LX5_isRow_62 fx hag2 h (lv_sub hl [1, 2, 3] rfl) hf
  have hf := it_f c8 hf
  refine lv_lload_n hx hb dX5_isRow_36 rfl (lv_at hl 0 rfl) ?_
  refine lv_aload_n hx hb dX5_isRow_37 rfl (lv_at hl 1 rfl) ?_
  refine lv_aload_n hx hb dX5_isRow_38 rfl (lv_at hl 1 rfl) ?_
  refine q_get (v := .ref a_number) fx inX5 h 0 rfl rfl 16 (by decide) k_652 rfl dX5_isRow_39 ?_
  refine lv_bipush (v := 40) hx hb dX5_isRow_42 (by decide) ?_
  refine lv_iload_n hx hb dX5_isRow_44 rfl (lv_at hl 2 rfl) ?_
  refine lv_imul hx hb dX5_isRow_45 ?_
  refine lv_iload_n hx hb dX5_isRow_46 rfl (lv_at hl 3 rfl) ?_
  refine lv_iadd hx hb dX5_isRow_47 ?_
  refine lv_iconst (v := 1) hx hb dX5_isRow_48 (by decide) ?_
  refine lv_isub hx hb dX5_isRow_49 ?_
  obtain ⟨i9, hf⟩ := gIn_inv hf
  refine q_lald fx h 4 rfl i9 dX5_isRow_50 ?_
  refine lv_l2i hx hb dX5_isRow_51 rfl ?_
  obtain ⟨r10, k10, hg, hf⟩ := bR_inv hf
  refine q_ci (rest := [.long u5]) (ws' := (wX5_isRow cI cJ cZ cS a_t a_s a_keptS a_statuses a_pile a_tape a_steps a_wish a_mark a_bitsOf a_sizeOf a_number a_moved v_isKept v_taped v_at v_fault v_laid v_open v_s k10 v_sizeOf v_number)) (w1 := (wX5_would cI cJ cZ cS a_t a_s a_keptS a_statuses a_pile a_tape a_steps a_wish a_mark a_bitsOf a_sizeOf a_number a_moved v_isKept v_taped v_at v_fault v_laid v_open v_s k10)) fx h [0, 1, 2] rfl rfl rfl rfl (q_runV fx h hl.1 [0, 1, 2] rfl rfl (tX5_would l D cI cJ cZ cS tb a_t a_s a_keptS a_statuses a_pile a_tape a_steps a_wish a_mark a_bitsOf a_sizeOf a_number a_moved H.size v_isKept v_taped v_at v_fault v_laid v_open v_s v_pile ((v_number (((40 * y1) + y2) - 1).toNatClampNeg).toInt32) r10 k10 hg) mvX5_would k_818 ⟨rfl, rfl⟩ ⟨Nat.le_of_ble_eq_true rfl, Nat.le_of_ble_eq_true rfl⟩ rfl rfl rfl rfl (Nat.le_of_ble_eq_true rfl) dX5_isRow_52 ⟨Nat.le_of_ble_eq_true rfl, Nat.le_of_ble_eq_true rfl⟩) (fun H locs h => ?_)
  refine lv_i2l hx hb dX5_isRow_55 rfl ?_
  refine W.lcmp hx hb dX5_isRow_56 ?_
  refine lv_if_eq (tgt := 62) hx hb dX5_isRow_57 (by decide) (fun c11 => ?_) (fun c11 => ?_)
  · have hf := it_t c11 hf
    exact LX5_isRow_62 fx hag2 h (lv_sub hl [1, 2, 3] rfl) hf
  have hf := it_f c11 hf
  refine lv_iconst (v := 0) hx hb dX5_isRow_60 (by decide) ?_
  exact q_retz (fun k : (Nat → Int32) => (wX5_isRow cI cJ cZ cS a_t a_s a_keptS a_statuses a_pile a_tape a_steps a_wish a_mark a_bitsOf a_sizeOf a_number a_moved v_isKept v_taped v_at v_fault v_laid v_open v_s k v_sizeOf v_number)) fx rfl hf h dX5_isRow_61
set_option maxRecDepth 100000 in
theorem EX5_isRow_2 {p : Program} {l : Launch} {e : Env} {s : State} {m : MethodId} {args : Array Value} {below : List Frame} {meth : Method} {c : Code} {D : va_G} {cI cJ cZ cS : ClassId} {tb : Nat} {A : Nat → Prop} {a_t a_s a_keptS a_statuses a_pile a_tape a_steps a_wish a_mark a_bitsOf a_sizeOf a_number a_moved : Nat} {v_isKept : Int32} {v_taped : Int32} {v_at : Int32} {v_fault : Int32} {v_laid : Int32} {v_open : Int32} {v_s : Nat → Int32} {v_sizeOf : Nat → Int32} {v_number : Nat → Int64} {rr : Int32} {kk' : (Nat → Int32)} (fx : q_Fx p s m args meth c cX5_isRow 5 RX5 (some .boolean) D cI cJ cZ cS tb A) : ∀ (n : Nat), ∀ {v_pile : Nat → Int32} {y1 : Int32} {y2 : Int32} {H : Heap} {locs : List Loc} {ls : Array Slot}, q_H D A s (wX5_isRow cI cJ cZ cS a_t a_s a_keptS a_statuses a_pile a_tape a_steps a_wish a_mark a_bitsOf a_sizeOf a_number a_moved v_isKept v_taped v_at v_fault v_laid v_open v_s v_pile v_sizeOf v_number) H locs → lv_has ls 5 [(0, .ref a_t), (1, .int y1), (2, .int y2)] → ll3 (fX5_isRow_2 v_s v_sizeOf v_number) n v_pile y1 y2 = some (rr, kk') → W p l e rX5_isRow s m args below meth c H locs 0 0 (MQ below (q_Ri D rr A ((fun k : (Nat → Int32) => (wX5_isRow cI cJ cZ cS a_t a_s a_keptS a_statuses a_pile a_tape a_steps a_wish a_mark a_bitsOf a_sizeOf a_number a_moved v_isKept v_taped v_at v_fault v_laid v_open v_s k v_sizeOf v_number)) kk')) args s 0 0 A) (F0 m 2 ls []) := by
  intro n
  induction n with
  | zero => intro v_pile y1 y2 H locs ls h hl hf; exact (ll3_z hf).elim
  | succ n ih => intro v_pile y1 y2 H locs ls h hl hf; exact LX5_isRow_2 fx ih h hl (ll3_s hf)
def fX5_isRow (v_s : Nat → Int32) (v_pile : Nat → Int32) (v_sizeOf : Nat → Int32) (v_number : Nat → Int64) (x1 : Int32) : Option (Int32 × (Nat → Int32)) :=
  ll3 (fX5_isRow_2 v_s v_sizeOf v_number) qF v_pile x1 0
set_option maxRecDepth 100000 in
set_option maxHeartbeats 4000000 in
theorem tX5_isRow (l : Launch) (D : va_G) (cI cJ cZ cS : ClassId) (tb : Nat) (a_t a_s a_keptS a_statuses a_pile a_tape a_steps a_wish a_mark a_bitsOf a_sizeOf a_number a_moved : Nat) (sz : Nat) (v_isKept : Int32) (v_taped : Int32) (v_at : Int32) (v_fault : Int32) (v_laid : Int32) (v_open : Int32) (v_s : Nat → Int32) (v_pile : Nat → Int32) (v_sizeOf : Nat → Int32) (v_number : Nat → Int64) (x1 : Int32) (rr : Int32) (kk' : (Nat → Int32)) (hf : fX5_isRow v_s v_pile v_sizeOf v_number x1 = some (rr, kk')) : Met l yX5_isRow (Cond.code yX5_isRow cX5_isRow 5 (some .boolean) :: wA) rX5_isRow (q_Pre D cI cJ cZ cS tb [.ref a_t, .int x1] sz (wX5_isRow cI cJ cZ cS a_t a_s a_keptS a_statuses a_pile a_tape a_steps a_wish a_mark a_bitsOf a_sizeOf a_number a_moved v_isKept v_taped v_at v_fault v_laid v_open v_s v_pile v_sizeOf v_number)) (q_Ri D rr (va_A (wX5_isRow cI cJ cZ cS a_t a_s a_keptS a_statuses a_pile a_tape a_steps a_wish a_mark a_bitsOf a_sizeOf a_number a_moved v_isKept v_taped v_at v_fault v_laid v_open v_s v_pile v_sizeOf v_number) sz) ((fun k : (Nat → Int32) => (wX5_isRow cI cJ cZ cS a_t a_s a_keptS a_statuses a_pile a_tape a_steps a_wish a_mark a_bitsOf a_sizeOf a_number a_moved v_isKept v_taped v_at v_fault v_laid v_open v_s k v_sizeOf v_number)) kk')) 0 0 (va_A (wX5_isRow cI cJ cZ cS a_t a_s a_keptS a_statuses a_pile a_tape a_steps a_wish a_mark a_bitsOf a_sizeOf a_number a_moved v_isKept v_taped v_at v_fault v_laid v_open v_s v_pile v_sizeOf v_number) sz) := by
  refine q_enter (Qf := fun A => (q_Ri D rr A ((fun k : (Nat → Int32) => (wX5_isRow cI cJ cZ cS a_t a_s a_keptS a_statuses a_pile a_tape a_steps a_wish a_mark a_bitsOf a_sizeOf a_number a_moved v_isKept v_taped v_at v_fault v_laid v_open v_s k v_sizeOf v_number)) kk'))) (by decide) rfl (Nat.le_of_ble_eq_true rfl) ?_
  intro p e s m below meth c A ls fx hname h hl
  have hx := fx.1
  have hb := fx.2.1
  have hl : lv_has ls 5 [(0, .ref a_t), (1, .int x1)] := hl
  generalize h9 : s.heap = H at h ⊢
  clear h9
  generalize h9 : ([] : List Loc) = locs at h ⊢
  clear h9
  unfold fX5_isRow at hf
  refine lv_iconst (v := 0) hx hb dX5_isRow_0 (by decide) ?_
  refine lv_istore_n (lv' := [(2, .int 0), (0, .ref a_t), (1, .int x1)]) hx hb dX5_isRow_1 rfl hl (by decide) rfl (fun ls hl => ?_)
  exact EX5_isRow_2 fx qF h (lv_sub hl [1, 2, 0] rfl) hf
/-! X5_read -/
abbrev wX5_read (cI cJ cZ cS : ClassId) (a_t a_s a_keptS a_statuses a_pile a_tape a_steps a_wish a_mark a_bitsOf a_sizeOf a_number a_moved : Nat) (v_isKept : Int32) (v_taped : Int32) (v_at : Int32) (v_fault : Int32) (v_laid : Int32) (v_open : Int32) (v_s : Nat → Int32) (v_statuses : Nat → Int32) (v_pile : Nat → Int32) (v_bitsOf : Nat → Int32) (v_sizeOf : Nat → Int32) (v_number : Nat → Int64) : va_W := [(a_t, .inr (5, [.ref a_s, .ref a_keptS, .ref a_statuses, .int v_isKept, .ref a_pile, .ref a_tape, .ref a_steps, .int v_taped, .int v_at, .int v_fault, .int v_laid, .int v_open, .ref a_wish, .ref a_mark, .ref a_bitsOf, .ref a_sizeOf, .ref a_number, .ref a_moved])), (a_s, .inl (cI, 538, .inl v_s)), (a_statuses, .inl (cI, 7, .inl v_statuses)), (a_pile, .inl (cZ, 64, .inl v_pile)), (a_bitsOf, .inl (cI, 4, .inl v_bitsOf)), (a_sizeOf, .inl (cI, 4, .inl v_sizeOf)), (a_number, .inl (cJ, 160, .inr (.inl v_number)))]
abbrev rX5_read : Room := { frames := 6, cells := 0, slots := 0, locals := 140 }
def fX5_read_78 (v_bitsOf : Nat → Int32) (v_sizeOf : Nat → Int32) (v_number : Nat → Int64) (ag21 : (Nat → Int32) → (Nat → Int32) → (Nat → Int32) → Int32 → Int32 → Int32 → Option (Int32 × (Nat → Int32) × (Nat → Int32) × (Nat → Int32))) (ag44 : (Nat → Int32) → (Nat → Int32) → (Nat → Int32) → Int32 → Int32 → Int32 → Int32 → Int32 → Option (Int32 × (Nat → Int32) × (Nat → Int32) × (Nat → Int32))) (v_s : Nat → Int32) (v_statuses : Nat → Int32) (v_pile : Nat → Int32) (s0 : Int32) (s1 : Int32) (y1 : Int32) (y4 : Int32) (y5 : Int32) (y6 : Int32) : Option (Int32 × (Nat → Int32) × (Nat → Int32) × (Nat → Int32)) :=
  nm (s0 + s1) (fun u1 =>
  nm (y6 + 1) (fun u2 =>
  ag44 v_s v_statuses v_pile y1 u1 y4 y5 u2))
set_option maxRecDepth 100000 in
set_option maxHeartbeats 4000000 in
theorem LX5_read_78 {p : Program} {l : Launch} {e : Env} {s : State} {m : MethodId} {args : Array Value} {below : List Frame} {meth : Method} {c : Code} {D : va_G} {cI cJ cZ cS : ClassId} {tb : Nat} {A : Nat → Prop} {a_t a_s a_keptS a_statuses a_pile a_tape a_steps a_wish a_mark a_bitsOf a_sizeOf a_number a_moved : Nat} {v_isKept : Int32} {v_taped : Int32} {v_at : Int32} {v_fault : Int32} {v_laid : Int32} {v_open : Int32} {v_bitsOf : Nat → Int32} {v_sizeOf : Nat → Int32} {v_number : Nat → Int64} {rr : Int32} {kk' : (Nat → Int32) × (Nat → Int32) × (Nat → Int32)} (fx : q_Fx p s m args meth c cX5_read 7 RX5 (some .int) D cI cJ cZ cS tb A) {ag21 : (Nat → Int32) → (Nat → Int32) → (Nat → Int32) → Int32 → Int32 → Int32 → Option (Int32 × (Nat → Int32) × (Nat → Int32) × (Nat → Int32))} (hag21 : ∀ {v_s : Nat → Int32} {v_statuses : Nat → Int32} {v_pile : Nat → Int32} {y1 : Int32} {y3 : Int32} {y4 : Int32} {H : Heap} {locs : List Loc} {ls : Array Slot}, q_H D A s (wX5_read cI cJ cZ cS a_t a_s a_keptS a_statuses a_pile a_tape a_steps a_wish a_mark a_bitsOf a_sizeOf a_number a_moved v_isKept v_taped v_at v_fault v_laid v_open v_s v_statuses v_pile v_bitsOf v_sizeOf v_number) H locs → lv_has ls 7 [(0, .ref a_t), (1, .int y1), (3, .int y3), (4, .int y4)] → ag21 v_s v_statuses v_pile y1 y3 y4 = some (rr, kk') → W p l e rX5_read s m args below meth c H locs 0 0 (MQ below (q_Ri D rr A ((fun k : (Nat → Int32) × (Nat → Int32) × (Nat → Int32) => (wX5_read cI cJ cZ cS a_t a_s a_keptS a_statuses a_pile a_tape a_steps a_wish a_mark a_bitsOf a_sizeOf a_number a_moved v_isKept v_taped v_at v_fault v_laid v_open k.1 k.2.1 k.2.2 v_bitsOf v_sizeOf v_number)) kk')) args s 0 0 A) (F0 m 21 ls [])) {ag44 : (Nat → Int32) → (Nat → Int32) → (Nat → Int32) → Int32 → Int32 → Int32 → Int32 → Int32 → Option (Int32 × (Nat → Int32) × (Nat → Int32) × (Nat → Int32))} (hag44 : ∀ {v_s : Nat → Int32} {v_statuses : Nat → Int32} {v_pile : Nat → Int32} {y1 : Int32} {y3 : Int32} {y4 : Int32} {y5 : Int32} {y6 : Int32} {H : Heap} {locs : List Loc} {ls : Array Slot}, q_H D A s (wX5_read cI cJ cZ cS a_t a_s a_keptS a_statuses a_pile a_tape a_steps a_wish a_mark a_bitsOf a_sizeOf a_number a_moved v_isKept v_taped v_at v_fault v_laid v_open v_s v_statuses v_pile v_bitsOf v_sizeOf v_number) H locs → lv_has ls 7 [(0, .ref a_t), (1, .int y1), (3, .int y3), (4, .int y4), (5, .int y5), (6, .int y6)] → ag44 v_s v_statuses v_pile y1 y3 y4 y5 y6 = some (rr, kk') → W p l e rX5_read s m args below meth c H locs 0 0 (MQ below (q_Ri D rr A ((fun k : (Nat → Int32) × (Nat → Int32) × (Nat → Int32) => (wX5_read cI cJ cZ cS a_t a_s a_keptS a_statuses a_pile a_tape a_steps a_wish a_mark a_bitsOf a_sizeOf a_number a_moved v_isKept v_taped v_at v_fault v_laid v_open k.1 k.2.1 k.2.2 v_bitsOf v_sizeOf v_number)) kk')) args s 0 0 A) (F0 m 44 ls [])) : ∀ {v_s : Nat → Int32} {v_statuses : Nat → Int32} {v_pile : Nat → Int32} {s0 : Int32} {s1 : Int32} {y1 : Int32} {y4 : Int32} {y5 : Int32} {y6 : Int32} {H : Heap} {locs : List Loc} {ls : Array Slot}, q_H D A s (wX5_read cI cJ cZ cS a_t a_s a_keptS a_statuses a_pile a_tape a_steps a_wish a_mark a_bitsOf a_sizeOf a_number a_moved v_isKept v_taped v_at v_fault v_laid v_open v_s v_statuses v_pile v_bitsOf v_sizeOf v_number) H locs → lv_has ls 7 [(0, .ref a_t), (1, .int y1), (4, .int y4), (5, .int y5), (6, .int y6)] → fX5_read_78 v_bitsOf v_sizeOf v_number ag21 ag44 v_s v_statuses v_pile s0 s1 y1 y4 y5 y6 = some (rr, kk') → W p l e rX5_read s m args below meth c H locs 0 0 (MQ below (q_Ri D rr A ((fun k : (Nat → Int32) × (Nat → Int32) × (Nat → Int32) => (wX5_read cI cJ cZ cS a_t a_s a_keptS a_statuses a_pile a_tape a_steps a_wish a_mark a_bitsOf a_sizeOf a_number a_moved v_isKept v_taped v_at v_fault v_laid v_open k.1 k.2.1 k.2.2 v_bitsOf v_sizeOf v_number)) kk')) args s 0 0 A) (F0 m 78 ls [.int s1, .int s0]) := by
  intro v_s v_statuses v_pile s0 s1 y1 y4 y5 y6 H locs ls h hl hf
  have hx := fx.1
  have hb := fx.2.1
  unfold fX5_read_78 at hf
  refine lv_iadd hx hb dX5_read_78 ?_
  obtain ⟨u1, eu1, hf⟩ := nm_inv hf
  refine lv_eqi eu1 ?_
  refine lv_istore_n (lv' := [(3, .int u1), (0, .ref a_t), (1, .int y1), (4, .int y4), (5, .int y5), (6, .int y6)]) hx hb dX5_read_79 rfl hl (by decide) rfl (fun ls hl => ?_)
  obtain ⟨u2, eu2, hf⟩ := nm_inv hf
  refine lv_iinc (v := u2) (lv' := [(6, .int u2), (3, .int u1), (0, .ref a_t), (1, .int y1), (4, .int y4), (5, .int y5)]) hx hb dX5_read_80 hl (k := 5) rfl (by rw [eu2]; rfl) (by decide) rfl (fun ls hl => ?_)
  refine lv_goto (tgt := 44) hx hb dX5_read_83 (by decide) ?_
  exact hag44 h (lv_sub hl [2, 3, 1, 4, 5, 0] rfl) hf
def fX5_read_44 (v_bitsOf : Nat → Int32) (v_sizeOf : Nat → Int32) (v_number : Nat → Int64) (ag21 : (Nat → Int32) → (Nat → Int32) → (Nat → Int32) → Int32 → Int32 → Int32 → Option (Int32 × (Nat → Int32) × (Nat → Int32) × (Nat → Int32))) (ag44 : (Nat → Int32) → (Nat → Int32) → (Nat → Int32) → Int32 → Int32 → Int32 → Int32 → Int32 → Option (Int32 × (Nat → Int32) × (Nat → Int32) × (Nat → Int32))) (v_s : Nat → Int32) (v_statuses : Nat → Int32) (v_pile : Nat → Int32) (y1 : Int32) (y3 : Int32) (y4 : Int32) (y5 : Int32) (y6 : Int32) : Option (Int32 × (Nat → Int32) × (Nat → Int32) × (Nat → Int32)) :=
  (if (6 : Int32) ≤ y6 then (
  gIn (2 + (3 * y4)) 538 (
  nm (y4 + 1) (fun u5 =>
  ag21 (upd v_s (2 + (3 * y4)).toNatClampNeg y5) v_statuses v_pile y1 y3 u5)))
  else (
  gIn (2 + (3 * y4)) 538 (
  bR (fX5_isRow (upd v_s (2 + (3 * y4)).toNatClampNeg y6) v_pile v_sizeOf v_number y1) (fun r7 k7 =>
  (if r7 = 0 then (
  fX5_read_78 v_bitsOf v_sizeOf v_number ag21 ag44 (upd v_s (2 + (3 * y4)).toNatClampNeg y6) v_statuses k7 y3 0 y1 y4 y5 y6)
  else (
  fX5_read_78 v_bitsOf v_sizeOf v_number ag21 ag44 (upd v_s (2 + (3 * y4)).toNatClampNeg y6) v_statuses k7 y3 1 y1 y4 y5 y6))))))
set_option maxRecDepth 100000 in
set_option maxHeartbeats 4000000 in
theorem LX5_read_44 {p : Program} {l : Launch} {e : Env} {s : State} {m : MethodId} {args : Array Value} {below : List Frame} {meth : Method} {c : Code} {D : va_G} {cI cJ cZ cS : ClassId} {tb : Nat} {A : Nat → Prop} {a_t a_s a_keptS a_statuses a_pile a_tape a_steps a_wish a_mark a_bitsOf a_sizeOf a_number a_moved : Nat} {v_isKept : Int32} {v_taped : Int32} {v_at : Int32} {v_fault : Int32} {v_laid : Int32} {v_open : Int32} {v_bitsOf : Nat → Int32} {v_sizeOf : Nat → Int32} {v_number : Nat → Int64} {rr : Int32} {kk' : (Nat → Int32) × (Nat → Int32) × (Nat → Int32)} (fx : q_Fx p s m args meth c cX5_read 7 RX5 (some .int) D cI cJ cZ cS tb A) {ag21 : (Nat → Int32) → (Nat → Int32) → (Nat → Int32) → Int32 → Int32 → Int32 → Option (Int32 × (Nat → Int32) × (Nat → Int32) × (Nat → Int32))} (hag21 : ∀ {v_s : Nat → Int32} {v_statuses : Nat → Int32} {v_pile : Nat → Int32} {y1 : Int32} {y3 : Int32} {y4 : Int32} {H : Heap} {locs : List Loc} {ls : Array Slot}, q_H D A s (wX5_read cI cJ cZ cS a_t a_s a_keptS a_statuses a_pile a_tape a_steps a_wish a_mark a_bitsOf a_sizeOf a_number a_moved v_isKept v_taped v_at v_fault v_laid v_open v_s v_statuses v_pile v_bitsOf v_sizeOf v_number) H locs → lv_has ls 7 [(0, .ref a_t), (1, .int y1), (3, .int y3), (4, .int y4)] → ag21 v_s v_statuses v_pile y1 y3 y4 = some (rr, kk') → W p l e rX5_read s m args below meth c H locs 0 0 (MQ below (q_Ri D rr A ((fun k : (Nat → Int32) × (Nat → Int32) × (Nat → Int32) => (wX5_read cI cJ cZ cS a_t a_s a_keptS a_statuses a_pile a_tape a_steps a_wish a_mark a_bitsOf a_sizeOf a_number a_moved v_isKept v_taped v_at v_fault v_laid v_open k.1 k.2.1 k.2.2 v_bitsOf v_sizeOf v_number)) kk')) args s 0 0 A) (F0 m 21 ls [])) {ag44 : (Nat → Int32) → (Nat → Int32) → (Nat → Int32) → Int32 → Int32 → Int32 → Int32 → Int32 → Option (Int32 × (Nat → Int32) × (Nat → Int32) × (Nat → Int32))} (hag44 : ∀ {v_s : Nat → Int32} {v_statuses : Nat → Int32} {v_pile : Nat → Int32} {y1 : Int32} {y3 : Int32} {y4 : Int32} {y5 : Int32} {y6 : Int32} {H : Heap} {locs : List Loc} {ls : Array Slot}, q_H D A s (wX5_read cI cJ cZ cS a_t a_s a_keptS a_statuses a_pile a_tape a_steps a_wish a_mark a_bitsOf a_sizeOf a_number a_moved v_isKept v_taped v_at v_fault v_laid v_open v_s v_statuses v_pile v_bitsOf v_sizeOf v_number) H locs → lv_has ls 7 [(0, .ref a_t), (1, .int y1), (3, .int y3), (4, .int y4), (5, .int y5), (6, .int y6)] → ag44 v_s v_statuses v_pile y1 y3 y4 y5 y6 = some (rr, kk') → W p l e rX5_read s m args below meth c H locs 0 0 (MQ below (q_Ri D rr A ((fun k : (Nat → Int32) × (Nat → Int32) × (Nat → Int32) => (wX5_read cI cJ cZ cS a_t a_s a_keptS a_statuses a_pile a_tape a_steps a_wish a_mark a_bitsOf a_sizeOf a_number a_moved v_isKept v_taped v_at v_fault v_laid v_open k.1 k.2.1 k.2.2 v_bitsOf v_sizeOf v_number)) kk')) args s 0 0 A) (F0 m 44 ls [])) : ∀ {v_s : Nat → Int32} {v_statuses : Nat → Int32} {v_pile : Nat → Int32} {y1 : Int32} {y3 : Int32} {y4 : Int32} {y5 : Int32} {y6 : Int32} {H : Heap} {locs : List Loc} {ls : Array Slot}, q_H D A s (wX5_read cI cJ cZ cS a_t a_s a_keptS a_statuses a_pile a_tape a_steps a_wish a_mark a_bitsOf a_sizeOf a_number a_moved v_isKept v_taped v_at v_fault v_laid v_open v_s v_statuses v_pile v_bitsOf v_sizeOf v_number) H locs → lv_has ls 7 [(0, .ref a_t), (1, .int y1), (3, .int y3), (4, .int y4), (5, .int y5), (6, .int y6)] → fX5_read_44 v_bitsOf v_sizeOf v_number ag21 ag44 v_s v_statuses v_pile y1 y3 y4 y5 y6 = some (rr, kk') → W p l e rX5_read s m args below meth c H locs 0 0 (MQ below (q_Ri D rr A ((fun k : (Nat → Int32) × (Nat → Int32) × (Nat → Int32) => (wX5_read cI cJ cZ cS a_t a_s a_keptS a_statuses a_pile a_tape a_steps a_wish a_mark a_bitsOf a_sizeOf a_number a_moved v_isKept v_taped v_at v_fault v_laid v_open k.1 k.2.1 k.2.2 v_bitsOf v_sizeOf v_number)) kk')) args s 0 0 A) (F0 m 44 ls []) := by
  intro v_s v_statuses v_pile y1 y3 y4 y5 y6 H locs ls h hl hf
  have hx := fx.1
  have hb := fx.2.1
  unfold fX5_read_44 at hf
  refine lv_iload hx hb dX5_read_44 (lv_at hl 5 rfl) ?_
  refine lv_bipush (v := 6) hx hb dX5_read_46 (by decide) ?_
  refine lv_icmp_ge (tgt := 86) hx hb dX5_read_48 (by decide) (fun c3 => ?_) (fun c3 => ?_)
  · have hf := it_t c3 hf
    refine lv_aload_n hx hb dX5_read_86 rfl (lv_at hl 0 rfl) ?_
    refine q_get (v := .ref a_s) fx inX5 h 0 rfl rfl 0 (by decide) k_636 rfl dX5_read_87 ?_
    refine lv_iconst (v := 2) hx hb dX5_read_90 (by decide) ?_
    refine lv_iconst (v := 3) hx hb dX5_read_91 (by decide) ?_
    refine lv_iload hx hb dX5_read_92 (lv_at hl 3 rfl) ?_
    refine lv_imul hx hb dX5_read_94 ?_
    refine lv_iadd hx hb dX5_read_95 ?_
    refine lv_iload hx hb dX5_read_96 (lv_at hl 4 rfl) ?_
    obtain ⟨i4, hf⟩ := gIn_inv hf
    refine q_iast (ws' := (wX5_read cI cJ cZ cS a_t a_s a_keptS a_statuses a_pile a_tape a_steps a_wish a_mark a_bitsOf a_sizeOf a_number a_moved v_isKept v_taped v_at v_fault v_laid v_open (upd v_s (2 + (3 * y4)).toNatClampNeg y5) v_statuses v_pile v_bitsOf v_sizeOf v_number)) fx h 1 rfl i4 rfl dX5_read_98 (fun H locs h => ?_)
    obtain ⟨u5, eu5, hf⟩ := nm_inv hf
    refine lv_iinc (v := u5) (lv' := [(4, .int u5), (0, .ref a_t), (1, .int y1), (3, .int y3), (5, .int y5), (6, .int y6)]) hx hb dX5_read_99 hl (k := 3) rfl (by rw [eu5]; rfl) (by decide) rfl (fun ls hl => ?_)
    refine lv_goto (tgt := 21) hx hb dX5_read_102 (by decide) ?_
    exact hag21 h (lv_sub hl [1, 2, 3, 0] rfl) hf
  have hf := it_f c3 hf
  refine lv_aload_n hx hb dX5_read_51 rfl (lv_at hl 0 rfl) ?_
  refine q_get (v := .ref a_s) fx inX5 h 0 rfl rfl 0 (by decide) k_636 rfl dX5_read_52 ?_
  refine lv_iconst (v := 2) hx hb dX5_read_55 (by decide) ?_
  refine lv_iconst (v := 3) hx hb dX5_read_56 (by decide) ?_
  refine lv_iload hx hb dX5_read_57 (lv_at hl 3 rfl) ?_
  refine lv_imul hx hb dX5_read_59 ?_
  refine lv_iadd hx hb dX5_read_60 ?_
  refine lv_iload hx hb dX5_read_61 (lv_at hl 5 rfl) ?_
  obtain ⟨i6, hf⟩ := gIn_inv hf
  refine q_iast (ws' := (wX5_read cI cJ cZ cS a_t a_s a_keptS a_statuses a_pile a_tape a_steps a_wish a_mark a_bitsOf a_sizeOf a_number a_moved v_isKept v_taped v_at v_fault v_laid v_open (upd v_s (2 + (3 * y4)).toNatClampNeg y6) v_statuses v_pile v_bitsOf v_sizeOf v_number)) fx h 1 rfl i6 rfl dX5_read_63 (fun H locs h => ?_)
  refine lv_iload_n hx hb dX5_read_64 rfl (lv_at hl 2 rfl) ?_
  refine lv_aload_n hx hb dX5_read_65 rfl (lv_at hl 0 rfl) ?_
  refine lv_iload_n hx hb dX5_read_66 rfl (lv_at hl 1 rfl) ?_
  obtain ⟨r7, k7, hg, hf⟩ := bR_inv hf
  refine q_ci (rest := [.int y3]) (ws' := (wX5_read cI cJ cZ cS a_t a_s a_keptS a_statuses a_pile a_tape a_steps a_wish a_mark a_bitsOf a_sizeOf a_number a_moved v_isKept v_taped v_at v_fault v_laid v_open (upd v_s (2 + (3 * y4)).toNatClampNeg y6) v_statuses k7 v_bitsOf v_sizeOf v_number)) (w1 := (wX5_isRow cI cJ cZ cS a_t a_s a_keptS a_statuses a_pile a_tape a_steps a_wish a_mark a_bitsOf a_sizeOf a_number a_moved v_isKept v_taped v_at v_fault v_laid v_open (upd v_s (2 + (3 * y4)).toNatClampNeg y6) k7 v_sizeOf v_number)) fx h [0, 1, 3, 5, 6] rfl rfl rfl rfl (q_runV fx h hl.1 [0, 1, 3, 5, 6] rfl rfl (tX5_isRow l D cI cJ cZ cS tb a_t a_s a_keptS a_statuses a_pile a_tape a_steps a_wish a_mark a_bitsOf a_sizeOf a_number a_moved H.size v_isKept v_taped v_at v_fault v_laid v_open (upd v_s (2 + (3 * y4)).toNatClampNeg y6) v_pile v_sizeOf v_number y1 r7 k7 hg) mvX5_isRow k_991 ⟨rfl, rfl⟩ ⟨Nat.le_of_ble_eq_true rfl, Nat.le_of_ble_eq_true rfl⟩ rfl rfl rfl rfl (Nat.le_of_ble_eq_true rfl) dX5_read_67 ⟨Nat.le_of_ble_eq_true rfl, Nat.le_of_ble_eq_true rfl⟩) (fun H locs h => ?_)
  refine lv_if_eq (tgt := 77) hx hb dX5_read_70 (by decide) (fun c8 => ?_) (fun c8 => ?_)
  · have hf := it_t c8 hf
    refine lv_iconst (v := 0) hx hb dX5_read_77 (by decide) ?_
    exact LX5_read_78 fx hag21 hag44 h (lv_sub hl [0, 1, 3, 4, 5] rfl) hf
  have hf := it_f c8 hf
  refine lv_iconst (v := 1) hx hb dX5_read_73 (by decide) ?_
  refine lv_goto (tgt := 78) hx hb dX5_read_74 (by decide) ?_
  exact LX5_read_78 fx hag21 hag44 h (lv_sub hl [0, 1, 3, 4, 5] rfl) hf
set_option maxRecDepth 100000 in
theorem EX5_read_44 {p : Program} {l : Launch} {e : Env} {s : State} {m : MethodId} {args : Array Value} {below : List Frame} {meth : Method} {c : Code} {D : va_G} {cI cJ cZ cS : ClassId} {tb : Nat} {A : Nat → Prop} {a_t a_s a_keptS a_statuses a_pile a_tape a_steps a_wish a_mark a_bitsOf a_sizeOf a_number a_moved : Nat} {v_isKept : Int32} {v_taped : Int32} {v_at : Int32} {v_fault : Int32} {v_laid : Int32} {v_open : Int32} {v_bitsOf : Nat → Int32} {v_sizeOf : Nat → Int32} {v_number : Nat → Int64} {rr : Int32} {kk' : (Nat → Int32) × (Nat → Int32) × (Nat → Int32)} (fx : q_Fx p s m args meth c cX5_read 7 RX5 (some .int) D cI cJ cZ cS tb A) {ag21 : (Nat → Int32) → (Nat → Int32) → (Nat → Int32) → Int32 → Int32 → Int32 → Option (Int32 × (Nat → Int32) × (Nat → Int32) × (Nat → Int32))} (hag21 : ∀ {v_s : Nat → Int32} {v_statuses : Nat → Int32} {v_pile : Nat → Int32} {y1 : Int32} {y3 : Int32} {y4 : Int32} {H : Heap} {locs : List Loc} {ls : Array Slot}, q_H D A s (wX5_read cI cJ cZ cS a_t a_s a_keptS a_statuses a_pile a_tape a_steps a_wish a_mark a_bitsOf a_sizeOf a_number a_moved v_isKept v_taped v_at v_fault v_laid v_open v_s v_statuses v_pile v_bitsOf v_sizeOf v_number) H locs → lv_has ls 7 [(0, .ref a_t), (1, .int y1), (3, .int y3), (4, .int y4)] → ag21 v_s v_statuses v_pile y1 y3 y4 = some (rr, kk') → W p l e rX5_read s m args below meth c H locs 0 0 (MQ below (q_Ri D rr A ((fun k : (Nat → Int32) × (Nat → Int32) × (Nat → Int32) => (wX5_read cI cJ cZ cS a_t a_s a_keptS a_statuses a_pile a_tape a_steps a_wish a_mark a_bitsOf a_sizeOf a_number a_moved v_isKept v_taped v_at v_fault v_laid v_open k.1 k.2.1 k.2.2 v_bitsOf v_sizeOf v_number)) kk')) args s 0 0 A) (F0 m 21 ls [])) : ∀ (n : Nat), ∀ {v_s : Nat → Int32} {v_statuses : Nat → Int32} {v_pile : Nat → Int32} {y1 : Int32} {y3 : Int32} {y4 : Int32} {y5 : Int32} {y6 : Int32} {H : Heap} {locs : List Loc} {ls : Array Slot}, q_H D A s (wX5_read cI cJ cZ cS a_t a_s a_keptS a_statuses a_pile a_tape a_steps a_wish a_mark a_bitsOf a_sizeOf a_number a_moved v_isKept v_taped v_at v_fault v_laid v_open v_s v_statuses v_pile v_bitsOf v_sizeOf v_number) H locs → lv_has ls 7 [(0, .ref a_t), (1, .int y1), (3, .int y3), (4, .int y4), (5, .int y5), (6, .int y6)] → ll8 (fX5_read_44 v_bitsOf v_sizeOf v_number ag21) n v_s v_statuses v_pile y1 y3 y4 y5 y6 = some (rr, kk') → W p l e rX5_read s m args below meth c H locs 0 0 (MQ below (q_Ri D rr A ((fun k : (Nat → Int32) × (Nat → Int32) × (Nat → Int32) => (wX5_read cI cJ cZ cS a_t a_s a_keptS a_statuses a_pile a_tape a_steps a_wish a_mark a_bitsOf a_sizeOf a_number a_moved v_isKept v_taped v_at v_fault v_laid v_open k.1 k.2.1 k.2.2 v_bitsOf v_sizeOf v_number)) kk')) args s 0 0 A) (F0 m 44 ls []) := by
  intro n
  induction n with
  | zero => intro v_s v_statuses v_pile y1 y3 y4 y5 y6 H locs ls h hl hf; exact (ll8_z hf).elim
  | succ n ih => intro v_s v_statuses v_pile y1 y3 y4 y5 y6 H locs ls h hl hf; exact LX5_read_44 fx hag21 ih h hl (ll8_s hf)
def fX5_read_21 (v_bitsOf : Nat → Int32) (v_sizeOf : Nat → Int32) (v_number : Nat → Int64) (ag21 : (Nat → Int32) → (Nat → Int32) → (Nat → Int32) → Int32 → Int32 → Int32 → Option (Int32 × (Nat → Int32) × (Nat → Int32) × (Nat → Int32))) (v_s : Nat → Int32) (v_statuses : Nat → Int32) (v_pile : Nat → Int32) (y1 : Int32) (y3 : Int32) (y4 : Int32) : Option (Int32 × (Nat → Int32) × (Nat → Int32) × (Nat → Int32)) :=
  (if (v_s 0) ≤ y4 then (
  some (y3, (v_s, v_statuses, v_pile)))
  else (
  bR (fX5_its v_s y4 0) (fun r10 k10 =>
  ll8 (fX5_read_44 v_bitsOf v_sizeOf v_number ag21) qF v_s v_statuses v_pile y1 y3 y4 r10 0)))
set_option maxRecDepth 100000 in
set_option maxHeartbeats 4000000 in
theorem LX5_read_21 {p : Program} {l : Launch} {e : Env} {s : State} {m : MethodId} {args : Array Value} {below : List Frame} {meth : Method} {c : Code} {D : va_G} {cI cJ cZ cS : ClassId} {tb : Nat} {A : Nat → Prop} {a_t a_s a_keptS a_statuses a_pile a_tape a_steps a_wish a_mark a_bitsOf a_sizeOf a_number a_moved : Nat} {v_isKept : Int32} {v_taped : Int32} {v_at : Int32} {v_fault : Int32} {v_laid : Int32} {v_open : Int32} {v_bitsOf : Nat → Int32} {v_sizeOf : Nat → Int32} {v_number : Nat → Int64} {rr : Int32} {kk' : (Nat → Int32) × (Nat → Int32) × (Nat → Int32)} (fx : q_Fx p s m args meth c cX5_read 7 RX5 (some .int) D cI cJ cZ cS tb A) {ag21 : (Nat → Int32) → (Nat → Int32) → (Nat → Int32) → Int32 → Int32 → Int32 → Option (Int32 × (Nat → Int32) × (Nat → Int32) × (Nat → Int32))} (hag21 : ∀ {v_s : Nat → Int32} {v_statuses : Nat → Int32} {v_pile : Nat → Int32} {y1 : Int32} {y3 : Int32} {y4 : Int32} {H : Heap} {locs : List Loc} {ls : Array Slot}, q_H D A s (wX5_read cI cJ cZ cS a_t a_s a_keptS a_statuses a_pile a_tape a_steps a_wish a_mark a_bitsOf a_sizeOf a_number a_moved v_isKept v_taped v_at v_fault v_laid v_open v_s v_statuses v_pile v_bitsOf v_sizeOf v_number) H locs → lv_has ls 7 [(0, .ref a_t), (1, .int y1), (3, .int y3), (4, .int y4)] → ag21 v_s v_statuses v_pile y1 y3 y4 = some (rr, kk') → W p l e rX5_read s m args below meth c H locs 0 0 (MQ below (q_Ri D rr A ((fun k : (Nat → Int32) × (Nat → Int32) × (Nat → Int32) => (wX5_read cI cJ cZ cS a_t a_s a_keptS a_statuses a_pile a_tape a_steps a_wish a_mark a_bitsOf a_sizeOf a_number a_moved v_isKept v_taped v_at v_fault v_laid v_open k.1 k.2.1 k.2.2 v_bitsOf v_sizeOf v_number)) kk')) args s 0 0 A) (F0 m 21 ls [])) : ∀ {v_s : Nat → Int32} {v_statuses : Nat → Int32} {v_pile : Nat → Int32} {y1 : Int32} {y3 : Int32} {y4 : Int32} {H : Heap} {locs : List Loc} {ls : Array Slot}, q_H D A s (wX5_read cI cJ cZ cS a_t a_s a_keptS a_statuses a_pile a_tape a_steps a_wish a_mark a_bitsOf a_sizeOf a_number a_moved v_isKept v_taped v_at v_fault v_laid v_open v_s v_statuses v_pile v_bitsOf v_sizeOf v_number) H locs → lv_has ls 7 [(0, .ref a_t), (1, .int y1), (3, .int y3), (4, .int y4)] → fX5_read_21 v_bitsOf v_sizeOf v_number ag21 v_s v_statuses v_pile y1 y3 y4 = some (rr, kk') → W p l e rX5_read s m args below meth c H locs 0 0 (MQ below (q_Ri D rr A ((fun k : (Nat → Int32) × (Nat → Int32) × (Nat → Int32) => (wX5_read cI cJ cZ cS a_t a_s a_keptS a_statuses a_pile a_tape a_steps a_wish a_mark a_bitsOf a_sizeOf a_number a_moved v_isKept v_taped v_at v_fault v_laid v_open k.1 k.2.1 k.2.2 v_bitsOf v_sizeOf v_number)) kk')) args s 0 0 A) (F0 m 21 ls []) := by
  intro v_s v_statuses v_pile y1 y3 y4 H locs ls h hl hf
  have hx := fx.1
  have hb := fx.2.1
  unfold fX5_read_21 at hf
  refine lv_iload hx hb dX5_read_21 (lv_at hl 3 rfl) ?_
  refine lv_aload_n hx hb dX5_read_23 rfl (lv_at hl 0 rfl) ?_
  refine q_get (v := .ref a_s) fx inX5 h 0 rfl rfl 0 (by decide) k_636 rfl dX5_read_24 ?_
  refine lv_iconst (v := 0) hx hb dX5_read_27 (by decide) ?_
  refine q_ialdK fx h 1 rfl 0 (vinK (by decide)) (by decide) dX5_read_28 ?_
  refine lv_icmp_ge (tgt := 105) hx hb dX5_read_29 (by decide) (fun c9 => ?_) (fun c9 => ?_)
  · have hf := it_t c9 hf
    refine lv_iload_n hx hb dX5_read_105 rfl (lv_at hl 2 rfl) ?_
    exact q_reti (fun k : (Nat → Int32) × (Nat → Int32) × (Nat → Int32) => (wX5_read cI cJ cZ cS a_t a_s a_keptS a_statuses a_pile a_tape a_steps a_wish a_mark a_bitsOf a_sizeOf a_number a_moved v_isKept v_taped v_at v_fault v_laid v_open k.1 k.2.1 k.2.2 v_bitsOf v_sizeOf v_number)) fx hf h dX5_read_106
  have hf := it_f c9 hf
  refine lv_aload_n hx hb dX5_read_32 rfl (lv_at hl 0 rfl) ?_
  refine lv_iload hx hb dX5_read_33 (lv_at hl 3 rfl) ?_
  refine lv_iconst (v := 0) hx hb dX5_read_35 (by decide) ?_
  obtain ⟨r10, k10, hg, hf⟩ := bR_inv hf
  refine q_ci (rest := []) (ws' := (wX5_read cI cJ cZ cS a_t a_s a_keptS a_statuses a_pile a_tape a_steps a_wish a_mark a_bitsOf a_sizeOf a_number a_moved v_isKept v_taped v_at v_fault v_laid v_open v_s v_statuses v_pile v_bitsOf v_sizeOf v_number)) (w1 := (wX5_its cI cJ cZ cS a_t a_s a_keptS a_statuses a_pile a_tape a_steps a_wish a_mark a_bitsOf a_sizeOf a_number a_moved v_isKept v_taped v_at v_fault v_laid v_open v_s)) fx h [0, 1] rfl rfl rfl rfl (q_runV fx h hl.1 [0, 1] rfl rfl (tX5_its l D cI cJ cZ cS tb a_t a_s a_keptS a_statuses a_pile a_tape a_steps a_wish a_mark a_bitsOf a_sizeOf a_number a_moved H.size v_isKept v_taped v_at v_fault v_laid v_open v_s y4 0 r10 k10 hg) mvX5_its k_725 ⟨rfl, rfl⟩ ⟨Nat.le_of_ble_eq_true rfl, Nat.le_of_ble_eq_true rfl⟩ rfl rfl rfl rfl (Nat.le_of_ble_eq_true rfl) dX5_read_36 ⟨Nat.le_of_ble_eq_true rfl, Nat.le_of_ble_eq_true rfl⟩) (fun H locs h => ?_)
  refine lv_istore (lv' := [(5, .int r10), (0, .ref a_t), (1, .int y1), (3, .int y3), (4, .int y4)]) hx hb dX5_read_39 hl (by decide) rfl (fun ls hl => ?_)
  refine lv_iconst (v := 0) hx hb dX5_read_41 (by decide) ?_
  refine lv_istore (lv' := [(6, .int 0), (5, .int r10), (0, .ref a_t), (1, .int y1), (3, .int y3), (4, .int y4)]) hx hb dX5_read_42 hl (by decide) rfl (fun ls hl => ?_)
  exact EX5_read_44 fx hag21 qF h (lv_sub hl [2, 3, 4, 5, 1, 0] rfl) hf
set_option maxRecDepth 100000 in
theorem EX5_read_21 {p : Program} {l : Launch} {e : Env} {s : State} {m : MethodId} {args : Array Value} {below : List Frame} {meth : Method} {c : Code} {D : va_G} {cI cJ cZ cS : ClassId} {tb : Nat} {A : Nat → Prop} {a_t a_s a_keptS a_statuses a_pile a_tape a_steps a_wish a_mark a_bitsOf a_sizeOf a_number a_moved : Nat} {v_isKept : Int32} {v_taped : Int32} {v_at : Int32} {v_fault : Int32} {v_laid : Int32} {v_open : Int32} {v_bitsOf : Nat → Int32} {v_sizeOf : Nat → Int32} {v_number : Nat → Int64} {rr : Int32} {kk' : (Nat → Int32) × (Nat → Int32) × (Nat → Int32)} (fx : q_Fx p s m args meth c cX5_read 7 RX5 (some .int) D cI cJ cZ cS tb A) : ∀ (n : Nat), ∀ {v_s : Nat → Int32} {v_statuses : Nat → Int32} {v_pile : Nat → Int32} {y1 : Int32} {y3 : Int32} {y4 : Int32} {H : Heap} {locs : List Loc} {ls : Array Slot}, q_H D A s (wX5_read cI cJ cZ cS a_t a_s a_keptS a_statuses a_pile a_tape a_steps a_wish a_mark a_bitsOf a_sizeOf a_number a_moved v_isKept v_taped v_at v_fault v_laid v_open v_s v_statuses v_pile v_bitsOf v_sizeOf v_number) H locs → lv_has ls 7 [(0, .ref a_t), (1, .int y1), (3, .int y3), (4, .int y4)] → ll6 (fX5_read_21 v_bitsOf v_sizeOf v_number) n v_s v_statuses v_pile y1 y3 y4 = some (rr, kk') → W p l e rX5_read s m args below meth c H locs 0 0 (MQ below (q_Ri D rr A ((fun k : (Nat → Int32) × (Nat → Int32) × (Nat → Int32) => (wX5_read cI cJ cZ cS a_t a_s a_keptS a_statuses a_pile a_tape a_steps a_wish a_mark a_bitsOf a_sizeOf a_number a_moved v_isKept v_taped v_at v_fault v_laid v_open k.1 k.2.1 k.2.2 v_bitsOf v_sizeOf v_number)) kk')) args s 0 0 A) (F0 m 21 ls []) := by
  intro n
  induction n with
  | zero => intro v_s v_statuses v_pile y1 y3 y4 H locs ls h hl hf; exact (ll6_z hf).elim
  | succ n ih => intro v_s v_statuses v_pile y1 y3 y4 H locs ls h hl hf; exact LX5_read_21 fx ih h hl (ll6_s hf)
def fX5_read (v_s : Nat → Int32) (v_statuses : Nat → Int32) (v_pile : Nat → Int32) (v_bitsOf : Nat → Int32) (v_sizeOf : Nat → Int32) (v_number : Nat → Int64) (x1 : Int32) : Option (Int32 × (Nat → Int32) × (Nat → Int32) × (Nat → Int32)) :=
  bR (fX5_wrong v_bitsOf x1) (fun r11 k11 =>
  (if r11 = 0 then (
  ll6 (fX5_read_21 v_bitsOf v_sizeOf v_number) qF v_s v_statuses v_pile x1 0 0)
  else (
  bR (fX5_finds v_statuses r11) (fun r13 k13 =>
  some (r13, (v_s, k13, v_pile))))))
set_option maxRecDepth 100000 in
set_option maxHeartbeats 4000000 in
theorem tX5_read (l : Launch) (D : va_G) (cI cJ cZ cS : ClassId) (tb : Nat) (a_t a_s a_keptS a_statuses a_pile a_tape a_steps a_wish a_mark a_bitsOf a_sizeOf a_number a_moved : Nat) (sz : Nat) (v_isKept : Int32) (v_taped : Int32) (v_at : Int32) (v_fault : Int32) (v_laid : Int32) (v_open : Int32) (v_s : Nat → Int32) (v_statuses : Nat → Int32) (v_pile : Nat → Int32) (v_bitsOf : Nat → Int32) (v_sizeOf : Nat → Int32) (v_number : Nat → Int64) (x1 : Int32) (rr : Int32) (kk' : (Nat → Int32) × (Nat → Int32) × (Nat → Int32)) (hf : fX5_read v_s v_statuses v_pile v_bitsOf v_sizeOf v_number x1 = some (rr, kk')) : Met l yX5_read (Cond.code yX5_read cX5_read 7 (some .int) :: wA) rX5_read (q_Pre D cI cJ cZ cS tb [.ref a_t, .int x1] sz (wX5_read cI cJ cZ cS a_t a_s a_keptS a_statuses a_pile a_tape a_steps a_wish a_mark a_bitsOf a_sizeOf a_number a_moved v_isKept v_taped v_at v_fault v_laid v_open v_s v_statuses v_pile v_bitsOf v_sizeOf v_number)) (q_Ri D rr (va_A (wX5_read cI cJ cZ cS a_t a_s a_keptS a_statuses a_pile a_tape a_steps a_wish a_mark a_bitsOf a_sizeOf a_number a_moved v_isKept v_taped v_at v_fault v_laid v_open v_s v_statuses v_pile v_bitsOf v_sizeOf v_number) sz) ((fun k : (Nat → Int32) × (Nat → Int32) × (Nat → Int32) => (wX5_read cI cJ cZ cS a_t a_s a_keptS a_statuses a_pile a_tape a_steps a_wish a_mark a_bitsOf a_sizeOf a_number a_moved v_isKept v_taped v_at v_fault v_laid v_open k.1 k.2.1 k.2.2 v_bitsOf v_sizeOf v_number)) kk')) 0 0 (va_A (wX5_read cI cJ cZ cS a_t a_s a_keptS a_statuses a_pile a_tape a_steps a_wish a_mark a_bitsOf a_sizeOf a_number a_moved v_isKept v_taped v_at v_fault v_laid v_open v_s v_statuses v_pile v_bitsOf v_sizeOf v_number) sz) := by
  refine q_enter (Qf := fun A => (q_Ri D rr A ((fun k : (Nat → Int32) × (Nat → Int32) × (Nat → Int32) => (wX5_read cI cJ cZ cS a_t a_s a_keptS a_statuses a_pile a_tape a_steps a_wish a_mark a_bitsOf a_sizeOf a_number a_moved v_isKept v_taped v_at v_fault v_laid v_open k.1 k.2.1 k.2.2 v_bitsOf v_sizeOf v_number)) kk'))) (by decide) rfl (Nat.le_of_ble_eq_true rfl) ?_
  intro p e s m below meth c A ls fx hname h hl
  have hx := fx.1
  have hb := fx.2.1
  have hl : lv_has ls 7 [(0, .ref a_t), (1, .int x1)] := hl
  generalize h9 : s.heap = H at h ⊢
  clear h9
  generalize h9 : ([] : List Loc) = locs at h ⊢
  clear h9
  unfold fX5_read at hf
  refine lv_aload_n hx hb dX5_read_0 rfl (lv_at hl 0 rfl) ?_
  refine lv_iload_n hx hb dX5_read_1 rfl (lv_at hl 1 rfl) ?_
  obtain ⟨r11, k11, hg, hf⟩ := bR_inv hf
  refine q_ci (rest := []) (ws' := (wX5_read cI cJ cZ cS a_t a_s a_keptS a_statuses a_pile a_tape a_steps a_wish a_mark a_bitsOf a_sizeOf a_number a_moved v_isKept v_taped v_at v_fault v_laid v_open v_s v_statuses v_pile v_bitsOf v_sizeOf v_number)) (w1 := (wX5_wrong cI cJ cZ cS a_t a_s a_keptS a_statuses a_pile a_tape a_steps a_wish a_mark a_bitsOf a_sizeOf a_number a_moved v_isKept v_taped v_at v_fault v_laid v_open v_bitsOf)) fx h [0, 4] rfl rfl rfl rfl (q_runV fx h hl.1 [0, 4] rfl rfl (tX5_wrong l D cI cJ cZ cS tb a_t a_s a_keptS a_statuses a_pile a_tape a_steps a_wish a_mark a_bitsOf a_sizeOf a_number a_moved H.size v_isKept v_taped v_at v_fault v_laid v_open v_bitsOf x1 r11 k11 hg) mvX5_wrong k_967 ⟨rfl, rfl⟩ ⟨Nat.le_of_ble_eq_true rfl, Nat.le_of_ble_eq_true rfl⟩ rfl rfl rfl rfl (Nat.le_of_ble_eq_true rfl) dX5_read_2 ⟨Nat.le_of_ble_eq_true rfl, Nat.le_of_ble_eq_true rfl⟩) (fun H locs h => ?_)
  refine lv_istore_n (lv' := [(2, .int r11), (0, .ref a_t), (1, .int x1)]) hx hb dX5_read_5 rfl hl (by decide) rfl (fun ls hl => ?_)
  refine lv_iload_n hx hb dX5_read_6 rfl (lv_at hl 0 rfl) ?_
  refine lv_if_eq (tgt := 16) hx hb dX5_read_7 (by decide) (fun c12 => ?_) (fun c12 => ?_)
  · have hf := it_t c12 hf
    refine lv_iconst (v := 0) hx hb dX5_read_16 (by decide) ?_
    refine lv_istore_n (lv' := [(3, .int 0), (2, .int r11), (0, .ref a_t), (1, .int x1)]) hx hb dX5_read_17 rfl hl (by decide) rfl (fun ls hl => ?_)
    refine lv_iconst (v := 0) hx hb dX5_read_18 (by decide) ?_
    refine lv_istore (lv' := [(4, .int 0), (3, .int 0), (2, .int r11), (0, .ref a_t), (1, .int x1)]) hx hb dX5_read_19 hl (by decide) rfl (fun ls hl => ?_)
    exact EX5_read_21 fx qF h (lv_sub hl [3, 4, 1, 0] rfl) hf
  have hf := it_f c12 hf
  refine lv_aload_n hx hb dX5_read_10 rfl (lv_at hl 1 rfl) ?_
  refine lv_iload_n hx hb dX5_read_11 rfl (lv_at hl 0 rfl) ?_
  obtain ⟨r13, k13, hg, hf⟩ := bR_inv hf
  refine q_ci (rest := []) (ws' := (wX5_read cI cJ cZ cS a_t a_s a_keptS a_statuses a_pile a_tape a_steps a_wish a_mark a_bitsOf a_sizeOf a_number a_moved v_isKept v_taped v_at v_fault v_laid v_open v_s k13 v_pile v_bitsOf v_sizeOf v_number)) (w1 := (wX5_finds cI cJ cZ cS a_t a_s a_keptS a_statuses a_pile a_tape a_steps a_wish a_mark a_bitsOf a_sizeOf a_number a_moved v_isKept v_taped v_at v_fault v_laid v_open k13)) fx h [0, 2] rfl rfl rfl rfl (q_runV fx h hl.1 [0, 2] rfl rfl (tX5_finds l D cI cJ cZ cS tb a_t a_s a_keptS a_statuses a_pile a_tape a_steps a_wish a_mark a_bitsOf a_sizeOf a_number a_moved H.size v_isKept v_taped v_at v_fault v_laid v_open v_statuses r11 r13 k13 hg) mvX5_finds k_702 ⟨rfl, rfl⟩ ⟨Nat.le_of_ble_eq_true rfl, Nat.le_of_ble_eq_true rfl⟩ rfl rfl rfl rfl (Nat.le_of_ble_eq_true rfl) dX5_read_12 ⟨Nat.le_of_ble_eq_true rfl, Nat.le_of_ble_eq_true rfl⟩) (fun H locs h => ?_)
  exact q_reti (fun k : (Nat → Int32) × (Nat → Int32) × (Nat → Int32) => (wX5_read cI cJ cZ cS a_t a_s a_keptS a_statuses a_pile a_tape a_steps a_wish a_mark a_bitsOf a_sizeOf a_number a_moved v_isKept v_taped v_at v_fault v_laid v_open k.1 k.2.1 k.2.2 v_bitsOf v_sizeOf v_number)) fx hf h dX5_read_15
/-! X5_image -/
abbrev wX5_image (cI cJ cZ cS : ClassId) (a_t a_s a_keptS a_statuses a_pile a_tape a_steps a_wish a_mark a_bitsOf a_sizeOf a_number a_moved : Nat) (v_isKept : Int32) (v_taped : Int32) (v_at : Int32) (v_fault : Int32) (v_laid : Int32) (v_open : Int32) (v_s : Nat → Int32) (v_keptS : Nat → Int32) : va_W := [(a_t, .inr (5, [.ref a_s, .ref a_keptS, .ref a_statuses, .int v_isKept, .ref a_pile, .ref a_tape, .ref a_steps, .int v_taped, .int v_at, .int v_fault, .int v_laid, .int v_open, .ref a_wish, .ref a_mark, .ref a_bitsOf, .ref a_sizeOf, .ref a_number, .ref a_moved])), (a_s, .inl (cI, 538, .inl v_s)), (a_keptS, .inl (cI, 538, .inl v_keptS))]
abbrev rX5_image : Room := { frames := 0, cells := 0, slots := 0, locals := 0 }
def fX5_image_2 (v_s : Nat → Int32) (ag2 : Int32 → (Nat → Int32) → Int32 → Option (Int32 × Int32 × (Nat → Int32))) (v_isKept : Int32) (v_keptS : Nat → Int32) (y1 : Int32) : Option (Int32 × Int32 × (Nat → Int32)) :=
  (if (538 : Int32) ≤ y1 then (
  some (1, (1, v_keptS)))
  else (
  gIn y1 538 (
  gIn y1 538 (
  nm (y1 + 1) (fun u4 =>
  ag2 v_isKept (upd v_keptS y1.toNatClampNeg (v_s y1.toNatClampNeg)) u4)))))
set_option maxRecDepth 100000 in
set_option maxHeartbeats 4000000 in
theorem LX5_image_2 {p : Program} {l : Launch} {e : Env} {s : State} {m : MethodId} {args : Array Value} {below : List Frame} {meth : Method} {c : Code} {D : va_G} {cI cJ cZ cS : ClassId} {tb : Nat} {A : Nat → Prop} {a_t a_s a_keptS a_statuses a_pile a_tape a_steps a_wish a_mark a_bitsOf a_sizeOf a_number a_moved : Nat} {v_taped : Int32} {v_at : Int32} {v_fault : Int32} {v_laid : Int32} {v_open : Int32} {v_s : Nat → Int32} {rr : Int32} {kk' : Int32 × (Nat → Int32)} (fx : q_Fx p s m args meth c cX5_image 2 RX5 (some .int) D cI cJ cZ cS tb A) {ag2 : Int32 → (Nat → Int32) → Int32 → Option (Int32 × Int32 × (Nat → Int32))} (hag2 : ∀ {v_isKept : Int32} {v_keptS : Nat → Int32} {y1 : Int32} {H : Heap} {locs : List Loc} {ls : Array Slot}, q_H D A s (wX5_image cI cJ cZ cS a_t a_s a_keptS a_statuses a_pile a_tape a_steps a_wish a_mark a_bitsOf a_sizeOf a_number a_moved v_isKept v_taped v_at v_fault v_laid v_open v_s v_keptS) H locs → lv_has ls 2 [(0, .ref a_t), (1, .int y1)] → ag2 v_isKept v_keptS y1 = some (rr, kk') → W p l e rX5_image s m args below meth c H locs 0 0 (MQ below (q_Ri D rr A ((fun k : Int32 × (Nat → Int32) => (wX5_image cI cJ cZ cS a_t a_s a_keptS a_statuses a_pile a_tape a_steps a_wish a_mark a_bitsOf a_sizeOf a_number a_moved k.1 v_taped v_at v_fault v_laid v_open v_s k.2)) kk')) args s 0 0 A) (F0 m 2 ls [])) : ∀ {v_isKept : Int32} {v_keptS : Nat → Int32} {y1 : Int32} {H : Heap} {locs : List Loc} {ls : Array Slot}, q_H D A s (wX5_image cI cJ cZ cS a_t a_s a_keptS a_statuses a_pile a_tape a_steps a_wish a_mark a_bitsOf a_sizeOf a_number a_moved v_isKept v_taped v_at v_fault v_laid v_open v_s v_keptS) H locs → lv_has ls 2 [(0, .ref a_t), (1, .int y1)] → fX5_image_2 v_s ag2 v_isKept v_keptS y1 = some (rr, kk') → W p l e rX5_image s m args below meth c H locs 0 0 (MQ below (q_Ri D rr A ((fun k : Int32 × (Nat → Int32) => (wX5_image cI cJ cZ cS a_t a_s a_keptS a_statuses a_pile a_tape a_steps a_wish a_mark a_bitsOf a_sizeOf a_number a_moved k.1 v_taped v_at v_fault v_laid v_open v_s k.2)) kk')) args s 0 0 A) (F0 m 2 ls []) := by
  intro v_isKept v_keptS y1 H locs ls h hl hf
  have hx := fx.1
  have hb := fx.2.1
  unfold fX5_image_2 at hf
  refine lv_iload_n hx hb dX5_image_2 rfl (lv_at hl 1 rfl) ?_
  refine lv_sipush (v := 538) hx hb dX5_image_3 (by decide) ?_
  refine lv_icmp_ge (tgt := 27) hx hb dX5_image_6 (by decide) (fun c1 => ?_) (fun c1 => ?_)
  · have hf := it_t c1 hf
    refine lv_aload_n hx hb dX5_image_27 rfl (lv_at hl 0 rfl) ?_
    refine lv_iconst (v := 1) hx hb dX5_image_28 (by decide) ?_
    refine q_put (v := .int 1) (ws' := (wX5_image cI cJ cZ cS a_t a_s a_keptS a_statuses a_pile a_tape a_steps a_wish a_mark a_bitsOf a_sizeOf a_number a_moved 1 v_taped v_at v_fault v_laid v_open v_s v_keptS)) fx inX5 tyX5 tyX5_ok nmX5 h 0 rfl rfl 3 (by decide) k_639 rfl rfl rfl (Nat.le_of_ble_eq_true rfl) rfl dX5_image_29 (fun H locs h => ?_)
    refine lv_iconst (v := 1) hx hb dX5_image_32 (by decide) ?_
    exact q_reti (fun k : Int32 × (Nat → Int32) => (wX5_image cI cJ cZ cS a_t a_s a_keptS a_statuses a_pile a_tape a_steps a_wish a_mark a_bitsOf a_sizeOf a_number a_moved k.1 v_taped v_at v_fault v_laid v_open v_s k.2)) fx hf h dX5_image_33
  have hf := it_f c1 hf
  refine lv_aload_n hx hb dX5_image_9 rfl (lv_at hl 0 rfl) ?_
  refine q_get (v := .ref a_keptS) fx inX5 h 0 rfl rfl 1 (by decide) k_637 rfl dX5_image_10 ?_
  refine lv_iload_n hx hb dX5_image_13 rfl (lv_at hl 1 rfl) ?_
  refine lv_aload_n hx hb dX5_image_14 rfl (lv_at hl 0 rfl) ?_
  refine q_get (v := .ref a_s) fx inX5 h 0 rfl rfl 0 (by decide) k_636 rfl dX5_image_15 ?_
  refine lv_iload_n hx hb dX5_image_18 rfl (lv_at hl 1 rfl) ?_
  obtain ⟨i2, hf⟩ := gIn_inv hf
  refine q_iald fx h 1 rfl i2 dX5_image_19 ?_
  obtain ⟨i3, hf⟩ := gIn_inv hf
  refine q_iast (ws' := (wX5_image cI cJ cZ cS a_t a_s a_keptS a_statuses a_pile a_tape a_steps a_wish a_mark a_bitsOf a_sizeOf a_number a_moved v_isKept v_taped v_at v_fault v_laid v_open v_s (upd v_keptS y1.toNatClampNeg (v_s y1.toNatClampNeg)))) fx h 2 rfl i3 rfl dX5_image_20 (fun H locs h => ?_)
  obtain ⟨u4, eu4, hf⟩ := nm_inv hf
  refine lv_iinc (v := u4) (lv' := [(1, .int u4), (0, .ref a_t)]) hx hb dX5_image_21 hl (k := 1) rfl (by rw [eu4]; rfl) (by decide) rfl (fun ls hl => ?_)
  refine lv_goto (tgt := 2) hx hb dX5_image_24 (by decide) ?_
  exact hag2 h (lv_sub hl [1, 0] rfl) hf
set_option maxRecDepth 100000 in
theorem EX5_image_2 {p : Program} {l : Launch} {e : Env} {s : State} {m : MethodId} {args : Array Value} {below : List Frame} {meth : Method} {c : Code} {D : va_G} {cI cJ cZ cS : ClassId} {tb : Nat} {A : Nat → Prop} {a_t a_s a_keptS a_statuses a_pile a_tape a_steps a_wish a_mark a_bitsOf a_sizeOf a_number a_moved : Nat} {v_taped : Int32} {v_at : Int32} {v_fault : Int32} {v_laid : Int32} {v_open : Int32} {v_s : Nat → Int32} {rr : Int32} {kk' : Int32 × (Nat → Int32)} (fx : q_Fx p s m args meth c cX5_image 2 RX5 (some .int) D cI cJ cZ cS tb A) : ∀ (n : Nat), ∀ {v_isKept : Int32} {v_keptS : Nat → Int32} {y1 : Int32} {H : Heap} {locs : List Loc} {ls : Array Slot}, q_H D A s (wX5_image cI cJ cZ cS a_t a_s a_keptS a_statuses a_pile a_tape a_steps a_wish a_mark a_bitsOf a_sizeOf a_number a_moved v_isKept v_taped v_at v_fault v_laid v_open v_s v_keptS) H locs → lv_has ls 2 [(0, .ref a_t), (1, .int y1)] → ll3 (fX5_image_2 v_s) n v_isKept v_keptS y1 = some (rr, kk') → W p l e rX5_image s m args below meth c H locs 0 0 (MQ below (q_Ri D rr A ((fun k : Int32 × (Nat → Int32) => (wX5_image cI cJ cZ cS a_t a_s a_keptS a_statuses a_pile a_tape a_steps a_wish a_mark a_bitsOf a_sizeOf a_number a_moved k.1 v_taped v_at v_fault v_laid v_open v_s k.2)) kk')) args s 0 0 A) (F0 m 2 ls []) := by
  intro n
  induction n with
  | zero => intro v_isKept v_keptS y1 H locs ls h hl hf; exact (ll3_z hf).elim
  | succ n ih => intro v_isKept v_keptS y1 H locs ls h hl hf; exact LX5_image_2 fx ih h hl (ll3_s hf)
def fX5_image (v_isKept : Int32) (v_s : Nat → Int32) (v_keptS : Nat → Int32) : Option (Int32 × Int32 × (Nat → Int32)) :=
  ll3 (fX5_image_2 v_s) qF v_isKept v_keptS 0
set_option maxRecDepth 100000 in
set_option maxHeartbeats 4000000 in
theorem tX5_image (l : Launch) (D : va_G) (cI cJ cZ cS : ClassId) (tb : Nat) (a_t a_s a_keptS a_statuses a_pile a_tape a_steps a_wish a_mark a_bitsOf a_sizeOf a_number a_moved : Nat) (sz : Nat) (v_isKept : Int32) (v_taped : Int32) (v_at : Int32) (v_fault : Int32) (v_laid : Int32) (v_open : Int32) (v_s : Nat → Int32) (v_keptS : Nat → Int32) (rr : Int32) (kk' : Int32 × (Nat → Int32)) (hf : fX5_image v_isKept v_s v_keptS = some (rr, kk')) : Met l yX5_image (Cond.code yX5_image cX5_image 2 (some .int) :: wA) rX5_image (q_Pre D cI cJ cZ cS tb [.ref a_t] sz (wX5_image cI cJ cZ cS a_t a_s a_keptS a_statuses a_pile a_tape a_steps a_wish a_mark a_bitsOf a_sizeOf a_number a_moved v_isKept v_taped v_at v_fault v_laid v_open v_s v_keptS)) (q_Ri D rr (va_A (wX5_image cI cJ cZ cS a_t a_s a_keptS a_statuses a_pile a_tape a_steps a_wish a_mark a_bitsOf a_sizeOf a_number a_moved v_isKept v_taped v_at v_fault v_laid v_open v_s v_keptS) sz) ((fun k : Int32 × (Nat → Int32) => (wX5_image cI cJ cZ cS a_t a_s a_keptS a_statuses a_pile a_tape a_steps a_wish a_mark a_bitsOf a_sizeOf a_number a_moved k.1 v_taped v_at v_fault v_laid v_open v_s k.2)) kk')) 0 0 (va_A (wX5_image cI cJ cZ cS a_t a_s a_keptS a_statuses a_pile a_tape a_steps a_wish a_mark a_bitsOf a_sizeOf a_number a_moved v_isKept v_taped v_at v_fault v_laid v_open v_s v_keptS) sz) := by
  refine q_enter (Qf := fun A => (q_Ri D rr A ((fun k : Int32 × (Nat → Int32) => (wX5_image cI cJ cZ cS a_t a_s a_keptS a_statuses a_pile a_tape a_steps a_wish a_mark a_bitsOf a_sizeOf a_number a_moved k.1 v_taped v_at v_fault v_laid v_open v_s k.2)) kk'))) (by decide) rfl (Nat.le_of_ble_eq_true rfl) ?_
  intro p e s m below meth c A ls fx hname h hl
  have hx := fx.1
  have hb := fx.2.1
  have hl : lv_has ls 2 [(0, .ref a_t)] := hl
  generalize h9 : s.heap = H at h ⊢
  clear h9
  generalize h9 : ([] : List Loc) = locs at h ⊢
  clear h9
  unfold fX5_image at hf
  refine lv_iconst (v := 0) hx hb dX5_image_0 (by decide) ?_
  refine lv_istore_n (lv' := [(1, .int 0), (0, .ref a_t)]) hx hb dX5_image_1 rfl hl (by decide) rfl (fun ls hl => ?_)
  exact EX5_image_2 fx qF h (lv_sub hl [1, 0] rfl) hf
