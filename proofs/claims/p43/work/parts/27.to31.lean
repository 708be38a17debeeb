section
/-! X5_lists -/
abbrev wX5_lists (cI cJ cZ cS : ClassId) (a_t a_s a_keptS a_statuses a_pile a_tape a_steps a_wish a_mark a_bitsOf a_sizeOf a_number a_moved : Nat) (v_isKept : Int32) (v_taped : Int32) (v_at : Int32) (v_fault : Int32) (v_laid : Int32) (v_open : Int32) (v_s : Nat → Int32) : va_W := [(a_t, .inr (5, [.ref a_s, .ref a_keptS, .ref a_statuses, .int v_isKept, .ref a_pile, .ref a_tape, .ref a_steps, .int v_taped, .int v_at, .int v_fault, .int v_laid, .int v_open, .ref a_wish, .ref a_mark, .ref a_bitsOf, .ref a_sizeOf, .ref a_number, .ref a_moved])), (a_s, .inl (cI, 538, .inl v_s))]
abbrev rX5_lists : Room := { frames := 0, cells := 0, slots := 0, locals := 0 }
def fX5_lists (v_s : Nat → Int32) : Option (Int32 × Unit) :=
  some (jshl 1 (v_s 0), ())
set_option maxRecDepth 100000 in
set_option maxHeartbeats 4000000 in
theorem tX5_lists (l : Launch) (D : va_G) (cI cJ cZ cS : ClassId) (tb : Nat) (a_t a_s a_keptS a_statuses a_pile a_tape a_steps a_wish a_mark a_bitsOf a_sizeOf a_number a_moved : Nat) (sz : Nat) (v_isKept : Int32) (v_taped : Int32) (v_at : Int32) (v_fault : Int32) (v_laid : Int32) (v_open : Int32) (v_s : Nat → Int32) (rr : Int32) (kk' : Unit) (hf : fX5_lists v_s = some (rr, kk')) : Met l yX5_lists (Cond.code yX5_lists cX5_lists 1 (some .int) :: wA) rX5_lists (q_Pre D cI cJ cZ cS tb [.ref a_t] sz (wX5_lists cI cJ cZ cS a_t a_s a_keptS a_statuses a_pile a_tape a_steps a_wish a_mark a_bitsOf a_sizeOf a_number a_moved v_isKept v_taped v_at v_fault v_laid v_open v_s)) (q_Ri D rr (va_A (wX5_lists cI cJ cZ cS a_t a_s a_keptS a_statuses a_pile a_tape a_steps a_wish a_mark a_bitsOf a_sizeOf a_number a_moved v_isKept v_taped v_at v_fault v_laid v_open v_s) sz) ((fun k : Unit => (wX5_lists cI cJ cZ cS a_t a_s a_keptS a_statuses a_pile a_tape a_steps a_wish a_mark a_bitsOf a_sizeOf a_number a_moved v_isKept v_taped v_at v_fault v_laid v_open v_s)) kk')) 0 0 (va_A (wX5_lists cI cJ cZ cS a_t a_s a_keptS a_statuses a_pile a_tape a_steps a_wish a_mark a_bitsOf a_sizeOf a_number a_moved v_isKept v_taped v_at v_fault v_laid v_open v_s) sz) := by
  refine q_enter (Qf := fun A => (q_Ri D rr A ((fun k : Unit => (wX5_lists cI cJ cZ cS a_t a_s a_keptS a_statuses a_pile a_tape a_steps a_wish a_mark a_bitsOf a_sizeOf a_number a_moved v_isKept v_taped v_at v_fault v_laid v_open v_s)) kk'))) (by decide) rfl (Nat.le_of_ble_eq_true rfl) ?_
  intro p e s m below meth c A ls fx hname h hl
  have hx := fx.1
  have hb := fx.2.1
  have hl : lv_has ls 1 [(0, .ref a_t)] := hl
  generalize h9 : s.heap = H at h ⊢
  clear h9
  generalize h9 : ([] : List Loc) = locs at h ⊢
  clear h9
  unfold fX5_lists at hf
  refine lv_iconst (v := 1) hx hb dX5_lists_0 (by decide) ?_
  refine lv_aload_n hx hb dX5_lists_1 rfl (lv_at hl 0 rfl) ?_
  refine q_get (v := .ref a_s) fx inX5 h 0 rfl rfl 0 (by decide) k_636 rfl dX5_lists_2 ?_
  refine lv_iconst (v := 0) hx hb dX5_lists_5 (by decide) ?_
  refine q_ialdK fx h 1 rfl 0 (vinK (by decide)) (by decide) dX5_lists_6 ?_
  refine lv_ishl hx hb dX5_lists_7 ?_
  exact q_reti (fun k : Unit => (wX5_lists cI cJ cZ cS a_t a_s a_keptS a_statuses a_pile a_tape a_steps a_wish a_mark a_bitsOf a_sizeOf a_number a_moved v_isKept v_taped v_at v_fault v_laid v_open v_s)) fx hf h dX5_lists_8
/-! X5_isList -/
abbrev wX5_isList (cI cJ cZ cS : ClassId) (a_t a_s a_keptS a_statuses a_pile a_tape a_steps a_wish a_mark a_bitsOf a_sizeOf a_number a_moved : Nat) (v_isKept : Int32) (v_taped : Int32) (v_at : Int32) (v_fault : Int32) (v_laid : Int32) (v_open : Int32) (v_s : Nat → Int32) : va_W := [(a_t, .inr (5, [.ref a_s, .ref a_keptS, .ref a_statuses, .int v_isKept, .ref a_pile, .ref a_tape, .ref a_steps, .int v_taped, .int v_at, .int v_fault, .int v_laid, .int v_open, .ref a_wish, .ref a_mark, .ref a_bitsOf, .ref a_sizeOf, .ref a_number, .ref a_moved])), (a_s, .inl (cI, 538, .inl v_s))]
abbrev rX5_isList : Room := { frames := 1, cells := 0, slots := 0, locals := 25 }
def fX5_isList (v_s : Nat → Int32) (x1 : Int64) : Option (Int32 × Unit) :=
  bR (fX5_lists v_s) (fun r1 k1 =>
  bR (fX5_in x1 0 ((r1 - 1).toInt64)) (fun r2 k2 =>
  gB r2 (some (r2, ()))))
set_option maxRecDepth 100000 in
set_option maxHeartbeats 4000000 in
theorem tX5_isList (l : Launch) (D : va_G) (cI cJ cZ cS : ClassId) (tb : Nat) (a_t a_s a_keptS a_statuses a_pile a_tape a_steps a_wish a_mark a_bitsOf a_sizeOf a_number a_moved : Nat) (sz : Nat) (v_isKept : Int32) (v_taped : Int32) (v_at : Int32) (v_fault : Int32) (v_laid : Int32) (v_open : Int32) (v_s : Nat → Int32) (x1 : Int64) (rr : Int32) (kk' : Unit) (hf : fX5_isList v_s x1 = some (rr, kk')) : Met l yX5_isList (Cond.code yX5_isList cX5_isList 3 (some .boolean) :: wA) rX5_isList (q_Pre D cI cJ cZ cS tb [.ref a_t, .long x1] sz (wX5_isList cI cJ cZ cS a_t a_s a_keptS a_statuses a_pile a_tape a_steps a_wish a_mark a_bitsOf a_sizeOf a_number a_moved v_isKept v_taped v_at v_fault v_laid v_open v_s)) (q_Ri D rr (va_A (wX5_isList cI cJ cZ cS a_t a_s a_keptS a_statuses a_pile a_tape a_steps a_wish a_mark a_bitsOf a_sizeOf a_number a_moved v_isKept v_taped v_at v_fault v_laid v_open v_s) sz) ((fun k : Unit => (wX5_isList cI cJ cZ cS a_t a_s a_keptS a_statuses a_pile a_tape a_steps a_wish a_mark a_bitsOf a_sizeOf a_number a_moved v_isKept v_taped v_at v_fault v_laid v_open v_s)) kk')) 0 0 (va_A (wX5_isList cI cJ cZ cS a_t a_s a_keptS a_statuses a_pile a_tape a_steps a_wish a_mark a_bitsOf a_sizeOf a_number a_moved v_isKept v_taped v_at v_fault v_laid v_open v_s) sz) := by
  refine q_enter (Qf := fun A => (q_Ri D rr A ((fun k : Unit => (wX5_isList cI cJ cZ cS a_t a_s a_keptS a_statuses a_pile a_tape a_steps a_wish a_mark a_bitsOf a_sizeOf a_number a_moved v_isKept v_taped v_at v_fault v_laid v_open v_s)) kk'))) (by decide) rfl (Nat.le_of_ble_eq_true rfl) ?_
  intro p e s m below meth c A ls fx hname h hl
  have hx := fx.1
  have hb := fx.2.1
  have hl : lv_has ls 3 [(0, .ref a_t), (1, .long x1)] := hl
  generalize h9 : s.heap = H at h ⊢
  clear h9
  generalize h9 : ([] : List Loc) = locs at h ⊢
  clear h9
  unfold fX5_isList at hf
  refine lv_lload_n hx hb dX5_isList_0 rfl (lv_at hl 1 rfl) ?_
  refine lv_lconst (v := 0) hx hb dX5_isList_1 (by decide) ?_
  refine lv_aload_n hx hb dX5_isList_2 rfl (lv_at hl 0 rfl) ?_
  obtain ⟨r1, k1, hg, hf⟩ := bR_inv hf
  refine q_ci (rest := [.long 0, .long x1]) (ws' := (wX5_isList cI cJ cZ cS a_t a_s a_keptS a_statuses a_pile a_tape a_steps a_wish a_mark a_bitsOf a_sizeOf a_number a_moved v_isKept v_taped v_at v_fault v_laid v_open v_s)) (w1 := (wX5_lists cI cJ cZ cS a_t a_s a_keptS a_statuses a_pile a_tape a_steps a_wish a_mark a_bitsOf a_sizeOf a_number a_moved v_isKept v_taped v_at v_fault v_laid v_open v_s)) fx h [0, 1] rfl rfl rfl rfl (q_runV fx h hl.1 [0, 1] rfl rfl (tX5_lists l D cI cJ cZ cS tb a_t a_s a_keptS a_statuses a_pile a_tape a_steps a_wish a_mark a_bitsOf a_sizeOf a_number a_moved H.size v_isKept v_taped v_at v_fault v_laid v_open v_s r1 k1 hg) mvX5_lists k_810 ⟨rfl, rfl⟩ ⟨Nat.le_of_ble_eq_true rfl, Nat.le_of_ble_eq_true rfl⟩ rfl rfl rfl rfl (Nat.le_of_ble_eq_true rfl) dX5_isList_3 ⟨Nat.le_of_ble_eq_true rfl, Nat.le_of_ble_eq_true rfl⟩) (fun H locs h => ?_)
  refine lv_iconst (v := 1) hx hb dX5_isList_6 (by decide) ?_
  refine lv_isub hx hb dX5_isList_7 ?_
  refine lv_i2l hx hb dX5_isList_8 rfl ?_
  obtain ⟨r2, k2, hg, hf⟩ := bR_inv hf
  refine q_ci (rest := []) (ws' := (wX5_isList cI cJ cZ cS a_t a_s a_keptS a_statuses a_pile a_tape a_steps a_wish a_mark a_bitsOf a_sizeOf a_number a_moved v_isKept v_taped v_at v_fault v_laid v_open v_s)) (w1 := (wX5_in cI cJ cZ cS)) fx h [] rfl rfl rfl rfl (q_runS fx h hl.1 [] rfl rfl (tX5_in l D cI cJ cZ cS tb H.size x1 0 ((r1 - 1).toInt64) r2 k2 hg) msX5_in k_697 ⟨rfl, rfl⟩ ⟨Nat.le_of_ble_eq_true rfl, Nat.le_of_ble_eq_true rfl⟩ rfl rfl (Nat.le_of_ble_eq_true rfl) dX5_isList_9 ⟨Nat.le_of_ble_eq_true rfl, Nat.le_of_ble_eq_true rfl⟩) (fun H locs h => ?_)
  obtain ⟨b3, hf⟩ := gB_inv hf
  exact q_retz (fun k : Unit => (wX5_isList cI cJ cZ cS a_t a_s a_keptS a_statuses a_pile a_tape a_steps a_wish a_mark a_bitsOf a_sizeOf a_number a_moved v_isKept v_taped v_at v_fault v_laid v_open v_s)) fx b3 hf h dX5_isList_12
/-! X5_guest -/
abbrev wX5_guest (cI cJ cZ cS : ClassId) (a_t a_s a_keptS a_statuses a_pile a_tape a_steps a_wish a_mark a_bitsOf a_sizeOf a_number a_moved : Nat) (v_isKept : Int32) (v_taped : Int32) (v_at : Int32) (v_fault : Int32) (v_laid : Int32) (v_open : Int32) (v_s : Nat → Int32) (v_statuses : Nat → Int32) : va_W := [(a_t, .inr (5, [.ref a_s, .ref a_keptS, .ref a_statuses, .int v_isKept, .ref a_pile, .ref a_tape, .ref a_steps, .int v_taped, .int v_at, .int v_fault, .int v_laid, .int v_open, .ref a_wish, .ref a_mark, .ref a_bitsOf, .ref a_sizeOf, .ref a_number, .ref a_moved])), (a_s, .inl (cI, 538, .inl v_s)), (a_statuses, .inl (cI, 7, .inl v_statuses))]
abbrev rX5_guest : Room := { frames := 1, cells := 0, slots := 0, locals := 25 }
def fX5_guest_24 (v_s : Nat → Int32) (v_statuses : Nat → Int32) : Option (Int32 × (Nat → Int32) × (Nat → Int32)) :=
  bR (fX5_finds v_statuses (-1000000001)) (fun r1 k1 =>
  some (r1, (v_s, k1)))
set_option maxRecDepth 100000 in
set_option maxHeartbeats 4000000 in
theorem LX5_guest_24 {p : Program} {l : Launch} {e : Env} {s : State} {m : MethodId} {args : Array Value} {below : List Frame} {meth : Method} {c : Code} {D : va_G} {cI cJ cZ cS : ClassId} {tb : Nat} {A : Nat → Prop} {a_t a_s a_keptS a_statuses a_pile a_tape a_steps a_wish a_mark a_bitsOf a_sizeOf a_number a_moved : Nat} {v_isKept : Int32} {v_taped : Int32} {v_at : Int32} {v_fault : Int32} {v_laid : Int32} {v_open : Int32} {rr : Int32} {kk' : (Nat → Int32) × (Nat → Int32)} (fx : q_Fx p s m args meth c cX5_guest 4 RX5 (some .int) D cI cJ cZ cS tb A) : ∀ {v_s : Nat → Int32} {v_statuses : Nat → Int32} {H : Heap} {locs : List Loc} {ls : Array Slot}, q_H D A s (wX5_guest cI cJ cZ cS a_t a_s a_keptS a_statuses a_pile a_tape a_steps a_wish a_mark a_bitsOf a_sizeOf a_number a_moved v_isKept v_taped v_at v_fault v_laid v_open v_s v_statuses) H locs → lv_has ls 4 [(0, .ref a_t)] → fX5_guest_24 v_s v_statuses = some (rr, kk') → W p l e rX5_guest s m args below meth c H locs 0 0 (MQ below (q_Ri D rr A ((fun k : (Nat → Int32) × (Nat → Int32) => (wX5_guest cI cJ cZ cS a_t a_s a_keptS a_statuses a_pile a_tape a_steps a_wish a_mark a_bitsOf a_sizeOf a_number a_moved v_isKept v_taped v_at v_fault v_laid v_open k.1 k.2)) kk')) args s 0 0 A) (F0 m 24 ls []) := by
  intro v_s v_statuses H locs ls h hl hf
  have hx := fx.1
  have hb := fx.2.1
  unfold fX5_guest_24 at hf
  refine lv_aload_n hx hb dX5_guest_24 rfl (lv_at hl 0 rfl) ?_
  refine q_ldc fx k_701 dX5_guest_25 ?_
  obtain ⟨r1, k1, hg, hf⟩ := bR_inv hf
  refine q_ci (rest := []) (ws' := (wX5_guest cI cJ cZ cS a_t a_s a_keptS a_statuses a_pile a_tape a_steps a_wish a_mark a_bitsOf a_sizeOf a_number a_moved v_isKept v_taped v_at v_fault v_laid v_open v_s k1)) (w1 := (wX5_finds cI cJ cZ cS a_t a_s a_keptS a_statuses a_pile a_tape a_steps a_wish a_mark a_bitsOf a_sizeOf a_number a_moved v_isKept v_taped v_at v_fault v_laid v_open k1)) fx h [0, 2] rfl rfl rfl rfl (q_runV fx h hl.1 [0, 2] rfl rfl (tX5_finds l D cI cJ cZ cS tb a_t a_s a_keptS a_statuses a_pile a_tape a_steps a_wish a_mark a_bitsOf a_sizeOf a_number a_moved H.size v_isKept v_taped v_at v_fault v_laid v_open v_statuses (-1000000001) r1 k1 hg) mvX5_finds k_702 ⟨rfl, rfl⟩ ⟨Nat.le_of_ble_eq_true rfl, Nat.le_of_ble_eq_true rfl⟩ rfl rfl rfl rfl (Nat.le_of_ble_eq_true rfl) dX5_guest_27 ⟨Nat.le_of_ble_eq_true rfl, Nat.le_of_ble_eq_true rfl⟩) (fun H locs h => ?_)
  exact q_reti (fun k : (Nat → Int32) × (Nat → Int32) => (wX5_guest cI cJ cZ cS a_t a_s a_keptS a_statuses a_pile a_tape a_steps a_wish a_mark a_bitsOf a_sizeOf a_number a_moved v_isKept v_taped v_at v_fault v_laid v_open k.1 k.2)) fx hf h dX5_guest_30
def fX5_guest (v_s : Nat → Int32) (v_statuses : Nat → Int32) (x1 : Int32) (x2 : Int32) : Option (Int32 × (Nat → Int32) × (Nat → Int32)) :=
  bR (fX5_in (x1.toInt64) 0 5) (fun r2 k2 =>
  (if r2 = 0 then (
  fX5_guest_24  v_s v_statuses)
  else (
  bR (fX5_in (x2.toInt64) 0 99) (fun r4 k4 =>
  (if r4 = 0 then (
  fX5_guest_24  v_s v_statuses)
  else (
  (if (v_s 0) = 8 then (
  bR (fX5_finds v_statuses (-1000000002)) (fun r11 k11 =>
  some (r11, (v_s, k11))))
  else (
  nm (2 + (3 * (v_s 0))) (fun u7 =>
  gIn u7 538 (
  gIn (u7 + 1) 538 (
  gIn (u7 + 2) 538 (
  some (((upd (upd (upd (upd v_s u7.toNatClampNeg x1) (u7 + 1).toNatClampNeg x2) (u7 + 2).toNatClampNeg 0) 0 (((upd (upd (upd v_s u7.toNatClampNeg x1) (u7 + 1).toNatClampNeg x2) (u7 + 2).toNatClampNeg 0) 0) + 1)) 0) - 1, ((upd (upd (upd (upd v_s u7.toNatClampNeg x1) (u7 + 1).toNatClampNeg x2) (u7 + 2).toNatClampNeg 0) 0 (((upd (upd (upd v_s u7.toNatClampNeg x1) (u7 + 1).toNatClampNeg x2) (u7 + 2).toNatClampNeg 0) 0) + 1)), v_statuses))))))))))))))
set_option maxRecDepth 100000 in
set_option maxHeartbeats 4000000 in
theorem tX5_guest (l : Launch) (D : va_G) (cI cJ cZ cS : ClassId) (tb : Nat) (a_t a_s a_keptS a_statuses a_pile a_tape a_steps a_wish a_mark a_bitsOf a_sizeOf a_number a_moved : Nat) (sz : Nat) (v_isKept : Int32) (v_taped : Int32) (v_at : Int32) (v_fault : Int32) (v_laid : Int32) (v_open : Int32) (v_s : Nat → Int32) (v_statuses : Nat → Int32) (x1 : Int32) (x2 : Int32) (rr : Int32) (kk' : (Nat → Int32) × (Nat → Int32)) (hf : fX5_guest v_s v_statuses x1 x2 = some (rr, kk')) : Met l yX5_guest (Cond.code yX5_guest cX5_guest 4 (some .int) :: wA) rX5_guest (q_Pre D cI cJ cZ cS tb [.ref a_t, .int x1, .int x2] sz (wX5_guest cI cJ cZ cS a_t a_s a_keptS a_statuses a_pile a_tape a_steps a_wish a_mark a_bitsOf a_sizeOf a_number a_moved v_isKept v_taped v_at v_fault v_laid v_open v_s v_statuses)) (q_Ri D rr (va_A (wX5_guest cI cJ cZ cS a_t a_s a_keptS a_statuses a_pile a_tape a_steps a_wish a_mark a_bitsOf a_sizeOf a_number a_moved v_isKept v_taped v_at v_fault v_laid v_open v_s v_statuses) sz) ((fun k : (Nat → Int32) × (Nat → Int32) => (wX5_guest cI cJ cZ cS a_t a_s a_keptS a_statuses a_pile a_tape a_steps a_wish a_mark a_bitsOf a_sizeOf a_number a_moved v_isKept v_taped v_at v_fault v_laid v_open k.1 k.2)) kk')) 0 0 (va_A (wX5_guest cI cJ cZ cS a_t a_s a_keptS a_statuses a_pile a_tape a_steps a_wish a_mark a_bitsOf a_sizeOf a_number a_moved v_isKept v_taped v_at v_fault v_laid v_open v_s v_statuses) sz) := by
  refine q_enter (Qf := fun A => (q_Ri D rr A ((fun k : (Nat → Int32) × (Nat → Int32) => (wX5_guest cI cJ cZ cS a_t a_s a_keptS a_statuses a_pile a_tape a_steps a_wish a_mark a_bitsOf a_sizeOf a_number a_moved v_isKept v_taped v_at v_fault v_laid v_open k.1 k.2)) kk'))) (by decide) rfl (Nat.le_of_ble_eq_true rfl) ?_
  intro p e s m below meth c A ls fx hname h hl
  have hx := fx.1
  have hb := fx.2.1
  have hl : lv_has ls 4 [(0, .ref a_t), (1, .int x1), (2, .int x2)] := hl
  generalize h9 : s.heap = H at h ⊢
  clear h9
  generalize h9 : ([] : List Loc) = locs at h ⊢
  clear h9
  unfold fX5_guest at hf
  refine lv_iload_n hx hb dX5_guest_0 rfl (lv_at hl 1 rfl) ?_
  refine lv_i2l hx hb dX5_guest_1 rfl ?_
  refine lv_lconst (v := 0) hx hb dX5_guest_2 (by decide) ?_
  refine q_ldc2 fx k_696 dX5_guest_3 ?_
  obtain ⟨r2, k2, hg, hf⟩ := bR_inv hf
  refine q_ci (rest := []) (ws' := (wX5_guest cI cJ cZ cS a_t a_s a_keptS a_statuses a_pile a_tape a_steps a_wish a_mark a_bitsOf a_sizeOf a_number a_moved v_isKept v_taped v_at v_fault v_laid v_open v_s v_statuses)) (w1 := (wX5_in cI cJ cZ cS)) fx h [] rfl rfl rfl rfl (q_runS fx h hl.1 [] rfl rfl (tX5_in l D cI cJ cZ cS tb H.size (x1.toInt64) 0 5 r2 k2 hg) msX5_in k_697 ⟨rfl, rfl⟩ ⟨Nat.le_of_ble_eq_true rfl, Nat.le_of_ble_eq_true rfl⟩ rfl rfl (Nat.le_of_ble_eq_true rfl) dX5_guest_6 ⟨Nat.le_of_ble_eq_true rfl, Nat.le_of_ble_eq_true rfl⟩) (fun H locs h => ?_)
  refine lv_if_eq (tgt := 24) hx hb dX5_guest_9 (by decide) (fun c3 => ?_) (fun c3 => ?_)
  · have hf := it_t c3 hf
    exact LX5_guest_24 fx h (lv_sub hl [0] rfl) hf
  have hf := it_f c3 hf
  refine lv_iload_n hx hb dX5_guest_12 rfl (lv_at hl 2 rfl) ?_
  refine lv_i2l hx hb dX5_guest_13 rfl ?_
  refine lv_lconst (v := 0) hx hb dX5_guest_14 (by decide) ?_
  refine q_ldc2 fx k_700 dX5_guest_15 ?_
  obtain ⟨r4, k4, hg, hf⟩ := bR_inv hf
  refine q_ci (rest := []) (ws' := (wX5_guest cI cJ cZ cS a_t a_s a_keptS a_statuses a_pile a_tape a_steps a_wish a_mark a_bitsOf a_sizeOf a_number a_moved v_isKept v_taped v_at v_fault v_laid v_open v_s v_statuses)) (w1 := (wX5_in cI cJ cZ cS)) fx h [] rfl rfl rfl rfl (q_runS fx h hl.1 [] rfl rfl (tX5_in l D cI cJ cZ cS tb H.size (x2.toInt64) 0 99 r4 k4 hg) msX5_in k_697 ⟨rfl, rfl⟩ ⟨Nat.le_of_ble_eq_true rfl, Nat.le_of_ble_eq_true rfl⟩ rfl rfl (Nat.le_of_ble_eq_true rfl) dX5_guest_18 ⟨Nat.le_of_ble_eq_true rfl, Nat.le_of_ble_eq_true rfl⟩) (fun H locs h => ?_)
  refine lv_if_ne (tgt := 31) hx hb dX5_guest_21 (by decide) (fun c5 => ?_) (fun c5 => ?_)
  · have hf := it_f c5 hf
    refine lv_aload_n hx hb dX5_guest_31 rfl (lv_at hl 0 rfl) ?_
    refine q_get (v := .ref a_s) fx inX5 h 0 rfl rfl 0 (by decide) k_636 rfl dX5_guest_32 ?_
    refine lv_iconst (v := 0) hx hb dX5_guest_35 (by decide) ?_
    refine q_ialdK fx h 1 rfl 0 (vinK (by decide)) (by decide) dX5_guest_36 ?_
    refine lv_bipush (v := 8) hx hb dX5_guest_37 (by decide) ?_
    refine lv_icmp_ne (tgt := 49) hx hb dX5_guest_39 (by decide) (fun c6 => ?_) (fun c6 => ?_)
    · have hf := it_f c6 hf
      refine lv_iconst (v := 2) hx hb dX5_guest_49 (by decide) ?_
      refine lv_iconst (v := 3) hx hb dX5_guest_50 (by decide) ?_
      refine lv_aload_n hx hb dX5_guest_51 rfl (lv_at hl 0 rfl) ?_
      refine q_get (v := .ref a_s) fx inX5 h 0 rfl rfl 0 (by decide) k_636 rfl dX5_guest_52 ?_
      refine lv_iconst (v := 0) hx hb dX5_guest_55 (by decide) ?_
      refine q_ialdK fx h 1 rfl 0 (vinK (by decide)) (by decide) dX5_guest_56 ?_
      refine lv_imul hx hb dX5_guest_57 ?_
      refine lv_iadd hx hb dX5_guest_58 ?_
      obtain ⟨u7, eu7, hf⟩ := nm_inv hf
      refine lv_eqi eu7 ?_
      refine lv_istore_n (lv' := [(3, .int u7), (0, .ref a_t), (1, .int x1), (2, .int x2)]) hx hb dX5_guest_59 rfl hl (by decide) rfl (fun ls hl => ?_)
      refine lv_aload_n hx hb dX5_guest_60 rfl (lv_at hl 1 rfl) ?_
      refine q_get (v := .ref a_s) fx inX5 h 0 rfl rfl 0 (by decide) k_636 rfl dX5_guest_61 ?_
      refine lv_iload_n hx hb dX5_guest_64 rfl (lv_at hl 0 rfl) ?_
      refine lv_iload_n hx hb dX5_guest_65 rfl (lv_at hl 2 rfl) ?_
      obtain ⟨i8, hf⟩ := gIn_inv hf
      refine q_iast (ws' := (wX5_guest cI cJ cZ cS a_t a_s a_keptS a_statuses a_pile a_tape a_steps a_wish a_mark a_bitsOf a_sizeOf a_number a_moved v_isKept v_taped v_at v_fault v_laid v_open (upd v_s u7.toNatClampNeg x1) v_statuses)) fx h 1 rfl i8 rfl dX5_guest_66 (fun H locs h => ?_)
      refine lv_aload_n hx hb dX5_guest_67 rfl (lv_at hl 1 rfl) ?_
      refine q_get (v := .ref a_s) fx inX5 h 0 rfl rfl 0 (by decide) k_636 rfl dX5_guest_68 ?_
      refine lv_iload_n hx hb dX5_guest_71 rfl (lv_at hl 0 rfl) ?_
      refine lv_iconst (v := 1) hx hb dX5_guest_72 (by decide) ?_
      refine lv_iadd hx hb dX5_guest_73 ?_
      refine lv_iload_n hx hb dX5_guest_74 rfl (lv_at hl 3 rfl) ?_
      obtain ⟨i9, hf⟩ := gIn_inv hf
      refine q_iast (ws' := (wX5_guest cI cJ cZ cS a_t a_s a_keptS a_statuses a_pile a_tape a_steps a_wish a_mark a_bitsOf a_sizeOf a_number a_moved v_isKept v_taped v_at v_fault v_laid v_open (upd (upd v_s u7.toNatClampNeg x1) (u7 + 1).toNatClampNeg x2) v_statuses)) fx h 1 rfl i9 rfl dX5_guest_75 (fun H locs h => ?_)
      refine lv_aload_n hx hb dX5_guest_76 rfl (lv_at hl 1 rfl) ?_
      refine q_get (v := .ref a_s) fx inX5 h 0 rfl rfl 0 (by decide) k_636 rfl dX5_guest_77 ?_
      refine lv_iload_n hx hb dX5_guest_80 rfl (lv_at hl 0 rfl) ?_
      refine lv_iconst (v := 2) hx hb dX5_guest_81 (by decide) ?_
      refine lv_iadd hx hb dX5_guest_82 ?_
      refine lv_iconst (v := 0) hx hb dX5_guest_83 (by decide) ?_
      obtain ⟨i10, hf⟩ := gIn_inv hf
      refine q_iast (ws' := (wX5_guest cI cJ cZ cS a_t a_s a_keptS a_statuses a_pile a_tape a_steps a_wish a_mark a_bitsOf a_sizeOf a_number a_moved v_isKept v_taped v_at v_fault v_laid v_open (upd (upd (upd v_s u7.toNatClampNeg x1) (u7 + 1).toNatClampNeg x2) (u7 + 2).toNatClampNeg 0) v_statuses)) fx h 1 rfl i10 rfl dX5_guest_84 (fun H locs h => ?_)
      refine lv_aload_n hx hb dX5_guest_85 rfl (lv_at hl 1 rfl) ?_
      refine q_get (v := .ref a_s) fx inX5 h 0 rfl rfl 0 (by decide) k_636 rfl dX5_guest_86 ?_
      refine lv_iconst (v := 0) hx hb dX5_guest_89 (by decide) ?_
      refine lv_dup2_11 hx hb dX5_guest_90 rfl rfl ?_
      refine q_ialdK fx h 1 rfl 0 (vinK (by decide)) (by decide) dX5_guest_91 ?_
      refine lv_iconst (v := 1) hx hb dX5_guest_92 (by decide) ?_
      refine lv_iadd hx hb dX5_guest_93 ?_
      refine q_iastK (ws' := (wX5_guest cI cJ cZ cS a_t a_s a_keptS a_statuses a_pile a_tape a_steps a_wish a_mark a_bitsOf a_sizeOf a_number a_moved v_isKept v_taped v_at v_fault v_laid v_open (upd (upd (upd (upd v_s u7.toNatClampNeg x1) (u7 + 1).toNatClampNeg x2) (u7 + 2).toNatClampNeg 0) 0 (((upd (upd (upd v_s u7.toNatClampNeg x1) (u7 + 1).toNatClampNeg x2) (u7 + 2).toNatClampNeg 0) 0) + 1)) v_statuses)) fx h 1 rfl 0 (vinK (by decide)) (by decide) rfl dX5_guest_94 (fun H locs h => ?_)
      refine lv_aload_n hx hb dX5_guest_95 rfl (lv_at hl 1 rfl) ?_
      refine q_get (v := .ref a_s) fx inX5 h 0 rfl rfl 0 (by decide) k_636 rfl dX5_guest_96 ?_
      refine lv_iconst (v := 0) hx hb dX5_guest_99 (by decide) ?_
      refine q_ialdK fx h 1 rfl 0 (vinK (by decide)) (by decide) dX5_guest_100 ?_
      refine lv_iconst (v := 1) hx hb dX5_guest_101 (by decide) ?_
      refine lv_isub hx hb dX5_guest_102 ?_
      exact q_reti (fun k : (Nat → Int32) × (Nat → Int32) => (wX5_guest cI cJ cZ cS a_t a_s a_keptS a_statuses a_pile a_tape a_steps a_wish a_mark a_bitsOf a_sizeOf a_number a_moved v_isKept v_taped v_at v_fault v_laid v_open k.1 k.2)) fx hf h dX5_guest_103
    have hf := it_t c6 hf
    refine lv_aload_n hx hb dX5_guest_42 rfl (lv_at hl 0 rfl) ?_
    refine q_ldc fx k_706 dX5_guest_43 ?_
    obtain ⟨r11, k11, hg, hf⟩ := bR_inv hf
    refine q_ci (rest := []) (ws' := (wX5_guest cI cJ cZ cS a_t a_s a_keptS a_statuses a_pile a_tape a_steps a_wish a_mark a_bitsOf a_sizeOf a_number a_moved v_isKept v_taped v_at v_fault v_laid v_open v_s k11)) (w1 := (wX5_finds cI cJ cZ cS a_t a_s a_keptS a_statuses a_pile a_tape a_steps a_wish a_mark a_bitsOf a_sizeOf a_number a_moved v_isKept v_taped v_at v_fault v_laid v_open k11)) fx h [0, 2] rfl rfl rfl rfl (q_runV fx h hl.1 [0, 2] rfl rfl (tX5_finds l D cI cJ cZ cS tb a_t a_s a_keptS a_statuses a_pile a_tape a_steps a_wish a_mark a_bitsOf a_sizeOf a_number a_moved H.size v_isKept v_taped v_at v_fault v_laid v_open v_statuses (-1000000002) r11 k11 hg) mvX5_finds k_702 ⟨rfl, rfl⟩ ⟨Nat.le_of_ble_eq_true rfl, Nat.le_of_ble_eq_true rfl⟩ rfl rfl rfl rfl (Nat.le_of_ble_eq_true rfl) dX5_guest_45 ⟨Nat.le_of_ble_eq_true rfl, Nat.le_of_ble_eq_true rfl⟩) (fun H locs h => ?_)
    exact q_reti (fun k : (Nat → Int32) × (Nat → Int32) => (wX5_guest cI cJ cZ cS a_t a_s a_keptS a_statuses a_pile a_tape a_steps a_wish a_mark a_bitsOf a_sizeOf a_number a_moved v_isKept v_taped v_at v_fault v_laid v_open k.1 k.2)) fx hf h dX5_guest_48
  have hf := it_t c5 hf
  exact LX5_guest_24 fx h (lv_sub hl [0] rfl) hf
/-! X5_others -/
abbrev wX5_others (cI cJ cZ cS : ClassId) : va_W := []
abbrev rX5_others : Room := { frames := 1, cells := 0, slots := 0, locals := 22 }
def fX5_others (x0 : Int32) (x1 : Int32) : Option (Int32 × Unit) :=
  bR (fX5_ones (x1 &&& ((jshl 1 x0) ^^^ (-1)))) (fun r1 k1 =>
  some (r1, ()))
set_option maxRecDepth 100000 in
set_option maxHeartbeats 4000000 in
theorem tX5_others (l : Launch) (D : va_G) (cI cJ cZ cS : ClassId) (tb : Nat) (sz : Nat) (x0 : Int32) (x1 : Int32) (rr : Int32) (kk' : Unit) (hf : fX5_others x0 x1 = some (rr, kk')) : Met l yX5_others (Cond.code yX5_others cX5_others 2 (some .int) :: wA) rX5_others (q_Pre D cI cJ cZ cS tb [.int x0, .int x1] sz (wX5_others cI cJ cZ cS)) (q_Ri D rr (va_A (wX5_others cI cJ cZ cS) sz) ((fun k : Unit => (wX5_others cI cJ cZ cS)) kk')) 0 0 (va_A (wX5_others cI cJ cZ cS) sz) := by
  refine q_enter (Qf := fun A => (q_Ri D rr A ((fun k : Unit => (wX5_others cI cJ cZ cS)) kk'))) (by decide) rfl (Nat.le_of_ble_eq_true rfl) ?_
  intro p e s m below meth c A ls fx hname h hl
  have hx := fx.1
  have hb := fx.2.1
  have hl : lv_has ls 2 [(0, .int x0), (1, .int x1)] := hl
  generalize h9 : s.heap = H at h ⊢
  clear h9
  generalize h9 : ([] : List Loc) = locs at h ⊢
  clear h9
  unfold fX5_others at hf
  refine lv_iload_n hx hb dX5_others_0 rfl (lv_at hl 1 rfl) ?_
  refine lv_iconst (v := 1) hx hb dX5_others_1 (by decide) ?_
  refine lv_iload_n hx hb dX5_others_2 rfl (lv_at hl 0 rfl) ?_
  refine lv_ishl hx hb dX5_others_3 ?_
  refine lv_iconst (v := -1) hx hb dX5_others_4 (by decide) ?_
  refine lv_ixor hx hb dX5_others_5 ?_
  refine lv_iand hx hb dX5_others_6 ?_
  obtain ⟨r1, k1, hg, hf⟩ := bR_inv hf
  refine q_ci (rest := []) (ws' := (wX5_others cI cJ cZ cS)) (w1 := (wX5_ones cI cJ cZ cS)) fx h [] rfl rfl rfl rfl (q_runS fx h hl.1 [] rfl rfl (tX5_ones l D cI cJ cZ cS tb H.size (x1 &&& ((jshl 1 x0) ^^^ (-1))) r1 k1 hg) msX5_ones k_722 ⟨rfl, rfl⟩ ⟨Nat.le_of_ble_eq_true rfl, Nat.le_of_ble_eq_true rfl⟩ rfl rfl (Nat.le_of_ble_eq_true rfl) dX5_others_7 ⟨Nat.le_of_ble_eq_true rfl, Nat.le_of_ble_eq_true rfl⟩) (fun H locs h => ?_)
  exact q_reti (fun k : Unit => (wX5_others cI cJ cZ cS)) fx hf h dX5_others_10
/-! X5_holds -/
abbrev wX5_holds (cI cJ cZ cS : ClassId) (a_t a_s a_keptS a_statuses a_pile a_tape a_steps a_wish a_mark a_bitsOf a_sizeOf a_number a_moved : Nat) (v_isKept : Int32) (v_taped : Int32) (v_at : Int32) (v_fault : Int32) (v_laid : Int32) (v_open : Int32) (v_s : Nat → Int32) (v_pile : Nat → Int32) : va_W := [(a_t, .inr (5, [.ref a_s, .ref a_keptS, .ref a_statuses, .int v_isKept, .ref a_pile, .ref a_tape, .ref a_steps, .int v_taped, .int v_at, .int v_fault, .int v_laid, .int v_open, .ref a_wish, .ref a_mark, .ref a_bitsOf, .ref a_sizeOf, .ref a_number, .ref a_moved])), (a_s, .inl (cI, 538, .inl v_s)), (a_pile, .inl (cZ, 64, .inl v_pile))]
abbrev rX5_holds : Room := { frames := 2, cells := 0, slots := 0, locals := 43 }
def fX5_holds_294 (v_s : Nat → Int32) (ag13 : (Nat → Int32) → Int32 → Int32 → Int32 → Int32 → Int32 → Option (Int32 × (Nat → Int32))) (v_pile : Nat → Int32) (y1 : Int32) (y2 : Int32) (y3 : Int32) (y4 : Int32) (y5 : Int32) : Option (Int32 × (Nat → Int32)) :=
  nm (y5 + 1) (fun u1 =>
  ag13 v_pile y1 y2 y3 y4 u1)
set_option maxRecDepth 100000 in
set_option maxHeartbeats 4000000 in
theorem LX5_holds_294 {p : Program} {l : Launch} {e : Env} {s : State} {m : MethodId} {args : Array Value} {below : List Frame} {meth : Method} {c : Code} {D : va_G} {cI cJ cZ cS : ClassId} {tb : Nat} {A : Nat → Prop} {a_t a_s a_keptS a_statuses a_pile a_tape a_steps a_wish a_mark a_bitsOf a_sizeOf a_number a_moved : Nat} {v_isKept : Int32} {v_taped : Int32} {v_at : Int32} {v_fault : Int32} {v_laid : Int32} {v_open : Int32} {v_s : Nat → Int32} {rr : Int32} {kk' : (Nat → Int32)} (fx : q_Fx p s m args meth c cX5_holds 8 RX5 (some .boolean) D cI cJ cZ cS tb A) {ag13 : (Nat → Int32) → Int32 → Int32 → Int32 → Int32 → Int32 → Option (Int32 × (Nat → Int32))} (hag13 : ∀ {v_pile : Nat → Int32} {y1 : Int32} {y2 : Int32} {y3 : Int32} {y4 : Int32} {y5 : Int32} {H : Heap} {locs : List Loc} {ls : Array Slot}, q_H D A s (wX5_holds cI cJ cZ cS a_t a_s a_keptS a_statuses a_pile a_tape a_steps a_wish a_mark a_bitsOf a_sizeOf a_number a_moved v_isKept v_taped v_at v_fault v_laid v_open v_s v_pile) H locs → lv_has ls 8 [(0, .ref a_t), (1, .int y1), (2, .int y2), (3, .int y3), (4, .int y4), (5, .int y5)] → ag13 v_pile y1 y2 y3 y4 y5 = some (rr, kk') → W p l e rX5_holds s m args below meth c H locs 0 0 (MQ below (q_Ri D rr A ((fun k : (Nat → Int32) => (wX5_holds cI cJ cZ cS a_t a_s a_keptS a_statuses a_pile a_tape a_steps a_wish a_mark a_bitsOf a_sizeOf a_number a_moved v_isKept v_taped v_at v_fault v_laid v_open v_s k)) kk')) args s 0 0 A) (F0 m 13 ls [])) : ∀ {v_pile : Nat → Int32} {y1 : Int32} {y2 : Int32} {y3 : Int32} {y4 : Int32} {y5 : Int32} {H : Heap} {locs : List Loc} {ls : Array Slot}, q_H D A s (wX5_holds cI cJ cZ cS a_t a_s a_keptS a_statuses a_pile a_tape a_steps a_wish a_mark a_bitsOf a_sizeOf a_number a_moved v_isKept v_taped v_at v_fault v_laid v_open v_s v_pile) H locs → lv_has ls 8 [(0, .ref a_t), (1, .int y1), (2, .int y2), (3, .int y3), (4, .int y4), (5, .int y5)] → fX5_holds_294 v_s ag13 v_pile y1 y2 y3 y4 y5 = some (rr, kk') → W p l e rX5_holds s m args below meth c H locs 0 0 (MQ below (q_Ri D rr A ((fun k : (Nat → Int32) => (wX5_holds cI cJ cZ cS a_t a_s a_keptS a_statuses a_pile a_tape a_steps a_wish a_mark a_bitsOf a_sizeOf a_number a_moved v_isKept v_taped v_at v_fault v_laid v_open v_s k)) kk')) args s 0 0 A) (F0 m 294 ls []) := by
  intro v_pile y1 y2 y3 y4 y5 H locs ls h hl hf
  have hx := fx.1
  have hb := fx.2.1
  unfold fX5_holds_294 at hf
  obtain ⟨u1, eu1, hf⟩ := nm_inv hf
  refine lv_iinc (v := u1) (lv' := [(5, .int u1), (0, .ref a_t), (1, .int y1), (2, .int y2), (3, .int y3), (4, .int y4)]) hx hb dX5_holds_294 hl (k := 5) rfl (by rw [eu1]; rfl) (by decide) rfl (fun ls hl => ?_)
  refine lv_goto (tgt := 13) hx hb dX5_holds_297 (by decide) ?_
  exact hag13 h (lv_sub hl [1, 2, 3, 4, 5, 0] rfl) hf
def fX5_holds_293 (v_s : Nat → Int32) (ag13 : (Nat → Int32) → Int32 → Int32 → Int32 → Int32 → Int32 → Option (Int32 × (Nat → Int32))) (v_pile : Nat → Int32) (s1 : Int32) (s2 : Int32) (y1 : Int32) (y2 : Int32) (y3 : Int32) (y4 : Int32) (y5 : Int32) : Option (Int32 × (Nat → Int32)) :=
  gIn s1 64 (
  fX5_holds_294 v_s ag13 (upd v_pile s1.toNatClampNeg (vp_nar .boolean s2)) y1 y2 y3 y4 y5)
set_option maxRecDepth 100000 in
set_option maxHeartbeats 4000000 in
theorem LX5_holds_293 {p : Program} {l : Launch} {e : Env} {s : State} {m : MethodId} {args : Array Value} {below : List Frame} {meth : Method} {c : Code} {D : va_G} {cI cJ cZ cS : ClassId} {tb : Nat} {A : Nat → Prop} {a_t a_s a_keptS a_statuses a_pile a_tape a_steps a_wish a_mark a_bitsOf a_sizeOf a_number a_moved : Nat} {v_isKept : Int32} {v_taped : Int32} {v_at : Int32} {v_fault : Int32} {v_laid : Int32} {v_open : Int32} {v_s : Nat → Int32} {rr : Int32} {kk' : (Nat → Int32)} (fx : q_Fx p s m args meth c cX5_holds 8 RX5 (some .boolean) D cI cJ cZ cS tb A) {ag13 : (Nat → Int32) → Int32 → Int32 → Int32 → Int32 → Int32 → Option (Int32 × (Nat → Int32))} (hag13 : ∀ {v_pile : Nat → Int32} {y1 : Int32} {y2 : Int32} {y3 : Int32} {y4 : Int32} {y5 : Int32} {H : Heap} {locs : List Loc} {ls : Array Slot}, q_H D A s (wX5_holds cI cJ cZ cS a_t a_s a_keptS a_statuses a_pile a_tape a_steps a_wish a_mark a_bitsOf a_sizeOf a_number a_moved v_isKept v_taped v_at v_fault v_laid v_open v_s v_pile) H locs → lv_has ls 8 [(0, .ref a_t), (1, .int y1), (2, .int y2), (3, .int y3), (4, .int y4), (5, .int y5)] → ag13 v_pile y1 y2 y3 y4 y5 = some (rr, kk') → W p l e rX5_holds s m args below meth c H locs 0 0 (MQ below (q_Ri D rr A ((fun k : (Nat → Int32) => (wX5_holds cI cJ cZ cS a_t a_s a_keptS a_statuses a_pile a_tape a_steps a_wish a_mark a_bitsOf a_sizeOf a_number a_moved v_isKept v_taped v_at v_fault v_laid v_open v_s k)) kk')) args s 0 0 A) (F0 m 13 ls [])) : ∀ {v_pile : Nat → Int32} {s1 : Int32} {s2 : Int32} {y1 : Int32} {y2 : Int32} {y3 : Int32} {y4 : Int32} {y5 : Int32} {H : Heap} {locs : List Loc} {ls : Array Slot}, q_H D A s (wX5_holds cI cJ cZ cS a_t a_s a_keptS a_statuses a_pile a_tape a_steps a_wish a_mark a_bitsOf a_sizeOf a_number a_moved v_isKept v_taped v_at v_fault v_laid v_open v_s v_pile) H locs → lv_has ls 8 [(0, .ref a_t), (1, .int y1), (2, .int y2), (3, .int y3), (4, .int y4), (5, .int y5)] → fX5_holds_293 v_s ag13 v_pile s1 s2 y1 y2 y3 y4 y5 = some (rr, kk') → W p l e rX5_holds s m args below meth c H locs 0 0 (MQ below (q_Ri D rr A ((fun k : (Nat → Int32) => (wX5_holds cI cJ cZ cS a_t a_s a_keptS a_statuses a_pile a_tape a_steps a_wish a_mark a_bitsOf a_sizeOf a_number a_moved v_isKept v_taped v_at v_fault v_laid v_open v_s k)) kk')) args s 0 0 A) (F0 m 293 ls [.int s2, .int s1, .ref a_pile]) := by
  intro v_pile s1 s2 y1 y2 y3 y4 y5 H locs ls h hl hf
  have hx := fx.1
  have hb := fx.2.1
  unfold fX5_holds_293 at hf
  obtain ⟨i2, hf⟩ := gIn_inv hf
  refine q_zast (ws' := (wX5_holds cI cJ cZ cS a_t a_s a_keptS a_statuses a_pile a_tape a_steps a_wish a_mark a_bitsOf a_sizeOf a_number a_moved v_isKept v_taped v_at v_fault v_laid v_open v_s (upd v_pile s1.toNatClampNeg (vp_nar .boolean s2)))) fx h 2 rfl i2 rfl dX5_holds_293 (fun H locs h => ?_)
  exact LX5_holds_294 fx hag13 h (lv_sub hl [0, 1, 2, 3, 4, 5] rfl) hf
def fX5_holds_288 (v_s : Nat → Int32) (ag13 : (Nat → Int32) → Int32 → Int32 → Int32 → Int32 → Int32 → Option (Int32 × (Nat → Int32))) (v_pile : Nat → Int32) (s1 : Int32) (y1 : Int32) (y2 : Int32) (y3 : Int32) (y4 : Int32) (y5 : Int32) : Option (Int32 × (Nat → Int32)) :=
  fX5_holds_293 v_s ag13 v_pile s1 1 y1 y2 y3 y4 y5
set_option maxRecDepth 100000 in
set_option maxHeartbeats 4000000 in
theorem LX5_holds_288 {p : Program} {l : Launch} {e : Env} {s : State} {m : MethodId} {args : Array Value} {below : List Frame} {meth : Method} {c : Code} {D : va_G} {cI cJ cZ cS : ClassId} {tb : Nat} {A : Nat → Prop} {a_t a_s a_keptS a_statuses a_pile a_tape a_steps a_wish a_mark a_bitsOf a_sizeOf a_number a_moved : Nat} {v_isKept : Int32} {v_taped : Int32} {v_at : Int32} {v_fault : Int32} {v_laid : Int32} {v_open : Int32} {v_s : Nat → Int32} {rr : Int32} {kk' : (Nat → Int32)} (fx : q_Fx p s m args meth c cX5_holds 8 RX5 (some .boolean) D cI cJ cZ cS tb A) {ag13 : (Nat → Int32) → Int32 → Int32 → Int32 → Int32 → Int32 → Option (Int32 × (Nat → Int32))} (hag13 : ∀ {v_pile : Nat → Int32} {y1 : Int32} {y2 : Int32} {y3 : Int32} {y4 : Int32} {y5 : Int32} {H : Heap} {locs : List Loc} {ls : Array Slot}, q_H D A s (wX5_holds cI cJ cZ cS a_t a_s a_keptS a_statuses a_pile a_tape a_steps a_wish a_mark a_bitsOf a_sizeOf a_number a_moved v_isKept v_taped v_at v_fault v_laid v_open v_s v_pile) H locs → lv_has ls 8 [(0, .ref a_t), (1, .int y1), (2, .int y2), (3, .int y3), (4, .int y4), (5, .int y5)] → ag13 v_pile y1 y2 y3 y4 y5 = some (rr, kk') → W p l e rX5_holds s m args below meth c H locs 0 0 (MQ below (q_Ri D rr A ((fun k : (Nat → Int32) => (wX5_holds cI cJ cZ cS a_t a_s a_keptS a_statuses a_pile a_tape a_steps a_wish a_mark a_bitsOf a_sizeOf a_number a_moved v_isKept v_taped v_at v_fault v_laid v_open v_s k)) kk')) args s 0 0 A) (F0 m 13 ls [])) : ∀ {v_pile : Nat → Int32} {s1 : Int32} {y1 : Int32} {y2 : Int32} {y3 : Int32} {y4 : Int32} {y5 : Int32} {H : Heap} {locs : List Loc} {ls : Array Slot}, q_H D A s (wX5_holds cI cJ cZ cS a_t a_s a_keptS a_statuses a_pile a_tape a_steps a_wish a_mark a_bitsOf a_sizeOf a_number a_moved v_isKept v_taped v_at v_fault v_laid v_open v_s v_pile) H locs → lv_has ls 8 [(0, .ref a_t), (1, .int y1), (2, .int y2), (3, .int y3), (4, .int y4), (5, .int y5)] → fX5_holds_288 v_s ag13 v_pile s1 y1 y2 y3 y4 y5 = some (rr, kk') → W p l e rX5_holds s m args below meth c H locs 0 0 (MQ below (q_Ri D rr A ((fun k : (Nat → Int32) => (wX5_holds cI cJ cZ cS a_t a_s a_keptS a_statuses a_pile a_tape a_steps a_wish a_mark a_bitsOf a_sizeOf a_number a_moved v_isKept v_taped v_at v_fault v_laid v_open v_s k)) kk')) args s 0 0 A) (F0 m 288 ls [.int s1, .ref a_pile]) := by
  intro v_pile s1 y1 y2 y3 y4 y5 H locs ls h hl hf
  have hx := fx.1
  have hb := fx.2.1
  unfold fX5_holds_288 at hf
  refine lv_iconst (v := 1) hx hb dX5_holds_288 (by decide) ?_
  refine lv_goto (tgt := 293) hx hb dX5_holds_289 (by decide) ?_
  exact LX5_holds_293 fx hag13 h (lv_sub hl [0, 1, 2, 3, 4, 5] rfl) hf
def fX5_holds_262 (v_s : Nat → Int32) (ag13 : (Nat → Int32) → Int32 → Int32 → Int32 → Int32 → Int32 → Option (Int32 × (Nat → Int32))) (v_pile : Nat → Int32) (s1 : Int32) (y1 : Int32) (y2 : Int32) (y3 : Int32) (y4 : Int32) (y5 : Int32) : Option (Int32 × (Nat → Int32)) :=
  fX5_holds_293 v_s ag13 v_pile s1 0 y1 y2 y3 y4 y5
set_option maxRecDepth 100000 in
set_option maxHeartbeats 4000000 in
theorem LX5_holds_262 {p : Program} {l : Launch} {e : Env} {s : State} {m : MethodId} {args : Array Value} {below : List Frame} {meth : Method} {c : Code} {D : va_G} {cI cJ cZ cS : ClassId} {tb : Nat} {A : Nat → Prop} {a_t a_s a_keptS a_statuses a_pile a_tape a_steps a_wish a_mark a_bitsOf a_sizeOf a_number a_moved : Nat} {v_isKept : Int32} {v_taped : Int32} {v_at : Int32} {v_fault : Int32} {v_laid : Int32} {v_open : Int32} {v_s : Nat → Int32} {rr : Int32} {kk' : (Nat → Int32)} (fx : q_Fx p s m args meth c cX5_holds 8 RX5 (some .boolean) D cI cJ cZ cS tb A) {ag13 : (Nat → Int32) → Int32 → Int32 → Int32 → Int32 → Int32 → Option (Int32 × (Nat → Int32))} (hag13 : ∀ {v_pile : Nat → Int32} {y1 : Int32} {y2 : Int32} {y3 : Int32} {y4 : Int32} {y5 : Int32} {H : Heap} {locs : List Loc} {ls : Array Slot}, q_H D A s (wX5_holds cI cJ cZ cS a_t a_s a_keptS a_statuses a_pile a_tape a_steps a_wish a_mark a_bitsOf a_sizeOf a_number a_moved v_isKept v_taped v_at v_fault v_laid v_open v_s v_pile) H locs → lv_has ls 8 [(0, .ref a_t), (1, .int y1), (2, .int y2), (3, .int y3), (4, .int y4), (5, .int y5)] → ag13 v_pile y1 y2 y3 y4 y5 = some (rr, kk') → W p l e rX5_holds s m args below meth c H locs 0 0 (MQ below (q_Ri D rr A ((fun k : (Nat → Int32) => (wX5_holds cI cJ cZ cS a_t a_s a_keptS a_statuses a_pile a_tape a_steps a_wish a_mark a_bitsOf a_sizeOf a_number a_moved v_isKept v_taped v_at v_fault v_laid v_open v_s k)) kk')) args s 0 0 A) (F0 m 13 ls [])) : ∀ {v_pile : Nat → Int32} {s1 : Int32} {y1 : Int32} {y2 : Int32} {y3 : Int32} {y4 : Int32} {y5 : Int32} {H : Heap} {locs : List Loc} {ls : Array Slot}, q_H D A s (wX5_holds cI cJ cZ cS a_t a_s a_keptS a_statuses a_pile a_tape a_steps a_wish a_mark a_bitsOf a_sizeOf a_number a_moved v_isKept v_taped v_at v_fault v_laid v_open v_s v_pile) H locs → lv_has ls 8 [(0, .ref a_t), (1, .int y1), (2, .int y2), (3, .int y3), (4, .int y4), (5, .int y5)] → fX5_holds_262 v_s ag13 v_pile s1 y1 y2 y3 y4 y5 = some (rr, kk') → W p l e rX5_holds s m args below meth c H locs 0 0 (MQ below (q_Ri D rr A ((fun k : (Nat → Int32) => (wX5_holds cI cJ cZ cS a_t a_s a_keptS a_statuses a_pile a_tape a_steps a_wish a_mark a_bitsOf a_sizeOf a_number a_moved v_isKept v_taped v_at v_fault v_laid v_open v_s k)) kk')) args s 0 0 A) (F0 m 262 ls [.int s1, .ref a_pile]) := by
  intro v_pile s1 y1 y2 y3 y4 y5 H locs ls h hl hf
  have hx := fx.1
  have hb := fx.2.1
  unfold fX5_holds_262 at hf
  refine lv_iconst (v := 0) hx hb dX5_holds_262 (by decide) ?_
  refine lv_goto (tgt := 293) hx hb dX5_holds_263 (by decide) ?_
  exact LX5_holds_293 fx hag13 h (lv_sub hl [0, 1, 2, 3, 4, 5] rfl) hf
def fX5_holds_213 (v_s : Nat → Int32) (ag13 : (Nat → Int32) → Int32 → Int32 → Int32 → Int32 → Int32 → Option (Int32 × (Nat → Int32))) (v_pile : Nat → Int32) (s1 : Int32) (s2 : Int32) (y1 : Int32) (y2 : Int32) (y3 : Int32) (y4 : Int32) (y5 : Int32) : Option (Int32 × (Nat → Int32)) :=
  gIn s1 64 (
  fX5_holds_294 v_s ag13 (upd v_pile s1.toNatClampNeg (vp_nar .boolean s2)) y1 y2 y3 y4 y5)
set_option maxRecDepth 100000 in
set_option maxHeartbeats 4000000 in
theorem LX5_holds_213 {p : Program} {l : Launch} {e : Env} {s : State} {m : MethodId} {args : Array Value} {below : List Frame} {meth : Method} {c : Code} {D : va_G} {cI cJ cZ cS : ClassId} {tb : Nat} {A : Nat → Prop} {a_t a_s a_keptS a_statuses a_pile a_tape a_steps a_wish a_mark a_bitsOf a_sizeOf a_number a_moved : Nat} {v_isKept : Int32} {v_taped : Int32} {v_at : Int32} {v_fault : Int32} {v_laid : Int32} {v_open : Int32} {v_s : Nat → Int32} {rr : Int32} {kk' : (Nat → Int32)} (fx : q_Fx p s m args meth c cX5_holds 8 RX5 (some .boolean) D cI cJ cZ cS tb A) {ag13 : (Nat → Int32) → Int32 → Int32 → Int32 → Int32 → Int32 → Option (Int32 × (Nat → Int32))} (hag13 : ∀ {v_pile : Nat → Int32} {y1 : Int32} {y2 : Int32} {y3 : Int32} {y4 : Int32} {y5 : Int32} {H : Heap} {locs : List Loc} {ls : Array Slot}, q_H D A s (wX5_holds cI cJ cZ cS a_t a_s a_keptS a_statuses a_pile a_tape a_steps a_wish a_mark a_bitsOf a_sizeOf a_number a_moved v_isKept v_taped v_at v_fault v_laid v_open v_s v_pile) H locs → lv_has ls 8 [(0, .ref a_t), (1, .int y1), (2, .int y2), (3, .int y3), (4, .int y4), (5, .int y5)] → ag13 v_pile y1 y2 y3 y4 y5 = some (rr, kk') → W p l e rX5_holds s m args below meth c H locs 0 0 (MQ below (q_Ri D rr A ((fun k : (Nat → Int32) => (wX5_holds cI cJ cZ cS a_t a_s a_keptS a_statuses a_pile a_tape a_steps a_wish a_mark a_bitsOf a_sizeOf a_number a_moved v_isKept v_taped v_at v_fault v_laid v_open v_s k)) kk')) args s 0 0 A) (F0 m 13 ls [])) : ∀ {v_pile : Nat → Int32} {s1 : Int32} {s2 : Int32} {y1 : Int32} {y2 : Int32} {y3 : Int32} {y4 : Int32} {y5 : Int32} {H : Heap} {locs : List Loc} {ls : Array Slot}, q_H D A s (wX5_holds cI cJ cZ cS a_t a_s a_keptS a_statuses a_pile a_tape a_steps a_wish a_mark a_bitsOf a_sizeOf a_number a_moved v_isKept v_taped v_at v_fault v_laid v_open v_s v_pile) H locs → lv_has ls 8 [(0, .ref a_t), (1, .int y1), (2, .int y2), (3, .int y3), (4, .int y4), (5, .int y5)] → fX5_holds_213 v_s ag13 v_pile s1 s2 y1 y2 y3 y4 y5 = some (rr, kk') → W p l e rX5_holds s m args below meth c H locs 0 0 (MQ below (q_Ri D rr A ((fun k : (Nat → Int32) => (wX5_holds cI cJ cZ cS a_t a_s a_keptS a_statuses a_pile a_tape a_steps a_wish a_mark a_bitsOf a_sizeOf a_number a_moved v_isKept v_taped v_at v_fault v_laid v_open v_s k)) kk')) args s 0 0 A) (F0 m 213 ls [.int s2, .int s1, .ref a_pile]) := by
  intro v_pile s1 s2 y1 y2 y3 y4 y5 H locs ls h hl hf
  have hx := fx.1
  have hb := fx.2.1
  unfold fX5_holds_213 at hf
  obtain ⟨i3, hf⟩ := gIn_inv hf
  refine q_zast (ws' := (wX5_holds cI cJ cZ cS a_t a_s a_keptS a_statuses a_pile a_tape a_steps a_wish a_mark a_bitsOf a_sizeOf a_number a_moved v_isKept v_taped v_at v_fault v_laid v_open v_s (upd v_pile s1.toNatClampNeg (vp_nar .boolean s2)))) fx h 2 rfl i3 rfl dX5_holds_213 (fun H locs h => ?_)
  refine lv_goto (tgt := 294) hx hb dX5_holds_214 (by decide) ?_
  exact LX5_holds_294 fx hag13 h (lv_sub hl [0, 1, 2, 3, 4, 5] rfl) hf
def fX5_holds_173 (v_s : Nat → Int32) (ag13 : (Nat → Int32) → Int32 → Int32 → Int32 → Int32 → Int32 → Option (Int32 × (Nat → Int32))) (v_pile : Nat → Int32) (s1 : Int32) (s2 : Int32) (y1 : Int32) (y2 : Int32) (y3 : Int32) (y4 : Int32) (y5 : Int32) : Option (Int32 × (Nat → Int32)) :=
  gIn s1 64 (
  nm (y4 + 1) (fun u5 =>
  fX5_holds_294 v_s ag13 (upd v_pile s1.toNatClampNeg (vp_nar .boolean s2)) y1 y2 y3 u5 y5))
set_option maxRecDepth 100000 in
set_option maxHeartbeats 4000000 in
theorem LX5_holds_173 {p : Program} {l : Launch} {e : Env} {s : State} {m : MethodId} {args : Array Value} {below : List Frame} {meth : Method} {c : Code} {D : va_G} {cI cJ cZ cS : ClassId} {tb : Nat} {A : Nat → Prop} {a_t a_s a_keptS a_statuses a_pile a_tape a_steps a_wish a_mark a_bitsOf a_sizeOf a_number a_moved : Nat} {v_isKept : Int32} {v_taped : Int32} {v_at : Int32} {v_fault : Int32} {v_laid : Int32} {v_open : Int32} {v_s : Nat → Int32} {rr : Int32} {kk' : (Nat → Int32)} (fx : q_Fx p s m args meth c cX5_holds 8 RX5 (some .boolean) D cI cJ cZ cS tb A) {ag13 : (Nat → Int32) → Int32 → Int32 → Int32 → Int32 → Int32 → Option (Int32 × (Nat → Int32))} (hag13 : ∀ {v_pile : Nat → Int32} {y1 : Int32} {y2 : Int32} {y3 : Int32} {y4 : Int32} {y5 : Int32} {H : Heap} {locs : List Loc} {ls : Array Slot}, q_H D A s (wX5_holds cI cJ cZ cS a_t a_s a_keptS a_statuses a_pile a_tape a_steps a_wish a_mark a_bitsOf a_sizeOf a_number a_moved v_isKept v_taped v_at v_fault v_laid v_open v_s v_pile) H locs → lv_has ls 8 [(0, .ref a_t), (1, .int y1), (2, .int y2), (3, .int y3), (4, .int y4), (5, .int y5)] → ag13 v_pile y1 y2 y3 y4 y5 = some (rr, kk') → W p l e rX5_holds s m args below meth c H locs 0 0 (MQ below (q_Ri D rr A ((fun k : (Nat → Int32) => (wX5_holds cI cJ cZ cS a_t a_s a_keptS a_statuses a_pile a_tape a_steps a_wish a_mark a_bitsOf a_sizeOf a_number a_moved v_isKept v_taped v_at v_fault v_laid v_open v_s k)) kk')) args s 0 0 A) (F0 m 13 ls [])) : ∀ {v_pile : Nat → Int32} {s1 : Int32} {s2 : Int32} {y1 : Int32} {y2 : Int32} {y3 : Int32} {y4 : Int32} {y5 : Int32} {H : Heap} {locs : List Loc} {ls : Array Slot}, q_H D A s (wX5_holds cI cJ cZ cS a_t a_s a_keptS a_statuses a_pile a_tape a_steps a_wish a_mark a_bitsOf a_sizeOf a_number a_moved v_isKept v_taped v_at v_fault v_laid v_open v_s v_pile) H locs → lv_has ls 8 [(0, .ref a_t), (1, .int y1), (2, .int y2), (3, .int y3), (4, .int y4), (5, .int y5)] → fX5_holds_173 v_s ag13 v_pile s1 s2 y1 y2 y3 y4 y5 = some (rr, kk') → W p l e rX5_holds s m args below meth c H locs 0 0 (MQ below (q_Ri D rr A ((fun k : (Nat → Int32) => (wX5_holds cI cJ cZ cS a_t a_s a_keptS a_statuses a_pile a_tape a_steps a_wish a_mark a_bitsOf a_sizeOf a_number a_moved v_isKept v_taped v_at v_fault v_laid v_open v_s k)) kk')) args s 0 0 A) (F0 m 173 ls [.int s2, .int s1, .ref a_pile]) := by
  intro v_pile s1 s2 y1 y2 y3 y4 y5 H locs ls h hl hf
  have hx := fx.1
  have hb := fx.2.1
  unfold fX5_holds_173 at hf
  obtain ⟨i4, hf⟩ := gIn_inv hf
  refine q_zast (ws' := (wX5_holds cI cJ cZ cS a_t a_s a_keptS a_statuses a_pile a_tape a_steps a_wish a_mark a_bitsOf a_sizeOf a_number a_moved v_isKept v_taped v_at v_fault v_laid v_open v_s (upd v_pile s1.toNatClampNeg (vp_nar .boolean s2)))) fx h 2 rfl i4 rfl dX5_holds_173 (fun H locs h => ?_)
  obtain ⟨u5, eu5, hf⟩ := nm_inv hf
  refine lv_iinc (v := u5) (lv' := [(4, .int u5), (0, .ref a_t), (1, .int y1), (2, .int y2), (3, .int y3), (5, .int y5)]) hx hb dX5_holds_174 hl (k := 4) rfl (by rw [eu5]; rfl) (by decide) rfl (fun ls hl => ?_)
  refine lv_goto (tgt := 294) hx hb dX5_holds_177 (by decide) ?_
  exact LX5_holds_294 fx hag13 h (lv_sub hl [1, 2, 3, 4, 0, 5] rfl) hf
def fX5_holds_139 (v_s : Nat → Int32) (ag13 : (Nat → Int32) → Int32 → Int32 → Int32 → Int32 → Int32 → Option (Int32 × (Nat → Int32))) (v_pile : Nat → Int32) (s1 : Int32) (s2 : Int32) (y1 : Int32) (y2 : Int32) (y3 : Int32) (y4 : Int32) (y5 : Int32) : Option (Int32 × (Nat → Int32)) :=
  gIn s1 64 (
  nm (y4 + 1) (fun u7 =>
  fX5_holds_294 v_s ag13 (upd v_pile s1.toNatClampNeg (vp_nar .boolean s2)) y1 y2 y3 u7 y5))
set_option maxRecDepth 100000 in
set_option maxHeartbeats 4000000 in
theorem LX5_holds_139 {p : Program} {l : Launch} {e : Env} {s : State} {m : MethodId} {args : Array Value} {below : List Frame} {meth : Method} {c : Code} {D : va_G} {cI cJ cZ cS : ClassId} {tb : Nat} {A : Nat → Prop} {a_t a_s a_keptS a_statuses a_pile a_tape a_steps a_wish a_mark a_bitsOf a_sizeOf a_number a_moved : Nat} {v_isKept : Int32} {v_taped : Int32} {v_at : Int32} {v_fault : Int32} {v_laid : Int32} {v_open : Int32} {v_s : Nat → Int32} {rr : Int32} {kk' : (Nat → Int32)} (fx : q_Fx p s m args meth c cX5_holds 8 RX5 (some .boolean) D cI cJ cZ cS tb A) {ag13 : (Nat → Int32) → Int32 → Int32 → Int32 → Int32 → Int32 → Option (Int32 × (Nat → Int32))} (hag13 : ∀ {v_pile : Nat → Int32} {y1 : Int32} {y2 : Int32} {y3 : Int32} {y4 : Int32} {y5 : Int32} {H : Heap} {locs : List Loc} {ls : Array Slot}, q_H D A s (wX5_holds cI cJ cZ cS a_t a_s a_keptS a_statuses a_pile a_tape a_steps a_wish a_mark a_bitsOf a_sizeOf a_number a_moved v_isKept v_taped v_at v_fault v_laid v_open v_s v_pile) H locs → lv_has ls 8 [(0, .ref a_t), (1, .int y1), (2, .int y2), (3, .int y3), (4, .int y4), (5, .int y5)] → ag13 v_pile y1 y2 y3 y4 y5 = some (rr, kk') → W p l e rX5_holds s m args below meth c H locs 0 0 (MQ below (q_Ri D rr A ((fun k : (Nat → Int32) => (wX5_holds cI cJ cZ cS a_t a_s a_keptS a_statuses a_pile a_tape a_steps a_wish a_mark a_bitsOf a_sizeOf a_number a_moved v_isKept v_taped v_at v_fault v_laid v_open v_s k)) kk')) args s 0 0 A) (F0 m 13 ls [])) : ∀ {v_pile : Nat → Int32} {s1 : Int32} {s2 : Int32} {y1 : Int32} {y2 : Int32} {y3 : Int32} {y4 : Int32} {y5 : Int32} {H : Heap} {locs : List Loc} {ls : Array Slot}, q_H D A s (wX5_holds cI cJ cZ cS a_t a_s a_keptS a_statuses a_pile a_tape a_steps a_wish a_mark a_bitsOf a_sizeOf a_number a_moved v_isKept v_taped v_at v_fault v_laid v_open v_s v_pile) H locs → lv_has ls 8 [(0, .ref a_t), (1, .int y1), (2, .int y2), (3, .int y3), (4, .int y4), (5, .int y5)] → fX5_holds_139 v_s ag13 v_pile s1 s2 y1 y2 y3 y4 y5 = some (rr, kk') → W p l e rX5_holds s m args below meth c H locs 0 0 (MQ below (q_Ri D rr A ((fun k : (Nat → Int32) => (wX5_holds cI cJ cZ cS a_t a_s a_keptS a_statuses a_pile a_tape a_steps a_wish a_mark a_bitsOf a_sizeOf a_number a_moved v_isKept v_taped v_at v_fault v_laid v_open v_s k)) kk')) args s 0 0 A) (F0 m 139 ls [.int s2, .int s1, .ref a_pile]) := by
  intro v_pile s1 s2 y1 y2 y3 y4 y5 H locs ls h hl hf
  have hx := fx.1
  have hb := fx.2.1
  unfold fX5_holds_139 at hf
  obtain ⟨i6, hf⟩ := gIn_inv hf
  refine q_zast (ws' := (wX5_holds cI cJ cZ cS a_t a_s a_keptS a_statuses a_pile a_tape a_steps a_wish a_mark a_bitsOf a_sizeOf a_number a_moved v_isKept v_taped v_at v_fault v_laid v_open v_s (upd v_pile s1.toNatClampNeg (vp_nar .boolean s2)))) fx h 2 rfl i6 rfl dX5_holds_139 (fun H locs h => ?_)
  obtain ⟨u7, eu7, hf⟩ := nm_inv hf
  refine lv_iinc (v := u7) (lv' := [(4, .int u7), (0, .ref a_t), (1, .int y1), (2, .int y2), (3, .int y3), (5, .int y5)]) hx hb dX5_holds_140 hl (k := 4) rfl (by rw [eu7]; rfl) (by decide) rfl (fun ls hl => ?_)
  refine lv_goto (tgt := 294) hx hb dX5_holds_143 (by decide) ?_
  exact LX5_holds_294 fx hag13 h (lv_sub hl [1, 2, 3, 4, 0, 5] rfl) hf
def fX5_holds_13 (v_s : Nat → Int32) (ag13 : (Nat → Int32) → Int32 → Int32 → Int32 → Int32 → Int32 → Option (Int32 × (Nat → Int32))) (v_pile : Nat → Int32) (y1 : Int32) (y2 : Int32) (y3 : Int32) (y4 : Int32) (y5 : Int32) : Option (Int32 × (Nat → Int32)) :=
  (if y3 ≤ y5 then (
  (if y3 = 0 then (
  some (1, v_pile))
  else (
  (if (v_pile 0) = 0 then (
  some (0, v_pile))
  else (
  some (1, v_pile))))))
  else (
  gIn ((26 + (64 * y1)) + y5) 538 (
  nm (v_s ((26 + (64 * y1)) + y5).toNatClampNeg) (fun u12 =>
  (if (8 : Int32) ≤ u12 then (
  (if (130 : Int32) ≤ u12 then (
  (if (140 : Int32) ≤ u12 then (
  (if u12 = 140 then (
  gIn (y4 - 1) 64 (
  (if (v_pile (y4 - 1).toNatClampNeg) = 0 then (
  fX5_holds_213 v_s ag13 v_pile (y4 - 1) 1 y1 y2 y3 y4 y5)
  else (
  fX5_holds_213 v_s ag13 v_pile (y4 - 1) 0 y1 y2 y3 y4 y5))))
  else (
  nm (y4 + (-1)) (fun u17 =>
  (if u12 = 141 then (
  gIn (u17 - 1) 64 (
  (if (v_pile (u17 - 1).toNatClampNeg) = 0 then (
  fX5_holds_262 v_s ag13 v_pile (u17 - 1) y1 y2 y3 u17 y5)
  else (
  gIn u17 64 (
  (if (v_pile u17.toNatClampNeg) = 0 then (
  fX5_holds_262 v_s ag13 v_pile (u17 - 1) y1 y2 y3 u17 y5)
  else (
  fX5_holds_293 v_s ag13 v_pile (u17 - 1) 1 y1 y2 y3 u17 y5)))))))
  else (
  gIn (u17 - 1) 64 (
  (if (v_pile (u17 - 1).toNatClampNeg) = 0 then (
  gIn u17 64 (
  (if (v_pile u17.toNatClampNeg) = 0 then (
  fX5_holds_293 v_s ag13 v_pile (u17 - 1) 0 y1 y2 y3 u17 y5)
  else (
  fX5_holds_288 v_s ag13 v_pile (u17 - 1) y1 y2 y3 u17 y5))))
  else (
  fX5_holds_288 v_s ag13 v_pile (u17 - 1) y1 y2 y3 u17 y5)))))))))
  else (
  (if u12 = 130 then (
  fX5_holds_173 v_s ag13 v_pile y4 1 y1 y2 y3 y4 y5)
  else (
  fX5_holds_173 v_s ag13 v_pile y4 0 y1 y2 y3 y4 y5)))))
  else (
  bR (fX5_others y1 y2) (fun r30 k30 =>
  nm (r30 - (jrem u12 10)) (fun u31 =>
  (if (110 : Int32) ≤ u12 then (
  (if (120 : Int32) ≤ u12 then (
  (if u31 ≤ 0 then (
  fX5_holds_139 v_s ag13 v_pile y4 0 y1 y2 y3 y4 y5)
  else (
  fX5_holds_139 v_s ag13 v_pile y4 1 y1 y2 y3 y4 y5)))
  else (
  (if u31 = 0 then (
  fX5_holds_139 v_s ag13 v_pile y4 1 y1 y2 y3 y4 y5)
  else (
  fX5_holds_139 v_s ag13 v_pile y4 0 y1 y2 y3 y4 y5)))))
  else (
  (if (0 : Int32) ≤ u31 then (
  fX5_holds_139 v_s ag13 v_pile y4 0 y1 y2 y3 y4 y5)
  else (
  fX5_holds_139 v_s ag13 v_pile y4 1 y1 y2 y3 y4 y5)))))))))
  else (
  bR (fX5_has y2 u12) (fun r37 k37 =>
  gIn y4 64 (
  nm (y4 + 1) (fun u39 =>
  fX5_holds_294 v_s ag13 (upd v_pile y4.toNatClampNeg (vp_nar .boolean r37)) y1 y2 y3 u39 y5)))))))))
set_option maxRecDepth 100000 in
set_option maxHeartbeats 4000000 in
theorem LX5_holds_13 {p : Program} {l : Launch} {e : Env} {s : State} {m : MethodId} {args : Array Value} {below : List Frame} {meth : Method} {c : Code} {D : va_G} {cI cJ cZ cS : ClassId} {tb : Nat} {A : Nat → Prop} {a_t a_s a_keptS a_statuses a_pile a_tape a_steps a_wish a_mark a_bitsOf a_sizeOf a_number a_moved : Nat} {v_isKept : Int32} {v_taped : Int32} {v_at : Int32} {v_fault : Int32} {v_laid : Int32} {v_open : Int32} {v_s : Nat → Int32} {rr : Int32} {kk' : (Nat → Int32)} (fx : q_Fx p s m args meth c cX5_holds 8 RX5 (some .boolean) D cI cJ cZ cS tb A) {ag13 : (Nat → Int32) → Int32 → Int32 → Int32 → Int32 → Int32 → Option (Int32 × (Nat → Int32))} (hag13 : ∀ {v_pile : Nat → Int32} {y1 : Int32} {y2 : Int32} {y3 : Int32} {y4 : Int32} {y5 : Int32} {H : Heap} {locs : List Loc} {ls : Array Slot}, q_H D A s (wX5_holds cI cJ cZ cS a_t a_s a_keptS a_statuses a_pile a_tape a_steps a_wish a_mark a_bitsOf a_sizeOf a_number a_moved v_isKept v_taped v_at v_fault v_laid v_open v_s v_pile) H locs → lv_has ls 8 [(0, .ref a_t), (1, .int y1), (2, .int y2), (3, .int y3), (4, .int y4), (5, .int y5)] → ag13 v_pile y1 y2 y3 y4 y5 = some (rr, kk') → W p l e rX5_holds s m args below meth c H locs 0 0 (MQ below (q_Ri D rr A ((fun k : (Nat → Int32) => (wX5_holds cI cJ cZ cS a_t a_s a_keptS a_statuses a_pile a_tape a_steps a_wish a_mark a_bitsOf a_sizeOf a_number a_moved v_isKept v_taped v_at v_fault v_laid v_open v_s k)) kk')) args s 0 0 A) (F0 m 13 ls [])) : ∀ {v_pile : Nat → Int32} {y1 : Int32} {y2 : Int32} {y3 : Int32} {y4 : Int32} {y5 : Int32} {H : Heap} {locs : List Loc} {ls : Array Slot}, q_H D A s (wX5_holds cI cJ cZ cS a_t a_s a_keptS a_statuses a_pile a_tape a_steps a_wish a_mark a_bitsOf a_sizeOf a_number a_moved v_isKept v_taped v_at v_fault v_laid v_open v_s v_pile) H locs → lv_has ls 8 [(0, .ref a_t), (1, .int y1), (2, .int y2), (3, .int y3), (4, .int y4), (5, .int y5)] → fX5_holds_13 v_s ag13 v_pile y1 y2 y3 y4 y5 = some (rr, kk') → W p l e rX5_holds s m args below meth c H locs 0 0 (MQ below (q_Ri D rr A ((fun k : (Nat → Int32) => (wX5_holds cI cJ cZ cS a_t a_s a_keptS a_statuses a_pile a_tape a_steps a_wish a_mark a_bitsOf a_sizeOf a_number a_moved v_isKept v_taped v_at v_fault v_laid v_open v_s k)) kk')) args s 0 0 A) (F0 m 13 ls []) := by
  intro v_pile y1 y2 y3 y4 y5 H locs ls h hl hf
  have hx := fx.1
  have hb := fx.2.1
  unfold fX5_holds_13 at hf
  refine lv_iload hx hb dX5_holds_13 (lv_at hl 5 rfl) ?_
  refine lv_iload_n hx hb dX5_holds_15 rfl (lv_at hl 3 rfl) ?_
  refine lv_icmp_ge (tgt := 300) hx hb dX5_holds_16 (by decide) (fun c8 => ?_) (fun c8 => ?_)
  · have hf := it_t c8 hf
    refine lv_iload_n hx hb dX5_holds_300 rfl (lv_at hl 3 rfl) ?_
    refine lv_if_eq (tgt := 313) hx hb dX5_holds_301 (by decide) (fun c9 => ?_) (fun c9 => ?_)
    · have hf := it_t c9 hf
      refine lv_iconst (v := 1) hx hb dX5_holds_313 (by decide) ?_
      refine lv_goto (tgt := 318) hx hb dX5_holds_314 (by decide) ?_
      exact q_retz (fun k : (Nat → Int32) => (wX5_holds cI cJ cZ cS a_t a_s a_keptS a_statuses a_pile a_tape a_steps a_wish a_mark a_bitsOf a_sizeOf a_number a_moved v_isKept v_taped v_at v_fault v_laid v_open v_s k)) fx rfl hf h dX5_holds_318
    have hf := it_f c9 hf
    refine lv_aload_n hx hb dX5_holds_304 rfl (lv_at hl 0 rfl) ?_
    refine q_get (v := .ref a_pile) fx inX5 h 0 rfl rfl 4 (by decide) k_640 rfl dX5_holds_305 ?_
    refine lv_iconst (v := 0) hx hb dX5_holds_308 (by decide) ?_
    refine q_zaldK fx h 2 rfl 0 (vinK (by decide)) (by decide) dX5_holds_309 ?_
    refine lv_if_eq (tgt := 317) hx hb dX5_holds_310 (by decide) (fun c10 => ?_) (fun c10 => ?_)
    · have hf := it_t c10 hf
      refine lv_iconst (v := 0) hx hb dX5_holds_317 (by decide) ?_
      exact q_retz (fun k : (Nat → Int32) => (wX5_holds cI cJ cZ cS a_t a_s a_keptS a_statuses a_pile a_tape a_steps a_wish a_mark a_bitsOf a_sizeOf a_number a_moved v_isKept v_taped v_at v_fault v_laid v_open v_s k)) fx rfl hf h dX5_holds_318
    have hf := it_f c10 hf
    refine lv_iconst (v := 1) hx hb dX5_holds_313 (by decide) ?_
    refine lv_goto (tgt := 318) hx hb dX5_holds_314 (by decide) ?_
    exact q_retz (fun k : (Nat → Int32) => (wX5_holds cI cJ cZ cS a_t a_s a_keptS a_statuses a_pile a_tape a_steps a_wish a_mark a_bitsOf a_sizeOf a_number a_moved v_isKept v_taped v_at v_fault v_laid v_open v_s k)) fx rfl hf h dX5_holds_318
  have hf := it_f c8 hf
  refine lv_aload_n hx hb dX5_holds_19 rfl (lv_at hl 0 rfl) ?_
  refine q_get (v := .ref a_s) fx inX5 h 0 rfl rfl 0 (by decide) k_636 rfl dX5_holds_20 ?_
  refine lv_bipush (v := 26) hx hb dX5_holds_23 (by decide) ?_
  refine lv_bipush (v := 64) hx hb dX5_holds_25 (by decide) ?_
  refine lv_iload_n hx hb dX5_holds_27 rfl (lv_at hl 1 rfl) ?_
  refine lv_imul hx hb dX5_holds_28 ?_
  refine lv_iadd hx hb dX5_holds_29 ?_
  refine lv_iload hx hb dX5_holds_30 (lv_at hl 5 rfl) ?_
  refine lv_iadd hx hb dX5_holds_32 ?_
  obtain ⟨i11, hf⟩ := gIn_inv hf
  refine q_iald fx h 1 rfl i11 dX5_holds_33 ?_
  obtain ⟨u12, eu12, hf⟩ := nm_inv hf
  refine lv_eqi eu12 ?_
  refine lv_istore (lv' := [(6, .int u12), (0, .ref a_t), (1, .int y1), (2, .int y2), (3, .int y3), (4, .int y4), (5, .int y5)]) hx hb dX5_holds_34 hl (by decide) rfl (fun ls hl => ?_)
  refine lv_iload hx hb dX5_holds_36 (lv_at hl 0 rfl) ?_
  refine lv_bipush (v := 8) hx hb dX5_holds_38 (by decide) ?_
  refine lv_icmp_ge (tgt := 62) hx hb dX5_holds_40 (by decide) (fun c13 => ?_) (fun c13 => ?_)
  · have hf := it_t c13 hf
    refine lv_iload hx hb dX5_holds_62 (lv_at hl 0 rfl) ?_
    refine lv_sipush (v := 130) hx hb dX5_holds_64 (by decide) ?_
    refine lv_icmp_ge (tgt := 146) hx hb dX5_holds_67 (by decide) (fun c14 => ?_) (fun c14 => ?_)
    · have hf := it_t c14 hf
      refine lv_iload hx hb dX5_holds_146 (lv_at hl 0 rfl) ?_
      refine lv_sipush (v := 140) hx hb dX5_holds_148 (by decide) ?_
      refine lv_icmp_ge (tgt := 180) hx hb dX5_holds_151 (by decide) (fun c15 => ?_) (fun c15 => ?_)
      · have hf := it_t c15 hf
        refine lv_iload hx hb dX5_holds_180 (lv_at hl 0 rfl) ?_
        refine lv_sipush (v := 140) hx hb dX5_holds_182 (by decide) ?_
        refine lv_icmp_ne (tgt := 217) hx hb dX5_holds_185 (by decide) (fun c16 => ?_) (fun c16 => ?_)
        · have hf := it_f c16 hf
          obtain ⟨u17, eu17, hf⟩ := nm_inv hf
          refine lv_iinc (v := u17) (lv' := [(4, .int u17), (6, .int u12), (0, .ref a_t), (1, .int y1), (2, .int y2), (3, .int y3), (5, .int y5)]) hx hb dX5_holds_217 hl (k := 5) rfl (by rw [eu17]; rfl) (by decide) rfl (fun ls hl => ?_)
          refine lv_aload_n hx hb dX5_holds_220 rfl (lv_at hl 2 rfl) ?_
          refine q_get (v := .ref a_pile) fx inX5 h 0 rfl rfl 4 (by decide) k_640 rfl dX5_holds_221 ?_
          refine lv_iload hx hb dX5_holds_224 (lv_at hl 0 rfl) ?_
          refine lv_iconst (v := 1) hx hb dX5_holds_226 (by decide) ?_
          refine lv_isub hx hb dX5_holds_227 ?_
          refine lv_iload hx hb dX5_holds_228 (lv_at hl 1 rfl) ?_
          refine lv_sipush (v := 141) hx hb dX5_holds_230 (by decide) ?_
          refine lv_icmp_ne (tgt := 266) hx hb dX5_holds_233 (by decide) (fun c18 => ?_) (fun c18 => ?_)
          · have hf := it_f c18 hf
            refine lv_aload_n hx hb dX5_holds_266 rfl (lv_at hl 2 rfl) ?_
            refine q_get (v := .ref a_pile) fx inX5 h 0 rfl rfl 4 (by decide) k_640 rfl dX5_holds_267 ?_
            refine lv_iload hx hb dX5_holds_270 (lv_at hl 0 rfl) ?_
            refine lv_iconst (v := 1) hx hb dX5_holds_272 (by decide) ?_
            refine lv_isub hx hb dX5_holds_273 ?_
            obtain ⟨i19, hf⟩ := gIn_inv hf
            refine q_zald fx h 2 rfl i19 dX5_holds_274 ?_
            refine lv_if_ne (tgt := 288) hx hb dX5_holds_275 (by decide) (fun c20 => ?_) (fun c20 => ?_)
            · have hf := it_f c20 hf
              exact LX5_holds_288 fx hag13 h (lv_sub hl [2, 3, 4, 5, 0, 6] rfl) hf
            have hf := it_t c20 hf
            refine lv_aload_n hx hb dX5_holds_278 rfl (lv_at hl 2 rfl) ?_
            refine q_get (v := .ref a_pile) fx inX5 h 0 rfl rfl 4 (by decide) k_640 rfl dX5_holds_279 ?_
            refine lv_iload hx hb dX5_holds_282 (lv_at hl 0 rfl) ?_
            obtain ⟨i21, hf⟩ := gIn_inv hf
            refine q_zald fx h 2 rfl i21 dX5_holds_284 ?_
            refine lv_if_eq (tgt := 292) hx hb dX5_holds_285 (by decide) (fun c22 => ?_) (fun c22 => ?_)
            · have hf := it_t c22 hf
              refine lv_iconst (v := 0) hx hb dX5_holds_292 (by decide) ?_
              exact LX5_holds_293 fx hag13 h (lv_sub hl [2, 3, 4, 5, 0, 6] rfl) hf
            have hf := it_f c22 hf
            exact LX5_holds_288 fx hag13 h (lv_sub hl [2, 3, 4, 5, 0, 6] rfl) hf
          have hf := it_t c18 hf
          refine lv_aload_n hx hb dX5_holds_236 rfl (lv_at hl 2 rfl) ?_
          refine q_get (v := .ref a_pile) fx inX5 h 0 rfl rfl 4 (by decide) k_640 rfl dX5_holds_237 ?_
          refine lv_iload hx hb dX5_holds_240 (lv_at hl 0 rfl) ?_
          refine lv_iconst (v := 1) hx hb dX5_holds_242 (by decide) ?_
          refine lv_isub hx hb dX5_holds_243 ?_
          obtain ⟨i23, hf⟩ := gIn_inv hf
          refine q_zald fx h 2 rfl i23 dX5_holds_244 ?_
          refine lv_if_eq (tgt := 262) hx hb dX5_holds_245 (by decide) (fun c24 => ?_) (fun c24 => ?_)
          · have hf := it_t c24 hf
            exact LX5_holds_262 fx hag13 h (lv_sub hl [2, 3, 4, 5, 0, 6] rfl) hf
          have hf := it_f c24 hf
          refine lv_aload_n hx hb dX5_holds_248 rfl (lv_at hl 2 rfl) ?_
          refine q_get (v := .ref a_pile) fx inX5 h 0 rfl rfl 4 (by decide) k_640 rfl dX5_holds_249 ?_
          refine lv_iload hx hb dX5_holds_252 (lv_at hl 0 rfl) ?_
          obtain ⟨i25, hf⟩ := gIn_inv hf
          refine q_zald fx h 2 rfl i25 dX5_holds_254 ?_
          refine lv_if_eq (tgt := 262) hx hb dX5_holds_255 (by decide) (fun c26 => ?_) (fun c26 => ?_)
          · have hf := it_t c26 hf
            exact LX5_holds_262 fx hag13 h (lv_sub hl [2, 3, 4, 5, 0, 6] rfl) hf
          have hf := it_f c26 hf
          refine lv_iconst (v := 1) hx hb dX5_holds_258 (by decide) ?_
          refine lv_goto (tgt := 293) hx hb dX5_holds_259 (by decide) ?_
          exact LX5_holds_293 fx hag13 h (lv_sub hl [2, 3, 4, 5, 0, 6] rfl) hf
        have hf := it_t c16 hf
        refine lv_aload_n hx hb dX5_holds_188 rfl (lv_at hl 1 rfl) ?_
        refine q_get (v := .ref a_pile) fx inX5 h 0 rfl rfl 4 (by decide) k_640 rfl dX5_holds_189 ?_
        refine lv_iload hx hb dX5_holds_192 (lv_at hl 5 rfl) ?_
        refine lv_iconst (v := 1) hx hb dX5_holds_194 (by decide) ?_
        refine lv_isub hx hb dX5_holds_195 ?_
        refine lv_aload_n hx hb dX5_holds_196 rfl (lv_at hl 1 rfl) ?_
        refine q_get (v := .ref a_pile) fx inX5 h 0 rfl rfl 4 (by decide) k_640 rfl dX5_holds_197 ?_
        refine lv_iload hx hb dX5_holds_200 (lv_at hl 5 rfl) ?_
        refine lv_iconst (v := 1) hx hb dX5_holds_202 (by decide) ?_
        refine lv_isub hx hb dX5_holds_203 ?_
        obtain ⟨i27, hf⟩ := gIn_inv hf
        refine q_zald fx h 2 rfl i27 dX5_holds_204 ?_
        refine lv_if_ne (tgt := 212) hx hb dX5_holds_205 (by decide) (fun c28 => ?_) (fun c28 => ?_)
        · have hf := it_f c28 hf
          refine lv_iconst (v := 0) hx hb dX5_holds_212 (by decide) ?_
          exact LX5_holds_213 fx hag13 h (lv_sub hl [1, 2, 3, 4, 5, 6] rfl) hf
        have hf := it_t c28 hf
        refine lv_iconst (v := 1) hx hb dX5_holds_208 (by decide) ?_
        refine lv_goto (tgt := 213) hx hb dX5_holds_209 (by decide) ?_
        exact LX5_holds_213 fx hag13 h (lv_sub hl [1, 2, 3, 4, 5, 6] rfl) hf
      have hf := it_f c15 hf
      refine lv_aload_n hx hb dX5_holds_154 rfl (lv_at hl 1 rfl) ?_
      refine q_get (v := .ref a_pile) fx inX5 h 0 rfl rfl 4 (by decide) k_640 rfl dX5_holds_155 ?_
      refine lv_iload hx hb dX5_holds_158 (lv_at hl 5 rfl) ?_
      refine lv_iload hx hb dX5_holds_160 (lv_at hl 0 rfl) ?_
      refine lv_sipush (v := 130) hx hb dX5_holds_162 (by decide) ?_
      refine lv_icmp_ne (tgt := 172) hx hb dX5_holds_165 (by decide) (fun c29 => ?_) (fun c29 => ?_)
      · have hf := it_f c29 hf
        refine lv_iconst (v := 0) hx hb dX5_holds_172 (by decide) ?_
        exact LX5_holds_173 fx hag13 h (lv_sub hl [1, 2, 3, 4, 5, 6] rfl) hf
      have hf := it_t c29 hf
      refine lv_iconst (v := 1) hx hb dX5_holds_168 (by decide) ?_
      refine lv_goto (tgt := 173) hx hb dX5_holds_169 (by decide) ?_
      exact LX5_holds_173 fx hag13 h (lv_sub hl [1, 2, 3, 4, 5, 6] rfl) hf
    have hf := it_f c14 hf
    refine lv_iload_n hx hb dX5_holds_70 rfl (lv_at hl 2 rfl) ?_
    refine lv_iload_n hx hb dX5_holds_71 rfl (lv_at hl 3 rfl) ?_
    obtain ⟨r30, k30, hg, hf⟩ := bR_inv hf
    refine q_ci (rest := []) (ws' := (wX5_holds cI cJ cZ cS a_t a_s a_keptS a_statuses a_pile a_tape a_steps a_wish a_mark a_bitsOf a_sizeOf a_number a_moved v_isKept v_taped v_at v_fault v_laid v_open v_s v_pile)) (w1 := (wX5_others cI cJ cZ cS)) fx h [] rfl rfl rfl rfl (q_runS fx h hl.1 [] rfl rfl (tX5_others l D cI cJ cZ cS tb H.size y1 y2 r30 k30 hg) msX5_others k_719 ⟨rfl, rfl⟩ ⟨Nat.le_of_ble_eq_true rfl, Nat.le_of_ble_eq_true rfl⟩ rfl rfl (Nat.le_of_ble_eq_true rfl) dX5_holds_72 ⟨Nat.le_of_ble_eq_true rfl, Nat.le_of_ble_eq_true rfl⟩) (fun H locs h => ?_)
    refine lv_iload hx hb dX5_holds_75 (lv_at hl 0 rfl) ?_
    refine lv_bipush (v := 10) hx hb dX5_holds_77 (by decide) ?_
    refine lv_irem hx hb dX5_holds_79 (by decide) ?_
    refine lv_isub hx hb dX5_holds_80 ?_
    obtain ⟨u31, eu31, hf⟩ := nm_inv hf
    refine lv_eqi eu31 ?_
    refine lv_istore (lv' := [(7, .int u31), (6, .int u12), (0, .ref a_t), (1, .int y1), (2, .int y2), (3, .int y3), (4, .int y4), (5, .int y5)]) hx hb dX5_holds_81 hl (by decide) rfl (fun ls hl => ?_)
    refine lv_aload_n hx hb dX5_holds_83 rfl (lv_at hl 2 rfl) ?_
    refine q_get (v := .ref a_pile) fx inX5 h 0 rfl rfl 4 (by decide) k_640 rfl dX5_holds_84 ?_
    refine lv_iload hx hb dX5_holds_87 (lv_at hl 6 rfl) ?_
    refine lv_iload hx hb dX5_holds_89 (lv_at hl 1 rfl) ?_
    refine lv_bipush (v := 110) hx hb dX5_holds_91 (by decide) ?_
    refine lv_icmp_ge (tgt := 109) hx hb dX5_holds_93 (by decide) (fun c32 => ?_) (fun c32 => ?_)
    · have hf := it_t c32 hf
      refine lv_iload hx hb dX5_holds_109 (lv_at hl 1 rfl) ?_
      refine lv_bipush (v := 120) hx hb dX5_holds_111 (by decide) ?_
      refine lv_icmp_ge (tgt := 129) hx hb dX5_holds_113 (by decide) (fun c33 => ?_) (fun c33 => ?_)
      · have hf := it_t c33 hf
        refine lv_iload hx hb dX5_holds_129 (lv_at hl 0 rfl) ?_
        refine lv_if_le (tgt := 138) hx hb dX5_holds_131 (by decide) (fun c34 => ?_) (fun c34 => ?_)
        · have hf := it_t c34 hf
          refine lv_iconst (v := 0) hx hb dX5_holds_138 (by decide) ?_
          exact LX5_holds_139 fx hag13 h (lv_sub hl [2, 3, 4, 5, 6, 7] rfl) hf
        have hf := it_f c34 hf
        refine lv_iconst (v := 1) hx hb dX5_holds_134 (by decide) ?_
        refine lv_goto (tgt := 139) hx hb dX5_holds_135 (by decide) ?_
        exact LX5_holds_139 fx hag13 h (lv_sub hl [2, 3, 4, 5, 6, 7] rfl) hf
      have hf := it_f c33 hf
      refine lv_iload hx hb dX5_holds_116 (lv_at hl 0 rfl) ?_
      refine lv_if_ne (tgt := 125) hx hb dX5_holds_118 (by decide) (fun c35 => ?_) (fun c35 => ?_)
      · have hf := it_f c35 hf
        refine lv_iconst (v := 0) hx hb dX5_holds_125 (by decide) ?_
        refine lv_goto (tgt := 139) hx hb dX5_holds_126 (by decide) ?_
        exact LX5_holds_139 fx hag13 h (lv_sub hl [2, 3, 4, 5, 6, 7] rfl) hf
      have hf := it_t c35 hf
      refine lv_iconst (v := 1) hx hb dX5_holds_121 (by decide) ?_
      refine lv_goto (tgt := 139) hx hb dX5_holds_122 (by decide) ?_
      exact LX5_holds_139 fx hag13 h (lv_sub hl [2, 3, 4, 5, 6, 7] rfl) hf
    have hf := it_f c32 hf
    refine lv_iload hx hb dX5_holds_96 (lv_at hl 0 rfl) ?_
    refine lv_if_ge (tgt := 105) hx hb dX5_holds_98 (by decide) (fun c36 => ?_) (fun c36 => ?_)
    · have hf := it_t c36 hf
      refine lv_iconst (v := 0) hx hb dX5_holds_105 (by decide) ?_
      refine lv_goto (tgt := 139) hx hb dX5_holds_106 (by decide) ?_
      exact LX5_holds_139 fx hag13 h (lv_sub hl [2, 3, 4, 5, 6, 7] rfl) hf
    have hf := it_f c36 hf
    refine lv_iconst (v := 1) hx hb dX5_holds_101 (by decide) ?_
    refine lv_goto (tgt := 139) hx hb dX5_holds_102 (by decide) ?_
    exact LX5_holds_139 fx hag13 h (lv_sub hl [2, 3, 4, 5, 6, 7] rfl) hf
  have hf := it_f c13 hf
  refine lv_aload_n hx hb dX5_holds_43 rfl (lv_at hl 1 rfl) ?_
  refine q_get (v := .ref a_pile) fx inX5 h 0 rfl rfl 4 (by decide) k_640 rfl dX5_holds_44 ?_
  refine lv_iload hx hb dX5_holds_47 (lv_at hl 5 rfl) ?_
  refine lv_iload_n hx hb dX5_holds_49 rfl (lv_at hl 3 rfl) ?_
  refine lv_iload hx hb dX5_holds_50 (lv_at hl 0 rfl) ?_
  obtain ⟨r37, k37, hg, hf⟩ := bR_inv hf
  refine q_ci (rest := [.int y4, .ref a_pile]) (ws' := (wX5_holds cI cJ cZ cS a_t a_s a_keptS a_statuses a_pile a_tape a_steps a_wish a_mark a_bitsOf a_sizeOf a_number a_moved v_isKept v_taped v_at v_fault v_laid v_open v_s v_pile)) (w1 := (wX5_has cI cJ cZ cS)) fx h [] rfl rfl rfl rfl (q_runS fx h hl.1 [] rfl rfl (tX5_has l D cI cJ cZ cS tb H.size y2 u12 r37 k37 hg) msX5_has k_733 ⟨rfl, rfl⟩ ⟨Nat.le_of_ble_eq_true rfl, Nat.le_of_ble_eq_true rfl⟩ rfl rfl (Nat.le_of_ble_eq_true rfl) dX5_holds_52 ⟨Nat.le_of_ble_eq_true rfl, Nat.le_of_ble_eq_true rfl⟩) (fun H locs h => ?_)
  obtain ⟨i38, hf⟩ := gIn_inv hf
  refine q_zast (ws' := (wX5_holds cI cJ cZ cS a_t a_s a_keptS a_statuses a_pile a_tape a_steps a_wish a_mark a_bitsOf a_sizeOf a_number a_moved v_isKept v_taped v_at v_fault v_laid v_open v_s (upd v_pile y4.toNatClampNeg (vp_nar .boolean r37)))) fx h 2 rfl i38 rfl dX5_holds_55 (fun H locs h => ?_)
  obtain ⟨u39, eu39, hf⟩ := nm_inv hf
  refine lv_iinc (v := u39) (lv' := [(4, .int u39), (6, .int u12), (0, .ref a_t), (1, .int y1), (2, .int y2), (3, .int y3), (5, .int y5)]) hx hb dX5_holds_56 hl (k := 5) rfl (by rw [eu39]; rfl) (by decide) rfl (fun ls hl => ?_)
  refine lv_goto (tgt := 294) hx hb dX5_holds_59 (by decide) ?_
  exact LX5_holds_294 fx hag13 h (lv_sub hl [2, 3, 4, 5, 0, 6] rfl) hf
set_option maxRecDepth 100000 in
theorem EX5_holds_13 {p : Program} {l : Launch} {e : Env} {s : State} {m : MethodId} {args : Array Value} {below : List Frame} {meth : Method} {c : Code} {D : va_G} {cI cJ cZ cS : ClassId} {tb : Nat} {A : Nat → Prop} {a_t a_s a_keptS a_statuses a_pile a_tape a_steps a_wish a_mark a_bitsOf a_sizeOf a_number a_moved : Nat} {v_isKept : Int32} {v_taped : Int32} {v_at : Int32} {v_fault : Int32} {v_laid : Int32} {v_open : Int32} {v_s : Nat → Int32} {rr : Int32} {kk' : (Nat → Int32)} (fx : q_Fx p s m args meth c cX5_holds 8 RX5 (some .boolean) D cI cJ cZ cS tb A) : ∀ (n : Nat), ∀ {v_pile : Nat → Int32} {y1 : Int32} {y2 : Int32} {y3 : Int32} {y4 : Int32} {y5 : Int32} {H : Heap} {locs : List Loc} {ls : Array Slot}, q_H D A s (wX5_holds cI cJ cZ cS a_t a_s a_keptS a_statuses a_pile a_tape a_steps a_wish a_mark a_bitsOf a_sizeOf a_number a_moved v_isKept v_taped v_at v_fault v_laid v_open v_s v_pile) H locs → lv_has ls 8 [(0, .ref a_t), (1, .int y1), (2, .int y2), (3, .int y3), (4, .int y4), (5, .int y5)] → ll6 (fX5_holds_13 v_s) n v_pile y1 y2 y3 y4 y5 = some (rr, kk') → W p l e rX5_holds s m args below meth c H locs 0 0 (MQ below (q_Ri D rr A ((fun k : (Nat → Int32) => (wX5_holds cI cJ cZ cS a_t a_s a_keptS a_statuses a_pile a_tape a_steps a_wish a_mark a_bitsOf a_sizeOf a_number a_moved v_isKept v_taped v_at v_fault v_laid v_open v_s k)) kk')) args s 0 0 A) (F0 m 13 ls []) := by
  intro n
  induction n with
  | zero => intro v_pile y1 y2 y3 y4 y5 H locs ls h hl hf; exact (ll6_z hf).elim
  | succ n ih => intro v_pile y1 y2 y3 y4 y5 H locs ls h hl hf; exact LX5_holds_13 fx ih h hl (ll6_s hf)
def fX5_holds (v_s : Nat → Int32) (v_pile : Nat → Int32) (x1 : Int32) (x2 : Int32) : Option (Int32 × (Nat → Int32)) :=
  bR (fX5_its v_s x1 2) (fun r40 k40 =>
  ll6 (fX5_holds_13 v_s) qF v_pile x1 x2 r40 0 0)
set_option maxRecDepth 100000 in
set_option maxHeartbeats 4000000 in
theorem tX5_holds (l : Launch) (D : va_G) (cI cJ cZ cS : ClassId) (tb : Nat) (a_t a_s a_keptS a_statuses a_pile a_tape a_steps a_wish a_mark a_bitsOf a_sizeOf a_number a_moved : Nat) (sz : Nat) (v_isKept : Int32) (v_taped : Int32) (v_at : Int32) (v_fault : Int32) (v_laid : Int32) (v_open : Int32) (v_s : Nat → Int32) (v_pile : Nat → Int32) (x1 : Int32) (x2 : Int32) (rr : Int32) (kk' : (Nat → Int32)) (hf : fX5_holds v_s v_pile x1 x2 = some (rr, kk')) : Met l yX5_holds (Cond.code yX5_holds cX5_holds 8 (some .boolean) :: wA) rX5_holds (q_Pre D cI cJ cZ cS tb [.ref a_t, .int x1, .int x2] sz (wX5_holds cI cJ cZ cS a_t a_s a_keptS a_statuses a_pile a_tape a_steps a_wish a_mark a_bitsOf a_sizeOf a_number a_moved v_isKept v_taped v_at v_fault v_laid v_open v_s v_pile)) (q_Ri D rr (va_A (wX5_holds cI cJ cZ cS a_t a_s a_keptS a_statuses a_pile a_tape a_steps a_wish a_mark a_bitsOf a_sizeOf a_number a_moved v_isKept v_taped v_at v_fault v_laid v_open v_s v_pile) sz) ((fun k : (Nat → Int32) => (wX5_holds cI cJ cZ cS a_t a_s a_keptS a_statuses a_pile a_tape a_steps a_wish a_mark a_bitsOf a_sizeOf a_number a_moved v_isKept v_taped v_at v_fault v_laid v_open v_s k)) kk')) 0 0 (va_A (wX5_holds cI cJ cZ cS a_t a_s a_keptS a_statuses a_pile a_tape a_steps a_wish a_mark a_bitsOf a_sizeOf a_number a_moved v_isKept v_taped v_at v_fault v_laid v_open v_s v_pile) sz) := by
  refine q_enter (Qf := fun A => (q_Ri D rr A ((fun k : (Nat → Int32) => (wX5_holds cI cJ cZ cS a_t a_s a_keptS a_statuses a_pile a_tape a_steps a_wish a_mark a_bitsOf a_sizeOf a_number a_moved v_isKept v_taped v_at v_fault v_laid v_open v_s k)) kk'))) (by decide) rfl (Nat.le_of_ble_eq_true rfl) ?_
  intro p e s m below meth c A ls fx hname h hl
  have hx := fx.1
  have hb := fx.2.1
  have hl : lv_has ls 8 [(0, .ref a_t), (1, .int x1), (2, .int x2)] := hl
  generalize h9 : s.heap = H at h ⊢
  clear h9
  generalize h9 : ([] : List Loc) = locs at h ⊢
  clear h9
  unfold fX5_holds at hf
  refine lv_aload_n hx hb dX5_holds_0 rfl (lv_at hl 0 rfl) ?_
  refine lv_iload_n hx hb dX5_holds_1 rfl (lv_at hl 1 rfl) ?_
  refine lv_iconst (v := 2) hx hb dX5_holds_2 (by decide) ?_
  obtain ⟨r40, k40, hg, hf⟩ := bR_inv hf
  refine q_ci (rest := []) (ws' := (wX5_holds cI cJ cZ cS a_t a_s a_keptS a_statuses a_pile a_tape a_steps a_wish a_mark a_bitsOf a_sizeOf a_number a_moved v_isKept v_taped v_at v_fault v_laid v_open v_s v_pile)) (w1 := (wX5_its cI cJ cZ cS a_t a_s a_keptS a_statuses a_pile a_tape a_steps a_wish a_mark a_bitsOf a_sizeOf a_number a_moved v_isKept v_taped v_at v_fault v_laid v_open v_s)) fx h [0, 1] rfl rfl rfl rfl (q_runV fx h hl.1 [0, 1] rfl rfl (tX5_its l D cI cJ cZ cS tb a_t a_s a_keptS a_statuses a_pile a_tape a_steps a_wish a_mark a_bitsOf a_sizeOf a_number a_moved H.size v_isKept v_taped v_at v_fault v_laid v_open v_s x1 2 r40 k40 hg) mvX5_its k_725 ⟨rfl, rfl⟩ ⟨Nat.le_of_ble_eq_true rfl, Nat.le_of_ble_eq_true rfl⟩ rfl rfl rfl rfl (Nat.le_of_ble_eq_true rfl) dX5_holds_3 ⟨Nat.le_of_ble_eq_true rfl, Nat.le_of_ble_eq_true rfl⟩) (fun H locs h => ?_)
  refine lv_istore_n (lv' := [(3, .int r40), (0, .ref a_t), (1, .int x1), (2, .int x2)]) hx hb dX5_holds_6 rfl hl (by decide) rfl (fun ls hl => ?_)
  refine lv_iconst (v := 0) hx hb dX5_holds_7 (by decide) ?_
  refine lv_istore (lv' := [(4, .int 0), (3, .int r40), (0, .ref a_t), (1, .int x1), (2, .int x2)]) hx hb dX5_holds_8 hl (by decide) rfl (fun ls hl => ?_)
  refine lv_iconst (v := 0) hx hb dX5_holds_10 (by decide) ?_
  refine lv_istore (lv' := [(5, .int 0), (4, .int 0), (3, .int r40), (0, .ref a_t), (1, .int x1), (2, .int x2)]) hx hb dX5_holds_11 hl (by decide) rfl (fun ls hl => ?_)
  exact EX5_holds_13 fx qF h (lv_sub hl [3, 4, 5, 2, 1, 0] rfl) hf
/-! X5_comesBy -/
abbrev wX5_comesBy (cI cJ cZ cS : ClassId) (a_t a_s a_keptS a_statuses a_pile a_tape a_steps a_wish a_mark a_bitsOf a_sizeOf a_number a_moved : Nat) (v_isKept : Int32) (v_taped : Int32) (v_at : Int32) (v_fault : Int32) (v_laid : Int32) (v_open : Int32) (v_s : Nat → Int32) (v_pile : Nat → Int32) : va_W := [(a_t, .inr (5, [.ref a_s, .ref a_keptS, .ref a_statuses, .int v_isKept, .ref a_pile, .ref a_tape, .ref a_steps, .int v_taped, .int v_at, .int v_fault, .int v_laid, .int v_open, .ref a_wish, .ref a_mark, .ref a_bitsOf, .ref a_sizeOf, .ref a_number, .ref a_moved])), (a_s, .inl (cI, 538, .inl v_s)), (a_pile, .inl (cZ, 64, .inl v_pile))]
abbrev rX5_comesBy : Room := { frames := 3, cells := 0, slots := 0, locals := 70 }
def fX5_comesBy (v_s : Nat → Int32) (v_pile : Nat → Int32) (x1 : Int32) (x2 : Int32) : Option (Int32 × (Nat → Int32)) :=
  bR (fX5_others x1 x2) (fun r1 k1 =>
  bR (fX5_its v_s x1 0) (fun r2 k2 =>
  (if (r2).toInt < 1 ∨ 5 < (r2).toInt then (
  bR (fX5_holds v_s v_pile x1 x2) (fun r4 k4 =>
  gB r4 (some (r4, k4))))
  else (if r2 = 1 then (
  (if (3 : Int32) < r1 then (
  some (1, v_pile))
  else (
  bR (fX5_holds v_s v_pile x1 x2) (fun r8 k8 =>
  (if r8 = 0 then (
  some (0, k8))
  else (
  some (1, k8)))))))
  else (if r2 = 2 then (
  (if (5 : Int32) ≤ r1 then (
  some (0, v_pile))
  else (
  bR (fX5_holds v_s v_pile x1 x2) (fun r12 k12 =>
  (if r12 = 0 then (
  some (0, k12))
  else (
  some (1, k12)))))))
  else (if r2 = 3 then (
  some (0, v_pile))
  else (if r2 = 4 then (
  (if (3 : Int32) < r1 then (
  some (1, v_pile))
  else (
  (if r1 = 0 then (
  some (1, v_pile))
  else (
  bR (fX5_holds v_s v_pile x1 x2) (fun r18 k18 =>
  (if r18 = 0 then (
  some (0, k18))
  else (
  some (1, k18)))))))))
  else (if r2 = 5 then (
  (if (4 : Int32) < r1 then (
  some (1, v_pile))
  else (
  bR (fX5_holds v_s v_pile x1 x2) (fun r22 k22 =>
  (if r22 = 0 then (
  some (1, k22))
  else (
  some (0, k22)))))))
  else none))))))))
set_option maxRecDepth 100000 in
set_option maxHeartbeats 4000000 in
theorem tX5_comesBy (l : Launch) (D : va_G) (cI cJ cZ cS : ClassId) (tb : Nat) (a_t a_s a_keptS a_statuses a_pile a_tape a_steps a_wish a_mark a_bitsOf a_sizeOf a_number a_moved : Nat) (sz : Nat) (v_isKept : Int32) (v_taped : Int32) (v_at : Int32) (v_fault : Int32) (v_laid : Int32) (v_open : Int32) (v_s : Nat → Int32) (v_pile : Nat → Int32) (x1 : Int32) (x2 : Int32) (rr : Int32) (kk' : (Nat → Int32)) (hf : fX5_comesBy v_s v_pile x1 x2 = some (rr, kk')) : Met l yX5_comesBy (Cond.code yX5_comesBy cX5_comesBy 4 (some .boolean) :: wA) rX5_comesBy (q_Pre D cI cJ cZ cS tb [.ref a_t, .int x1, .int x2] sz (wX5_comesBy cI cJ cZ cS a_t a_s a_keptS a_statuses a_pile a_tape a_steps a_wish a_mark a_bitsOf a_sizeOf a_number a_moved v_isKept v_taped v_at v_fault v_laid v_open v_s v_pile)) (q_Ri D rr (va_A (wX5_comesBy cI cJ cZ cS a_t a_s a_keptS a_statuses a_pile a_tape a_steps a_wish a_mark a_bitsOf a_sizeOf a_number a_moved v_isKept v_taped v_at v_fault v_laid v_open v_s v_pile) sz) ((fun k : (Nat → Int32) => (wX5_comesBy cI cJ cZ cS a_t a_s a_keptS a_statuses a_pile a_tape a_steps a_wish a_mark a_bitsOf a_sizeOf a_number a_moved v_isKept v_taped v_at v_fault v_laid v_open v_s k)) kk')) 0 0 (va_A (wX5_comesBy cI cJ cZ cS a_t a_s a_keptS a_statuses a_pile a_tape a_steps a_wish a_mark a_bitsOf a_sizeOf a_number a_moved v_isKept v_taped v_at v_fault v_laid v_open v_s v_pile) sz) := by
  refine q_enter (Qf := fun A => (q_Ri D rr A ((fun k : (Nat → Int32) => (wX5_comesBy cI cJ cZ cS a_t a_s a_keptS a_statuses a_pile a_tape a_steps a_wish a_mark a_bitsOf a_sizeOf a_number a_moved v_isKept v_taped v_at v_fault v_laid v_open v_s k)) kk'))) (by decide) rfl (Nat.le_of_ble_eq_true rfl) ?_
  intro p e s m below meth c A ls fx hname h hl
  have hx := fx.1
  have hb := fx.2.1
  have hl : lv_has ls 4 [(0, .ref a_t), (1, .int x1), (2, .int x2)] := hl
  generalize h9 : s.heap = H at h ⊢
  clear h9
  generalize h9 : ([] : List Loc) = locs at h ⊢
  clear h9
  unfold fX5_comesBy at hf
  refine lv_iload_n hx hb dX5_comesBy_0 rfl (lv_at hl 1 rfl) ?_
  refine lv_iload_n hx hb dX5_comesBy_1 rfl (lv_at hl 2 rfl) ?_
  obtain ⟨r1, k1, hg, hf⟩ := bR_inv hf
  refine q_ci (rest := []) (ws' := (wX5_comesBy cI cJ cZ cS a_t a_s a_keptS a_statuses a_pile a_tape a_steps a_wish a_mark a_bitsOf a_sizeOf a_number a_moved v_isKept v_taped v_at v_fault v_laid v_open v_s v_pile)) (w1 := (wX5_others cI cJ cZ cS)) fx h [] rfl rfl rfl rfl (q_runS fx h hl.1 [] rfl rfl (tX5_others l D cI cJ cZ cS tb H.size x1 x2 r1 k1 hg) msX5_others k_719 ⟨rfl, rfl⟩ ⟨Nat.le_of_ble_eq_true rfl, Nat.le_of_ble_eq_true rfl⟩ rfl rfl (Nat.le_of_ble_eq_true rfl) dX5_comesBy_2 ⟨Nat.le_of_ble_eq_true rfl, Nat.le_of_ble_eq_true rfl⟩) (fun H locs h => ?_)
  refine lv_istore_n (lv' := [(3, .int r1), (0, .ref a_t), (1, .int x1), (2, .int x2)]) hx hb dX5_comesBy_5 rfl hl (by decide) rfl (fun ls hl => ?_)
  refine lv_aload_n hx hb dX5_comesBy_6 rfl (lv_at hl 1 rfl) ?_
  refine lv_iload_n hx hb dX5_comesBy_7 rfl (lv_at hl 2 rfl) ?_
  refine lv_iconst (v := 0) hx hb dX5_comesBy_8 (by decide) ?_
  obtain ⟨r2, k2, hg, hf⟩ := bR_inv hf
  refine q_ci (rest := []) (ws' := (wX5_comesBy cI cJ cZ cS a_t a_s a_keptS a_statuses a_pile a_tape a_steps a_wish a_mark a_bitsOf a_sizeOf a_number a_moved v_isKept v_taped v_at v_fault v_laid v_open v_s v_pile)) (w1 := (wX5_its cI cJ cZ cS a_t a_s a_keptS a_statuses a_pile a_tape a_steps a_wish a_mark a_bitsOf a_sizeOf a_number a_moved v_isKept v_taped v_at v_fault v_laid v_open v_s)) fx h [0, 1] rfl rfl rfl rfl (q_runV fx h hl.1 [0, 1] rfl rfl (tX5_its l D cI cJ cZ cS tb a_t a_s a_keptS a_statuses a_pile a_tape a_steps a_wish a_mark a_bitsOf a_sizeOf a_number a_moved H.size v_isKept v_taped v_at v_fault v_laid v_open v_s x1 0 r2 k2 hg) mvX5_its k_725 ⟨rfl, rfl⟩ ⟨Nat.le_of_ble_eq_true rfl, Nat.le_of_ble_eq_true rfl⟩ rfl rfl rfl rfl (Nat.le_of_ble_eq_true rfl) dX5_comesBy_9 ⟨Nat.le_of_ble_eq_true rfl, Nat.le_of_ble_eq_true rfl⟩) (fun H locs h => ?_)
  rcases it_or hf with ⟨c3, hf⟩ | ⟨c3, hf⟩
  · refine lv_tableOut (tgt := 134) hx hb dX5_comesBy_12 c3 (by decide) ?_
    refine lv_aload_n hx hb dX5_comesBy_134 rfl (lv_at hl 1 rfl) ?_
    refine lv_iload_n hx hb dX5_comesBy_135 rfl (lv_at hl 2 rfl) ?_
    refine lv_iload_n hx hb dX5_comesBy_136 rfl (lv_at hl 3 rfl) ?_
    obtain ⟨r4, k4, hg, hf⟩ := bR_inv hf
    refine q_ci (rest := []) (ws' := (wX5_comesBy cI cJ cZ cS a_t a_s a_keptS a_statuses a_pile a_tape a_steps a_wish a_mark a_bitsOf a_sizeOf a_number a_moved v_isKept v_taped v_at v_fault v_laid v_open v_s k4)) (w1 := (wX5_holds cI cJ cZ cS a_t a_s a_keptS a_statuses a_pile a_tape a_steps a_wish a_mark a_bitsOf a_sizeOf a_number a_moved v_isKept v_taped v_at v_fault v_laid v_open v_s k4)) fx h [0, 1, 2] rfl rfl rfl rfl (q_runV fx h hl.1 [0, 1, 2] rfl rfl (tX5_holds l D cI cJ cZ cS tb a_t a_s a_keptS a_statuses a_pile a_tape a_steps a_wish a_mark a_bitsOf a_sizeOf a_number a_moved H.size v_isKept v_taped v_at v_fault v_laid v_open v_s v_pile x1 x2 r4 k4 hg) mvX5_holds k_729 ⟨rfl, rfl⟩ ⟨Nat.le_of_ble_eq_true rfl, Nat.le_of_ble_eq_true rfl⟩ rfl rfl rfl rfl (Nat.le_of_ble_eq_true rfl) dX5_comesBy_137 ⟨Nat.le_of_ble_eq_true rfl, Nat.le_of_ble_eq_true rfl⟩) (fun H locs h => ?_)
    obtain ⟨b5, hf⟩ := gB_inv hf
    exact q_retz (fun k : (Nat → Int32) => (wX5_comesBy cI cJ cZ cS a_t a_s a_keptS a_statuses a_pile a_tape a_steps a_wish a_mark a_bitsOf a_sizeOf a_number a_moved v_isKept v_taped v_at v_fault v_laid v_open v_s k)) fx b5 hf h dX5_comesBy_140
  have c3 := not_or.mp c3
  rcases it_or hf with ⟨c6, hf⟩ | ⟨c6, hf⟩
  · refine lv_tableIn (off := 36) (tgt := 48) hx hb dX5_comesBy_12 c3.1 c3.2 (by rw [c6]; rfl) (by decide) ?_
    refine lv_iload_n hx hb dX5_comesBy_48 rfl (lv_at hl 0 rfl) ?_
    refine lv_iconst (v := 3) hx hb dX5_comesBy_49 (by decide) ?_
    refine lv_icmp_gt (tgt := 62) hx hb dX5_comesBy_50 (by decide) (fun c7 => ?_) (fun c7 => ?_)
    · have hf := it_t c7 hf
      refine lv_iconst (v := 1) hx hb dX5_comesBy_62 (by decide) ?_
      refine lv_goto (tgt := 67) hx hb dX5_comesBy_63 (by decide) ?_
      exact q_retz (fun k : (Nat → Int32) => (wX5_comesBy cI cJ cZ cS a_t a_s a_keptS a_statuses a_pile a_tape a_steps a_wish a_mark a_bitsOf a_sizeOf a_number a_moved v_isKept v_taped v_at v_fault v_laid v_open v_s k)) fx rfl hf h dX5_comesBy_67
    have hf := it_f c7 hf
    refine lv_aload_n hx hb dX5_comesBy_53 rfl (lv_at hl 1 rfl) ?_
    refine lv_iload_n hx hb dX5_comesBy_54 rfl (lv_at hl 2 rfl) ?_
    refine lv_iload_n hx hb dX5_comesBy_55 rfl (lv_at hl 3 rfl) ?_
    obtain ⟨r8, k8, hg, hf⟩ := bR_inv hf
    refine q_ci (rest := []) (ws' := (wX5_comesBy cI cJ cZ cS a_t a_s a_keptS a_statuses a_pile a_tape a_steps a_wish a_mark a_bitsOf a_sizeOf a_number a_moved v_isKept v_taped v_at v_fault v_laid v_open v_s k8)) (w1 := (wX5_holds cI cJ cZ cS a_t a_s a_keptS a_statuses a_pile a_tape a_steps a_wish a_mark a_bitsOf a_sizeOf a_number a_moved v_isKept v_taped v_at v_fault v_laid v_open v_s k8)) fx h [0, 1, 2] rfl rfl rfl rfl (q_runV fx h hl.1 [0, 1, 2] rfl rfl (tX5_holds l D cI cJ cZ cS tb a_t a_s a_keptS a_statuses a_pile a_tape a_steps a_wish a_mark a_bitsOf a_sizeOf a_number a_moved H.size v_isKept v_taped v_at v_fault v_laid v_open v_s v_pile x1 x2 r8 k8 hg) mvX5_holds k_729 ⟨rfl, rfl⟩ ⟨Nat.le_of_ble_eq_true rfl, Nat.le_of_ble_eq_true rfl⟩ rfl rfl rfl rfl (Nat.le_of_ble_eq_true rfl) dX5_comesBy_56 ⟨Nat.le_of_ble_eq_true rfl, Nat.le_of_ble_eq_true rfl⟩) (fun H locs h => ?_)
    refine lv_if_eq (tgt := 66) hx hb dX5_comesBy_59 (by decide) (fun c9 => ?_) (fun c9 => ?_)
    · have hf := it_t c9 hf
      refine lv_iconst (v := 0) hx hb dX5_comesBy_66 (by decide) ?_
      exact q_retz (fun k : (Nat → Int32) => (wX5_comesBy cI cJ cZ cS a_t a_s a_keptS a_statuses a_pile a_tape a_steps a_wish a_mark a_bitsOf a_sizeOf a_number a_moved v_isKept v_taped v_at v_fault v_laid v_open v_s k)) fx rfl hf h dX5_comesBy_67
    have hf := it_f c9 hf
    refine lv_iconst (v := 1) hx hb dX5_comesBy_62 (by decide) ?_
    refine lv_goto (tgt := 67) hx hb dX5_comesBy_63 (by decide) ?_
    exact q_retz (fun k : (Nat → Int32) => (wX5_comesBy cI cJ cZ cS a_t a_s a_keptS a_statuses a_pile a_tape a_steps a_wish a_mark a_bitsOf a_sizeOf a_number a_moved v_isKept v_taped v_at v_fault v_laid v_open v_s k)) fx rfl hf h dX5_comesBy_67
  rcases it_or hf with ⟨c10, hf⟩ | ⟨c10, hf⟩
  · refine lv_tableIn (off := 56) (tgt := 68) hx hb dX5_comesBy_12 c3.1 c3.2 (by rw [c10]; rfl) (by decide) ?_
    refine lv_iload_n hx hb dX5_comesBy_68 rfl (lv_at hl 0 rfl) ?_
    refine lv_iconst (v := 5) hx hb dX5_comesBy_69 (by decide) ?_
    refine lv_icmp_ge (tgt := 86) hx hb dX5_comesBy_70 (by decide) (fun c11 => ?_) (fun c11 => ?_)
    · have hf := it_t c11 hf
      refine lv_iconst (v := 0) hx hb dX5_comesBy_86 (by decide) ?_
      exact q_retz (fun k : (Nat → Int32) => (wX5_comesBy cI cJ cZ cS a_t a_s a_keptS a_statuses a_pile a_tape a_steps a_wish a_mark a_bitsOf a_sizeOf a_number a_moved v_isKept v_taped v_at v_fault v_laid v_open v_s k)) fx rfl hf h dX5_comesBy_87
    have hf := it_f c11 hf
    refine lv_aload_n hx hb dX5_comesBy_73 rfl (lv_at hl 1 rfl) ?_
    refine lv_iload_n hx hb dX5_comesBy_74 rfl (lv_at hl 2 rfl) ?_
    refine lv_iload_n hx hb dX5_comesBy_75 rfl (lv_at hl 3 rfl) ?_
    obtain ⟨r12, k12, hg, hf⟩ := bR_inv hf
    refine q_ci (rest := []) (ws' := (wX5_comesBy cI cJ cZ cS a_t a_s a_keptS a_statuses a_pile a_tape a_steps a_wish a_mark a_bitsOf a_sizeOf a_number a_moved v_isKept v_taped v_at v_fault v_laid v_open v_s k12)) (w1 := (wX5_holds cI cJ cZ cS a_t a_s a_keptS a_statuses a_pile a_tape a_steps a_wish a_mark a_bitsOf a_sizeOf a_number a_moved v_isKept v_taped v_at v_fault v_laid v_open v_s k12)) fx h [0, 1, 2] rfl rfl rfl rfl (q_runV fx h hl.1 [0, 1, 2] rfl rfl (tX5_holds l D cI cJ cZ cS tb a_t a_s a_keptS a_statuses a_pile a_tape a_steps a_wish a_mark a_bitsOf a_sizeOf a_number a_moved H.size v_isKept v_taped v_at v_fault v_laid v_open v_s v_pile x1 x2 r12 k12 hg) mvX5_holds k_729 ⟨rfl, rfl⟩ ⟨Nat.le_of_ble_eq_true rfl, Nat.le_of_ble_eq_true rfl⟩ rfl rfl rfl rfl (Nat.le_of_ble_eq_true rfl) dX5_comesBy_76 ⟨Nat.le_of_ble_eq_true rfl, Nat.le_of_ble_eq_true rfl⟩) (fun H locs h => ?_)
    refine lv_if_eq (tgt := 86) hx hb dX5_comesBy_79 (by decide) (fun c13 => ?_) (fun c13 => ?_)
    · have hf := it_t c13 hf
      refine lv_iconst (v := 0) hx hb dX5_comesBy_86 (by decide) ?_
      exact q_retz (fun k : (Nat → Int32) => (wX5_comesBy cI cJ cZ cS a_t a_s a_keptS a_statuses a_pile a_tape a_steps a_wish a_mark a_bitsOf a_sizeOf a_number a_moved v_isKept v_taped v_at v_fault v_laid v_open v_s k)) fx rfl hf h dX5_comesBy_87
    have hf := it_f c13 hf
    refine lv_iconst (v := 1) hx hb dX5_comesBy_82 (by decide) ?_
    refine lv_goto (tgt := 87) hx hb dX5_comesBy_83 (by decide) ?_
    exact q_retz (fun k : (Nat → Int32) => (wX5_comesBy cI cJ cZ cS a_t a_s a_keptS a_statuses a_pile a_tape a_steps a_wish a_mark a_bitsOf a_sizeOf a_number a_moved v_isKept v_taped v_at v_fault v_laid v_open v_s k)) fx rfl hf h dX5_comesBy_87
  rcases it_or hf with ⟨c14, hf⟩ | ⟨c14, hf⟩
  · refine lv_tableIn (off := 76) (tgt := 88) hx hb dX5_comesBy_12 c3.1 c3.2 (by rw [c14]; rfl) (by decide) ?_
    refine lv_iconst (v := 0) hx hb dX5_comesBy_88 (by decide) ?_
    exact q_retz (fun k : (Nat → Int32) => (wX5_comesBy cI cJ cZ cS a_t a_s a_keptS a_statuses a_pile a_tape a_steps a_wish a_mark a_bitsOf a_sizeOf a_number a_moved v_isKept v_taped v_at v_fault v_laid v_open v_s k)) fx rfl hf h dX5_comesBy_89
  rcases it_or hf with ⟨c15, hf⟩ | ⟨c15, hf⟩
  · refine lv_tableIn (off := 78) (tgt := 90) hx hb dX5_comesBy_12 c3.1 c3.2 (by rw [c15]; rfl) (by decide) ?_
    refine lv_iload_n hx hb dX5_comesBy_90 rfl (lv_at hl 0 rfl) ?_
    refine lv_iconst (v := 3) hx hb dX5_comesBy_91 (by decide) ?_
    refine lv_icmp_gt (tgt := 108) hx hb dX5_comesBy_92 (by decide) (fun c16 => ?_) (fun c16 => ?_)
    · have hf := it_t c16 hf
      refine lv_iconst (v := 1) hx hb dX5_comesBy_108 (by decide) ?_
      refine lv_goto (tgt := 113) hx hb dX5_comesBy_109 (by decide) ?_
      exact q_retz (fun k : (Nat → Int32) => (wX5_comesBy cI cJ cZ cS a_t a_s a_keptS a_statuses a_pile a_tape a_steps a_wish a_mark a_bitsOf a_sizeOf a_number a_moved v_isKept v_taped v_at v_fault v_laid v_open v_s k)) fx rfl hf h dX5_comesBy_113
    have hf := it_f c16 hf
    refine lv_iload_n hx hb dX5_comesBy_95 rfl (lv_at hl 0 rfl) ?_
    refine lv_if_eq (tgt := 108) hx hb dX5_comesBy_96 (by decide) (fun c17 => ?_) (fun c17 => ?_)
    · have hf := it_t c17 hf
      refine lv_iconst (v := 1) hx hb dX5_comesBy_108 (by decide) ?_
      refine lv_goto (tgt := 113) hx hb dX5_comesBy_109 (by decide) ?_
      exact q_retz (fun k : (Nat → Int32) => (wX5_comesBy cI cJ cZ cS a_t a_s a_keptS a_statuses a_pile a_tape a_steps a_wish a_mark a_bitsOf a_sizeOf a_number a_moved v_isKept v_taped v_at v_fault v_laid v_open v_s k)) fx rfl hf h dX5_comesBy_113
    have hf := it_f c17 hf
    refine lv_aload_n hx hb dX5_comesBy_99 rfl (lv_at hl 1 rfl) ?_
    refine lv_iload_n hx hb dX5_comesBy_100 rfl (lv_at hl 2 rfl) ?_
    refine lv_iload_n hx hb dX5_comesBy_101 rfl (lv_at hl 3 rfl) ?_
    obtain ⟨r18, k18, hg, hf⟩ := bR_inv hf
    refine q_ci (rest := []) (ws' := (wX5_comesBy cI cJ cZ cS a_t a_s a_keptS a_statuses a_pile a_tape a_steps a_wish a_mark a_bitsOf a_sizeOf a_number a_moved v_isKept v_taped v_at v_fault v_laid v_open v_s k18)) (w1 := (wX5_holds cI cJ cZ cS a_t a_s a_keptS a_statuses a_pile a_tape a_steps a_wish a_mark a_bitsOf a_sizeOf a_number a_moved v_isKept v_taped v_at v_fault v_laid v_open v_s k18)) fx h [0, 1, 2] rfl rfl rfl rfl (q_runV fx h hl.1 [0, 1, 2] rfl rfl (tX5_holds l D cI cJ cZ cS tb a_t a_s a_keptS a_statuses a_pile a_tape a_steps a_wish a_mark a_bitsOf a_sizeOf a_number a_moved H.size v_isKept v_taped v_at v_fault v_laid v_open v_s v_pile x1 x2 r18 k18 hg) mvX5_holds k_729 ⟨rfl, rfl⟩ ⟨Nat.le_of_ble_eq_true rfl, Nat.le_of_ble_eq_true rfl⟩ rfl rfl rfl rfl (Nat.le_of_ble_eq_true rfl) dX5_comesBy_102 ⟨Nat.le_of_ble_eq_true rfl, Nat.le_of_ble_eq_true rfl⟩) (fun H locs h => ?_)
    refine lv_if_eq (tgt := 112) hx hb dX5_comesBy_105 (by decide) (fun c19 => ?_) (fun c19 => ?_)
    · have hf := it_t c19 hf
      refine lv_iconst (v := 0) hx hb dX5_comesBy_112 (by decide) ?_
      exact q_retz (fun k : (Nat → Int32) => (wX5_comesBy cI cJ cZ cS a_t a_s a_keptS a_statuses a_pile a_tape a_steps a_wish a_mark a_bitsOf a_sizeOf a_number a_moved v_isKept v_taped v_at v_fault v_laid v_open v_s k)) fx rfl hf h dX5_comesBy_113
    have hf := it_f c19 hf
    refine lv_iconst (v := 1) hx hb dX5_comesBy_108 (by decide) ?_
    refine lv_goto (tgt := 113) hx hb dX5_comesBy_109 (by decide) ?_
    exact q_retz (fun k : (Nat → Int32) => (wX5_comesBy cI cJ cZ cS a_t a_s a_keptS a_statuses a_pile a_tape a_steps a_wish a_mark a_bitsOf a_sizeOf a_number a_moved v_isKept v_taped v_at v_fault v_laid v_open v_s k)) fx rfl hf h dX5_comesBy_113
  rcases it_or hf with ⟨c20, hf⟩ | ⟨c20, hf⟩
  · refine lv_tableIn (off := 102) (tgt := 114) hx hb dX5_comesBy_12 c3.1 c3.2 (by rw [c20]; rfl) (by decide) ?_
    refine lv_iload_n hx hb dX5_comesBy_114 rfl (lv_at hl 0 rfl) ?_
    refine lv_iconst (v := 4) hx hb dX5_comesBy_115 (by decide) ?_
    refine lv_icmp_gt (tgt := 128) hx hb dX5_comesBy_116 (by decide) (fun c21 => ?_) (fun c21 => ?_)
    · have hf := it_t c21 hf
      refine lv_iconst (v := 1) hx hb dX5_comesBy_128 (by decide) ?_
      refine lv_goto (tgt := 133) hx hb dX5_comesBy_129 (by decide) ?_
      exact q_retz (fun k : (Nat → Int32) => (wX5_comesBy cI cJ cZ cS a_t a_s a_keptS a_statuses a_pile a_tape a_steps a_wish a_mark a_bitsOf a_sizeOf a_number a_moved v_isKept v_taped v_at v_fault v_laid v_open v_s k)) fx rfl hf h dX5_comesBy_133
    have hf := it_f c21 hf
    refine lv_aload_n hx hb dX5_comesBy_119 rfl (lv_at hl 1 rfl) ?_
    refine lv_iload_n hx hb dX5_comesBy_120 rfl (lv_at hl 2 rfl) ?_
    refine lv_iload_n hx hb dX5_comesBy_121 rfl (lv_at hl 3 rfl) ?_
    obtain ⟨r22, k22, hg, hf⟩ := bR_inv hf
    refine q_ci (rest := []) (ws' := (wX5_comesBy cI cJ cZ cS a_t a_s a_keptS a_statuses a_pile a_tape a_steps a_wish a_mark a_bitsOf a_sizeOf a_number a_moved v_isKept v_taped v_at v_fault v_laid v_open v_s k22)) (w1 := (wX5_holds cI cJ cZ cS a_t a_s a_keptS a_statuses a_pile a_tape a_steps a_wish a_mark a_bitsOf a_sizeOf a_number a_moved v_isKept v_taped v_at v_fault v_laid v_open v_s k22)) fx h [0, 1, 2] rfl rfl rfl rfl (q_runV fx h hl.1 [0, 1, 2] rfl rfl (tX5_holds l D cI cJ cZ cS tb a_t a_s a_keptS a_statuses a_pile a_tape a_steps a_wish a_mark a_bitsOf a_sizeOf a_number a_moved H.size v_isKept v_taped v_at v_fault v_laid v_open v_s v_pile x1 x2 r22 k22 hg) mvX5_holds k_729 ⟨rfl, rfl⟩ ⟨Nat.le_of_ble_eq_true rfl, Nat.le_of_ble_eq_true rfl⟩ rfl rfl rfl rfl (Nat.le_of_ble_eq_true rfl) dX5_comesBy_122 ⟨Nat.le_of_ble_eq_true rfl, Nat.le_of_ble_eq_true rfl⟩) (fun H locs h => ?_)
    refine lv_if_ne (tgt := 132) hx hb dX5_comesBy_125 (by decide) (fun c23 => ?_) (fun c23 => ?_)
    · have hf := it_f c23 hf
      refine lv_iconst (v := 0) hx hb dX5_comesBy_132 (by decide) ?_
      exact q_retz (fun k : (Nat → Int32) => (wX5_comesBy cI cJ cZ cS a_t a_s a_keptS a_statuses a_pile a_tape a_steps a_wish a_mark a_bitsOf a_sizeOf a_number a_moved v_isKept v_taped v_at v_fault v_laid v_open v_s k)) fx rfl hf h dX5_comesBy_133
    have hf := it_t c23 hf
    refine lv_iconst (v := 1) hx hb dX5_comesBy_128 (by decide) ?_
    refine lv_goto (tgt := 133) hx hb dX5_comesBy_129 (by decide) ?_
    exact q_retz (fun k : (Nat → Int32) => (wX5_comesBy cI cJ cZ cS a_t a_s a_keptS a_statuses a_pile a_tape a_steps a_wish a_mark a_bitsOf a_sizeOf a_number a_moved v_isKept v_taped v_at v_fault v_laid v_open v_s k)) fx rfl hf h dX5_comesBy_133
  cases hf
/-! X5_would -/
abbrev wX5_would (cI cJ cZ cS : ClassId) (a_t a_s a_keptS a_statuses a_pile a_tape a_steps a_wish a_mark a_bitsOf a_sizeOf a_number a_moved : Nat) (v_isKept : Int32) (v_taped : Int32) (v_at : Int32) (v_fault : Int32) (v_laid : Int32) (v_open : Int32) (v_s : Nat → Int32) (v_pile : Nat → Int32) : va_W := [(a_t, .inr (5, [.ref a_s, .ref a_keptS, .ref a_statuses, .int v_isKept, .ref a_pile, .ref a_tape, .ref a_steps, .int v_taped, .int v_at, .int v_fault, .int v_laid, .int v_open, .ref a_wish, .ref a_mark, .ref a_bitsOf, .ref a_sizeOf, .ref a_number, .ref a_moved])), (a_s, .inl (cI, 538, .inl v_s)), (a_pile, .inl (cZ, 64, .inl v_pile))]
abbrev rX5_would : Room := { frames := 4, cells := 0, slots := 0, locals := 93 }
def fX5_would_31 (v_s : Nat → Int32) (ag4 : (Nat → Int32) → Int32 → Int32 → Int32 → Option (Int32 × (Nat → Int32))) (v_pile : Nat → Int32) (s0 : Int32) (s1 : Int32) (y1 : Int32) (y3 : Int32) : Option (Int32 × (Nat → Int32)) :=
  nm (s0 ||| s1) (fun u1 =>
  nm (y3 + 1) (fun u2 =>
  ag4 v_pile y1 u1 u2))
set_option maxRecDepth 100000 in
set_option maxHeartbeats 4000000 in
theorem LX5_would_31 {p : Program} {l : Launch} {e : Env} {s : State} {m : MethodId} {args : Array Value} {below : List Frame} {meth : Method} {c : Code} {D : va_G} {cI cJ cZ cS : ClassId} {tb : Nat} {A : Nat → Prop} {a_t a_s a_keptS a_statuses a_pile a_tape a_steps a_wish a_mark a_bitsOf a_sizeOf a_number a_moved : Nat} {v_isKept : Int32} {v_taped : Int32} {v_at : Int32} {v_fault : Int32} {v_laid : Int32} {v_open : Int32} {v_s : Nat → Int32} {rr : Int32} {kk' : (Nat → Int32)} (fx : q_Fx p s m args meth c cX5_would 4 RX5 (some .int) D cI cJ cZ cS tb A) {ag4 : (Nat → Int32) → Int32 → Int32 → Int32 → Option (Int32 × (Nat → Int32))} (hag4 : ∀ {v_pile : Nat → Int32} {y1 : Int32} {y2 : Int32} {y3 : Int32} {H : Heap} {locs : List Loc} {ls : Array Slot}, q_H D A s (wX5_would cI cJ cZ cS a_t a_s a_keptS a_statuses a_pile a_tape a_steps a_wish a_mark a_bitsOf a_sizeOf a_number a_moved v_isKept v_taped v_at v_fault v_laid v_open v_s v_pile) H locs → lv_has ls 4 [(0, .ref a_t), (1, .int y1), (2, .int y2), (3, .int y3)] → ag4 v_pile y1 y2 y3 = some (rr, kk') → W p l e rX5_would s m args below meth c H locs 0 0 (MQ below (q_Ri D rr A ((fun k : (Nat → Int32) => (wX5_would cI cJ cZ cS a_t a_s a_keptS a_statuses a_pile a_tape a_steps a_wish a_mark a_bitsOf a_sizeOf a_number a_moved v_isKept v_taped v_at v_fault v_laid v_open v_s k)) kk')) args s 0 0 A) (F0 m 4 ls [])) : ∀ {v_pile : Nat → Int32} {s0 : Int32} {s1 : Int32} {y1 : Int32} {y3 : Int32} {H : Heap} {locs : List Loc} {ls : Array Slot}, q_H D A s (wX5_would cI cJ cZ cS a_t a_s a_keptS a_statuses a_pile a_tape a_steps a_wish a_mark a_bitsOf a_sizeOf a_number a_moved v_isKept v_taped v_at v_fault v_laid v_open v_s v_pile) H locs → lv_has ls 4 [(0, .ref a_t), (1, .int y1), (3, .int y3)] → fX5_would_31 v_s ag4 v_pile s0 s1 y1 y3 = some (rr, kk') → W p l e rX5_would s m args below meth c H locs 0 0 (MQ below (q_Ri D rr A ((fun k : (Nat → Int32) => (wX5_would cI cJ cZ cS a_t a_s a_keptS a_statuses a_pile a_tape a_steps a_wish a_mark a_bitsOf a_sizeOf a_number a_moved v_isKept v_taped v_at v_fault v_laid v_open v_s k)) kk')) args s 0 0 A) (F0 m 31 ls [.int s1, .int s0]) := by
  intro v_pile s0 s1 y1 y3 H locs ls h hl hf
  have hx := fx.1
  have hb := fx.2.1
  unfold fX5_would_31 at hf
  refine lv_ior hx hb dX5_would_31 ?_
  obtain ⟨u1, eu1, hf⟩ := nm_inv hf
  refine lv_eqi eu1 ?_
  refine lv_istore_n (lv' := [(2, .int u1), (0, .ref a_t), (1, .int y1), (3, .int y3)]) hx hb dX5_would_32 rfl hl (by decide) rfl (fun ls hl => ?_)
  obtain ⟨u2, eu2, hf⟩ := nm_inv hf
  refine lv_iinc (v := u2) (lv' := [(3, .int u2), (2, .int u1), (0, .ref a_t), (1, .int y1)]) hx hb dX5_would_33 hl (k := 3) rfl (by rw [eu2]; rfl) (by decide) rfl (fun ls hl => ?_)
  refine lv_goto (tgt := 4) hx hb dX5_would_36 (by decide) ?_
  exact hag4 h (lv_sub hl [2, 3, 1, 0] rfl) hf
def fX5_would_4 (v_s : Nat → Int32) (ag4 : (Nat → Int32) → Int32 → Int32 → Int32 → Option (Int32 × (Nat → Int32))) (v_pile : Nat → Int32) (y1 : Int32) (y2 : Int32) (y3 : Int32) : Option (Int32 × (Nat → Int32)) :=
  (if (v_s 0) ≤ y3 then (
  some (y2, v_pile))
  else (
  bR (fX5_comesBy v_s v_pile y3 y1) (fun r4 k4 =>
  (if r4 = 0 then (
  fX5_would_31 v_s ag4 k4 y2 0 y1 y3)
  else (
  fX5_would_31 v_s ag4 k4 y2 (jshl 1 y3) y1 y3)))))
set_option maxRecDepth 100000 in
set_option maxHeartbeats 4000000 in
theorem LX5_would_4 {p : Program} {l : Launch} {e : Env} {s : State} {m : MethodId} {args : Array Value} {below : List Frame} {meth : Method} {c : Code} {D : va_G} {cI cJ cZ cS : ClassId} {tb : Nat} {A : Nat → Prop} {a_t a_s a_keptS a_statuses a_pile a_tape a_steps a_wish a_mark a_bitsOf a_sizeOf a_number a_moved : Nat} {v_isKept : Int32} {v_taped : Int32} {v_at : Int32} {v_fault : Int32} {v_laid : Int32} {v_open : Int32} {v_s : Nat → Int32} {rr : Int32} {kk' : (Nat → Int32)} (fx : q_Fx p s m args meth c cX5_would 4 RX5 (some .int) D cI cJ cZ cS tb A) {ag4 : (Nat → Int32) → Int32 → Int32 → Int32 → Option (Int32 × (Nat → Int32))} (hag4 : ∀ {v_pile : Nat → Int32} {y1 : Int32} {y2 : Int32} {y3 : Int32} {H : Heap} {locs : List Loc} {ls : Array Slot}, q_H D A s (wX5_would cI cJ cZ cS a_t a_s a_keptS a_statuses a_pile a_tape a_steps a_wish a_mark a_bitsOf a_sizeOf a_number a_moved v_isKept v_taped v_at v_fault v_laid v_open v_s v_pile) H locs → lv_has ls 4 [(0, .ref a_t), (1, .int y1), (2, .int y2), (3, .int y3)] → ag4 v_pile y1 y2 y3 = some (rr, kk') → W p l e rX5_would s m args below meth c H locs 0 0 (MQ below (q_Ri D rr A ((fun k : (Nat → Int32) => (wX5_would cI cJ cZ cS a_t a_s a_keptS a_statuses a_pile a_tape a_steps a_wish a_mark a_bitsOf a_sizeOf a_number a_moved v_isKept v_taped v_at v_fault v_laid v_open v_s k)) kk')) args s 0 0 A) (F0 m 4 ls [])) : ∀ {v_pile : Nat → Int32} {y1 : Int32} {y2 : Int32} {y3 : Int32} {H : Heap} {locs : List Loc} {ls : Array Slot}, q_H D A s (wX5_would cI cJ cZ cS a_t a_s a_keptS a_statuses a_pile a_tape a_steps a_wish a_mark a_bitsOf a_sizeOf a_number a_moved v_isKept v_taped v_at v_fault v_laid v_open v_s v_pile) H locs → lv_has ls 4 [(0, .ref a_t), (1, .int y1), (2, .int y2), (3, .int y3)] → fX5_would_4 v_s ag4 v_pile y1 y2 y3 = some (rr, kk') → W p l e rX5_would s m args below meth c H locs 0 0 (MQ below (q_Ri D rr A ((fun k : (Nat → Int32) => (wX5_would cI cJ cZ cS a_t a_s a_keptS a_statuses a_pile a_tape a_steps a_wish a_mark a_bitsOf a_sizeOf a_number a_moved v_isKept v_taped v_at v_fault v_laid v_open v_s k)) kk')) args s 0 0 A) (F0 m 4 ls []) := by
  intro v_pile y1 y2 y3 H locs ls h hl hf
  have hx := fx.1
  have hb := fx.2.1
  unfold fX5_would_4 at hf
  refine lv_iload_n hx hb dX5_would_4 rfl (lv_at hl 3 rfl) ?_
  refine lv_aload_n hx hb dX5_would_5 rfl (lv_at hl 0 rfl) ?_
  refine q_get (v := .ref a_s) fx inX5 h 0 rfl rfl 0 (by decide) k_636 rfl dX5_would_6 ?_
  refine lv_iconst (v := 0) hx hb dX5_would_9 (by decide) ?_
  refine q_ialdK fx h 1 rfl 0 (vinK (by decide)) (by decide) dX5_would_10 ?_
  refine lv_icmp_ge (tgt := 39) hx hb dX5_would_11 (by decide) (fun c3 => ?_) (fun c3 => ?_)
  · have hf := it_t c3 hf
    refine lv_iload_n hx hb dX5_would_39 rfl (lv_at hl 2 rfl) ?_
    exact q_reti (fun k : (Nat → Int32) => (wX5_would cI cJ cZ cS a_t a_s a_keptS a_statuses a_pile a_tape a_steps a_wish a_mark a_bitsOf a_sizeOf a_number a_moved v_isKept v_taped v_at v_fault v_laid v_open v_s k)) fx hf h dX5_would_40
  have hf := it_f c3 hf
  refine lv_iload_n hx hb dX5_would_14 rfl (lv_at hl 2 rfl) ?_
  refine lv_aload_n hx hb dX5_would_15 rfl (lv_at hl 0 rfl) ?_
  refine lv_iload_n hx hb dX5_would_16 rfl (lv_at hl 3 rfl) ?_
  refine lv_iload_n hx hb dX5_would_17 rfl (lv_at hl 1 rfl) ?_
  obtain ⟨r4, k4, hg, hf⟩ := bR_inv hf
  refine q_ci (rest := [.int y2]) (ws' := (wX5_would cI cJ cZ cS a_t a_s a_keptS a_statuses a_pile a_tape a_steps a_wish a_mark a_bitsOf a_sizeOf a_number a_moved v_isKept v_taped v_at v_fault v_laid v_open v_s k4)) (w1 := (wX5_comesBy cI cJ cZ cS a_t a_s a_keptS a_statuses a_pile a_tape a_steps a_wish a_mark a_bitsOf a_sizeOf a_number a_moved v_isKept v_taped v_at v_fault v_laid v_open v_s k4)) fx h [0, 1, 2] rfl rfl rfl rfl (q_runV fx h hl.1 [0, 1, 2] rfl rfl (tX5_comesBy l D cI cJ cZ cS tb a_t a_s a_keptS a_statuses a_pile a_tape a_steps a_wish a_mark a_bitsOf a_sizeOf a_number a_moved H.size v_isKept v_taped v_at v_fault v_laid v_open v_s v_pile y3 y1 r4 k4 hg) mvX5_comesBy k_715 ⟨rfl, rfl⟩ ⟨Nat.le_of_ble_eq_true rfl, Nat.le_of_ble_eq_true rfl⟩ rfl rfl rfl rfl (Nat.le_of_ble_eq_true rfl) dX5_would_18 ⟨Nat.le_of_ble_eq_true rfl, Nat.le_of_ble_eq_true rfl⟩) (fun H locs h => ?_)
  refine lv_if_eq (tgt := 30) hx hb dX5_would_21 (by decide) (fun c5 => ?_) (fun c5 => ?_)
  · have hf := it_t c5 hf
    refine lv_iconst (v := 0) hx hb dX5_would_30 (by decide) ?_
    exact LX5_would_31 fx hag4 h (lv_sub hl [0, 1, 3] rfl) hf
  have hf := it_f c5 hf
  refine lv_iconst (v := 1) hx hb dX5_would_24 (by decide) ?_
  refine lv_iload_n hx hb dX5_would_25 rfl (lv_at hl 3 rfl) ?_
  refine lv_ishl hx hb dX5_would_26 ?_
  refine lv_goto (tgt := 31) hx hb dX5_would_27 (by decide) ?_
  exact LX5_would_31 fx hag4 h (lv_sub hl [0, 1, 3] rfl) hf
set_option maxRecDepth 100000 in
theorem EX5_would_4 {p : Program} {l : Launch} {e : Env} {s : State} {m : MethodId} {args : Array Value} {below : List Frame} {meth : Method} {c : Code} {D : va_G} {cI cJ cZ cS : ClassId} {tb : Nat} {A : Nat → Prop} {a_t a_s a_keptS a_statuses a_pile a_tape a_steps a_wish a_mark a_bitsOf a_sizeOf a_number a_moved : Nat} {v_isKept : Int32} {v_taped : Int32} {v_at : Int32} {v_fault : Int32} {v_laid : Int32} {v_open : Int32} {v_s : Nat → Int32} {rr : Int32} {kk' : (Nat → Int32)} (fx : q_Fx p s m args meth c cX5_would 4 RX5 (some .int) D cI cJ cZ cS tb A) : ∀ (n : Nat), ∀ {v_pile : Nat → Int32} {y1 : Int32} {y2 : Int32} {y3 : Int32} {H : Heap} {locs : List Loc} {ls : Array Slot}, q_H D A s (wX5_would cI cJ cZ cS a_t a_s a_keptS a_statuses a_pile a_tape a_steps a_wish a_mark a_bitsOf a_sizeOf a_number a_moved v_isKept v_taped v_at v_fault v_laid v_open v_s v_pile) H locs → lv_has ls 4 [(0, .ref a_t), (1, .int y1), (2, .int y2), (3, .int y3)] → ll4 (fX5_would_4 v_s) n v_pile y1 y2 y3 = some (rr, kk') → W p l e rX5_would s m args below meth c H locs 0 0 (MQ below (q_Ri D rr A ((fun k : (Nat → Int32) => (wX5_would cI cJ cZ cS a_t a_s a_keptS a_statuses a_pile a_tape a_steps a_wish a_mark a_bitsOf a_sizeOf a_number a_moved v_isKept v_taped v_at v_fault v_laid v_open v_s k)) kk')) args s 0 0 A) (F0 m 4 ls []) := by
  intro n
  induction n with
  | zero => intro v_pile y1 y2 y3 H locs ls h hl hf; exact (ll4_z hf).elim
  | succ n ih => intro v_pile y1 y2 y3 H locs ls h hl hf; exact LX5_would_4 fx ih h hl (ll4_s hf)
def fX5_would (v_s : Nat → Int32) (v_pile : Nat → Int32) (x1 : Int32) : Option (Int32 × (Nat → Int32)) :=
  ll4 (fX5_would_4 v_s) qF v_pile x1 0 0
set_option maxRecDepth 100000 in
set_option maxHeartbeats 4000000 in
theorem tX5_would (l : Launch) (D : va_G) (cI cJ cZ cS : ClassId) (tb : Nat) (a_t a_s a_keptS a_statuses a_pile a_tape a_steps a_wish a_mark a_bitsOf a_sizeOf a_number a_moved : Nat) (sz : Nat) (v_isKept : Int32) (v_taped : Int32) (v_at : Int32) (v_fault : Int32) (v_laid : Int32) (v_open : Int32) (v_s : Nat → Int32) (v_pile : Nat → Int32) (x1 : Int32) (rr : Int32) (kk' : (Nat → Int32)) (hf : fX5_would v_s v_pile x1 = some (rr, kk')) : Met l yX5_would (Cond.code yX5_would cX5_would 4 (some .int) :: wA) rX5_would (q_Pre D cI cJ cZ cS tb [.ref a_t, .int x1] sz (wX5_would cI cJ cZ cS a_t a_s a_keptS a_statuses a_pile a_tape a_steps a_wish a_mark a_bitsOf a_sizeOf a_number a_moved v_isKept v_taped v_at v_fault v_laid v_open v_s v_pile)) (q_Ri D rr (va_A (wX5_would cI cJ cZ cS a_t a_s a_keptS a_statuses a_pile a_tape a_steps a_wish a_mark a_bitsOf a_sizeOf a_number a_moved v_isKept v_taped v_at v_fault v_laid v_open v_s v_pile) sz) ((fun k : (Nat → Int32) => (wX5_would cI cJ cZ cS a_t a_s a_keptS a_statuses a_pile a_tape a_steps a_wish a_mark a_bitsOf a_sizeOf a_number a_moved v_isKept v_taped v_at v_fault v_laid v_open v_s k)) kk')) 0 0 (va_A (wX5_would cI cJ cZ cS a_t a_s a_keptS a_statuses a_pile a_tape a_steps a_wish a_mark a_bitsOf a_sizeOf a_number a_moved v_isKept v_taped v_at v_fault v_laid v_open v_s v_pile) sz) := by
  refine q_enter (Qf := fun A => (q_Ri D rr A ((fun k : (Nat → Int32) => (wX5_would cI cJ cZ cS a_t a_s a_keptS a_statuses a_pile a_tape a_steps a_wish a_mark a_bitsOf a_sizeOf a_number a_moved v_isKept v_taped v_at v_fault v_laid v_open v_s k)) kk'))) (by decide) rfl (Nat.le_of_ble_eq_true rfl) ?_
  intro p e s m below meth c A ls fx hname h hl
  have hx := fx.1
  have hb := fx.2.1
  have hl : lv_has ls 4 [(0, .ref a_t), (1, .int x1)] := hl
  generalize h9 : s.heap = H at h ⊢
  clear h9
  generalize h9 : ([] : List Loc) = locs at h ⊢
  clear h9
  unfold fX5_would at hf
  refine lv_iconst (v := 0) hx hb dX5_would_0 (by decide) ?_
  refine lv_istore_n (lv' := [(2, .int 0), (0, .ref a_t), (1, .int x1)]) hx hb dX5_would_1 rfl hl (by decide) rfl (fun ls hl => ?_)
  refine lv_iconst (v := 0) hx hb dX5_would_2 (by decide) ?_
  refine lv_istore_n (lv' := [(3, .int 0), (2, .int 0), (0, .ref a_t), (1, .int x1)]) hx hb dX5_would_3 rfl hl (by decide) rfl (fun ls hl => ?_)
  exact EX5_would_4 fx qF h (lv_sub hl [2, 3, 1, 0] rfl) hf
/-! X5_of -/
abbrev wX5_of (cI cJ cZ cS : ClassId) (a_t a_s a_keptS a_statuses a_pile a_tape a_steps a_wish a_mark a_bitsOf a_sizeOf a_number a_moved : Nat) (v_isKept : Int32) (v_taped : Int32) (v_at : Int32) (v_fault : Int32) (v_laid : Int32) (v_open : Int32) (v_s : Nat → Int32) (v_statuses : Nat → Int32) (v_pile : Nat → Int32) : va_W := [(a_t, .inr (5, [.ref a_s, .ref a_keptS, .ref a_statuses, .int v_isKept, .ref a_pile, .ref a_tape, .ref a_steps, .int v_taped, .int v_at, .int v_fault, .int v_laid, .int v_open, .ref a_wish, .ref a_mark, .ref a_bitsOf, .ref a_sizeOf, .ref a_number, .ref a_moved])), (a_s, .inl (cI, 538, .inl v_s)), (a_statuses, .inl (cI, 7, .inl v_statuses)), (a_pile, .inl (cZ, 64, .inl v_pile))]
abbrev rX5_of : Room := { frames := 4, cells := 0, slots := 0, locals := 93 }
def fX5_of_20 (v_s : Nat → Int32) (v_statuses : Nat → Int32) (v_pile : Nat → Int32) : Option (Int32 × (Nat → Int32) × (Nat → Int32)) :=
  bR (fX5_finds v_statuses (-1000000001)) (fun r1 k1 =>
  some (r1, (k1, v_pile)))
set_option maxRecDepth 100000 in
set_option maxHeartbeats 4000000 in
theorem LX5_of_20 {p : Program} {l : Launch} {e : Env} {s : State} {m : MethodId} {args : Array Value} {below : List Frame} {meth : Method} {c : Code} {D : va_G} {cI cJ cZ cS : ClassId} {tb : Nat} {A : Nat → Prop} {a_t a_s a_keptS a_statuses a_pile a_tape a_steps a_wish a_mark a_bitsOf a_sizeOf a_number a_moved : Nat} {v_isKept : Int32} {v_taped : Int32} {v_at : Int32} {v_fault : Int32} {v_laid : Int32} {v_open : Int32} {v_s : Nat → Int32} {rr : Int32} {kk' : (Nat → Int32) × (Nat → Int32)} (fx : q_Fx p s m args meth c cX5_of 3 RX5 (some .int) D cI cJ cZ cS tb A) : ∀ {v_statuses : Nat → Int32} {v_pile : Nat → Int32} {H : Heap} {locs : List Loc} {ls : Array Slot}, q_H D A s (wX5_of cI cJ cZ cS a_t a_s a_keptS a_statuses a_pile a_tape a_steps a_wish a_mark a_bitsOf a_sizeOf a_number a_moved v_isKept v_taped v_at v_fault v_laid v_open v_s v_statuses v_pile) H locs → lv_has ls 3 [(0, .ref a_t)] → fX5_of_20 v_s v_statuses v_pile = some (rr, kk') → W p l e rX5_of s m args below meth c H locs 0 0 (MQ below (q_Ri D rr A ((fun k : (Nat → Int32) × (Nat → Int32) => (wX5_of cI cJ cZ cS a_t a_s a_keptS a_statuses a_pile a_tape a_steps a_wish a_mark a_bitsOf a_sizeOf a_number a_moved v_isKept v_taped v_at v_fault v_laid v_open v_s k.1 k.2)) kk')) args s 0 0 A) (F0 m 20 ls []) := by
  intro v_statuses v_pile H locs ls h hl hf
  have hx := fx.1
  have hb := fx.2.1
  unfold fX5_of_20 at hf
  refine lv_aload_n hx hb dX5_of_20 rfl (lv_at hl 0 rfl) ?_
  refine q_ldc fx k_701 dX5_of_21 ?_
  obtain ⟨r1, k1, hg, hf⟩ := bR_inv hf
  refine q_ci (rest := []) (ws' := (wX5_of cI cJ cZ cS a_t a_s a_keptS a_statuses a_pile a_tape a_steps a_wish a_mark a_bitsOf a_sizeOf a_number a_moved v_isKept v_taped v_at v_fault v_laid v_open v_s k1 v_pile)) (w1 := (wX5_finds cI cJ cZ cS a_t a_s a_keptS a_statuses a_pile a_tape a_steps a_wish a_mark a_bitsOf a_sizeOf a_number a_moved v_isKept v_taped v_at v_fault v_laid v_open k1)) fx h [0, 2] rfl rfl rfl rfl (q_runV fx h hl.1 [0, 2] rfl rfl (tX5_finds l D cI cJ cZ cS tb a_t a_s a_keptS a_statuses a_pile a_tape a_steps a_wish a_mark a_bitsOf a_sizeOf a_number a_moved H.size v_isKept v_taped v_at v_fault v_laid v_open v_statuses (-1000000001) r1 k1 hg) mvX5_finds k_702 ⟨rfl, rfl⟩ ⟨Nat.le_of_ble_eq_true rfl, Nat.le_of_ble_eq_true rfl⟩ rfl rfl rfl rfl (Nat.le_of_ble_eq_true rfl) dX5_of_23 ⟨Nat.le_of_ble_eq_true rfl, Nat.le_of_ble_eq_true rfl⟩) (fun H locs h => ?_)
  exact q_reti (fun k : (Nat → Int32) × (Nat → Int32) => (wX5_of cI cJ cZ cS a_t a_s a_keptS a_statuses a_pile a_tape a_steps a_wish a_mark a_bitsOf a_sizeOf a_number a_moved v_isKept v_taped v_at v_fault v_laid v_open v_s k.1 k.2)) fx hf h dX5_of_26
def fX5_of (v_s : Nat → Int32) (v_statuses : Nat → Int32) (v_pile : Nat → Int32) (x1 : Int32) (x2 : Int32) : Option (Int32 × (Nat → Int32) × (Nat → Int32)) :=
  bR (fX5_isGuest v_s x1) (fun r2 k2 =>
  (if r2 = 0 then (
  fX5_of_20 v_s v_statuses v_pile)
  else (
  bR (fX5_in (x2.toInt64) 0 5) (fun r4 k4 =>
  (if r4 = 0 then (
  fX5_of_20 v_s v_statuses v_pile)
  else (
  (if (x2).toInt < 2 ∨ 5 < (x2).toInt then (
  bR (fX5_its v_s x1 x2) (fun r7 k7 =>
  some (r7, (v_statuses, v_pile))))
  else (if x2 = 2 then (
  some ((jshr (v_s 1) x1) &&& 1, (v_statuses, v_pile)))
  else (if x2 = 3 then (
  bR (fX5_comesBy v_s v_pile x1 (v_s 1)) (fun r10 k10 =>
  (if r10 = 0 then (
  some (0, (v_statuses, k10)))
  else (
  some (1, (v_statuses, k10))))))
  else (if x2 = 4 then (
  bR (fX5_holds v_s v_pile x1 (v_s 1)) (fun r13 k13 =>
  (if r13 = 0 then (
  some (0, (v_statuses, k13)))
  else (
  some (1, (v_statuses, k13))))))
  else (if x2 = 5 then (
  bR (fX5_others x1 (v_s 1)) (fun r16 k16 =>
  some (r16, (v_statuses, v_pile))))
  else none)))))))))))
set_option maxRecDepth 100000 in
set_option maxHeartbeats 4000000 in
theorem tX5_of (l : Launch) (D : va_G) (cI cJ cZ cS : ClassId) (tb : Nat) (a_t a_s a_keptS a_statuses a_pile a_tape a_steps a_wish a_mark a_bitsOf a_sizeOf a_number a_moved : Nat) (sz : Nat) (v_isKept : Int32) (v_taped : Int32) (v_at : Int32) (v_fault : Int32) (v_laid : Int32) (v_open : Int32) (v_s : Nat → Int32) (v_statuses : Nat → Int32) (v_pile : Nat → Int32) (x1 : Int32) (x2 : Int32) (rr : Int32) (kk' : (Nat → Int32) × (Nat → Int32)) (hf : fX5_of v_s v_statuses v_pile x1 x2 = some (rr, kk')) : Met l yX5_of (Cond.code yX5_of cX5_of 3 (some .int) :: wA) rX5_of (q_Pre D cI cJ cZ cS tb [.ref a_t, .int x1, .int x2] sz (wX5_of cI cJ cZ cS a_t a_s a_keptS a_statuses a_pile a_tape a_steps a_wish a_mark a_bitsOf a_sizeOf a_number a_moved v_isKept v_taped v_at v_fault v_laid v_open v_s v_statuses v_pile)) (q_Ri D rr (va_A (wX5_of cI cJ cZ cS a_t a_s a_keptS a_statuses a_pile a_tape a_steps a_wish a_mark a_bitsOf a_sizeOf a_number a_moved v_isKept v_taped v_at v_fault v_laid v_open v_s v_statuses v_pile) sz) ((fun k : (Nat → Int32) × (Nat → Int32) => (wX5_of cI cJ cZ cS a_t a_s a_keptS a_statuses a_pile a_tape a_steps a_wish a_mark a_bitsOf a_sizeOf a_number a_moved v_isKept v_taped v_at v_fault v_laid v_open v_s k.1 k.2)) kk')) 0 0 (va_A (wX5_of cI cJ cZ cS a_t a_s a_keptS a_statuses a_pile a_tape a_steps a_wish a_mark a_bitsOf a_sizeOf a_number a_moved v_isKept v_taped v_at v_fault v_laid v_open v_s v_statuses v_pile) sz) := by
  refine q_enter (Qf := fun A => (q_Ri D rr A ((fun k : (Nat → Int32) × (Nat → Int32) => (wX5_of cI cJ cZ cS a_t a_s a_keptS a_statuses a_pile a_tape a_steps a_wish a_mark a_bitsOf a_sizeOf a_number a_moved v_isKept v_taped v_at v_fault v_laid v_open v_s k.1 k.2)) kk'))) (by decide) rfl (Nat.le_of_ble_eq_true rfl) ?_
  intro p e s m below meth c A ls fx hname h hl
  have hx := fx.1
  have hb := fx.2.1
  have hl : lv_has ls 3 [(0, .ref a_t), (1, .int x1), (2, .int x2)] := hl
  generalize h9 : s.heap = H at h ⊢
  clear h9
  generalize h9 : ([] : List Loc) = locs at h ⊢
  clear h9
  unfold fX5_of at hf
  refine lv_aload_n hx hb dX5_of_0 rfl (lv_at hl 0 rfl) ?_
  refine lv_iload_n hx hb dX5_of_1 rfl (lv_at hl 1 rfl) ?_
  obtain ⟨r2, k2, hg, hf⟩ := bR_inv hf
  refine q_ci (rest := []) (ws' := (wX5_of cI cJ cZ cS a_t a_s a_keptS a_statuses a_pile a_tape a_steps a_wish a_mark a_bitsOf a_sizeOf a_number a_moved v_isKept v_taped v_at v_fault v_laid v_open v_s v_statuses v_pile)) (w1 := (wX5_isGuest cI cJ cZ cS a_t a_s a_keptS a_statuses a_pile a_tape a_steps a_wish a_mark a_bitsOf a_sizeOf a_number a_moved v_isKept v_taped v_at v_fault v_laid v_open v_s)) fx h [0, 1] rfl rfl rfl rfl (q_runV fx h hl.1 [0, 1] rfl rfl (tX5_isGuest l D cI cJ cZ cS tb a_t a_s a_keptS a_statuses a_pile a_tape a_steps a_wish a_mark a_bitsOf a_sizeOf a_number a_moved H.size v_isKept v_taped v_at v_fault v_laid v_open v_s x1 r2 k2 hg) mvX5_isGuest k_711 ⟨rfl, rfl⟩ ⟨Nat.le_of_ble_eq_true rfl, Nat.le_of_ble_eq_true rfl⟩ rfl rfl rfl rfl (Nat.le_of_ble_eq_true rfl) dX5_of_2 ⟨Nat.le_of_ble_eq_true rfl, Nat.le_of_ble_eq_true rfl⟩) (fun H locs h => ?_)
  refine lv_if_eq (tgt := 20) hx hb dX5_of_5 (by decide) (fun c3 => ?_) (fun c3 => ?_)
  · have hf := it_t c3 hf
    exact LX5_of_20 fx h (lv_sub hl [0] rfl) hf
  have hf := it_f c3 hf
  refine lv_iload_n hx hb dX5_of_8 rfl (lv_at hl 2 rfl) ?_
  refine lv_i2l hx hb dX5_of_9 rfl ?_
  refine lv_lconst (v := 0) hx hb dX5_of_10 (by decide) ?_
  refine q_ldc2 fx k_696 dX5_of_11 ?_
  obtain ⟨r4, k4, hg, hf⟩ := bR_inv hf
  refine q_ci (rest := []) (ws' := (wX5_of cI cJ cZ cS a_t a_s a_keptS a_statuses a_pile a_tape a_steps a_wish a_mark a_bitsOf a_sizeOf a_number a_moved v_isKept v_taped v_at v_fault v_laid v_open v_s v_statuses v_pile)) (w1 := (wX5_in cI cJ cZ cS)) fx h [] rfl rfl rfl rfl (q_runS fx h hl.1 [] rfl rfl (tX5_in l D cI cJ cZ cS tb H.size (x2.toInt64) 0 5 r4 k4 hg) msX5_in k_697 ⟨rfl, rfl⟩ ⟨Nat.le_of_ble_eq_true rfl, Nat.le_of_ble_eq_true rfl⟩ rfl rfl (Nat.le_of_ble_eq_true rfl) dX5_of_14 ⟨Nat.le_of_ble_eq_true rfl, Nat.le_of_ble_eq_true rfl⟩) (fun H locs h => ?_)
  refine lv_if_ne (tgt := 27) hx hb dX5_of_17 (by decide) (fun c5 => ?_) (fun c5 => ?_)
  · have hf := it_f c5 hf
    refine lv_iload_n hx hb dX5_of_27 rfl (lv_at hl 2 rfl) ?_
    rcases it_or hf with ⟨c6, hf⟩ | ⟨c6, hf⟩
    · refine lv_tableOut (tgt := 122) hx hb dX5_of_28 c6 (by decide) ?_
      refine lv_aload_n hx hb dX5_of_122 rfl (lv_at hl 0 rfl) ?_
      refine lv_iload_n hx hb dX5_of_123 rfl (lv_at hl 1 rfl) ?_
      refine lv_iload_n hx hb dX5_of_124 rfl (lv_at hl 2 rfl) ?_
      obtain ⟨r7, k7, hg, hf⟩ := bR_inv hf
      refine q_ci (rest := []) (ws' := (wX5_of cI cJ cZ cS a_t a_s a_keptS a_statuses a_pile a_tape a_steps a_wish a_mark a_bitsOf a_sizeOf a_number a_moved v_isKept v_taped v_at v_fault v_laid v_open v_s v_statuses v_pile)) (w1 := (wX5_its cI cJ cZ cS a_t a_s a_keptS a_statuses a_pile a_tape a_steps a_wish a_mark a_bitsOf a_sizeOf a_number a_moved v_isKept v_taped v_at v_fault v_laid v_open v_s)) fx h [0, 1] rfl rfl rfl rfl (q_runV fx h hl.1 [0, 1] rfl rfl (tX5_its l D cI cJ cZ cS tb a_t a_s a_keptS a_statuses a_pile a_tape a_steps a_wish a_mark a_bitsOf a_sizeOf a_number a_moved H.size v_isKept v_taped v_at v_fault v_laid v_open v_s x1 x2 r7 k7 hg) mvX5_its k_725 ⟨rfl, rfl⟩ ⟨Nat.le_of_ble_eq_true rfl, Nat.le_of_ble_eq_true rfl⟩ rfl rfl rfl rfl (Nat.le_of_ble_eq_true rfl) dX5_of_125 ⟨Nat.le_of_ble_eq_true rfl, Nat.le_of_ble_eq_true rfl⟩) (fun H locs h => ?_)
      exact q_reti (fun k : (Nat → Int32) × (Nat → Int32) => (wX5_of cI cJ cZ cS a_t a_s a_keptS a_statuses a_pile a_tape a_steps a_wish a_mark a_bitsOf a_sizeOf a_number a_moved v_isKept v_taped v_at v_fault v_laid v_open v_s k.1 k.2)) fx hf h dX5_of_128
    have c6 := not_or.mp c6
    rcases it_or hf with ⟨c8, hf⟩ | ⟨c8, hf⟩
    · refine lv_tableIn (off := 32) (tgt := 60) hx hb dX5_of_28 c6.1 c6.2 (by rw [c8]; rfl) (by decide) ?_
      refine lv_aload_n hx hb dX5_of_60 rfl (lv_at hl 0 rfl) ?_
      refine q_get (v := .ref a_s) fx inX5 h 0 rfl rfl 0 (by decide) k_636 rfl dX5_of_61 ?_
      refine lv_iconst (v := 1) hx hb dX5_of_64 (by decide) ?_
      refine q_ialdK fx h 1 rfl 1 (vinK (by decide)) (by decide) dX5_of_65 ?_
      refine lv_iload_n hx hb dX5_of_66 rfl (lv_at hl 1 rfl) ?_
      refine lv_ishr hx hb dX5_of_67 ?_
      refine lv_iconst (v := 1) hx hb dX5_of_68 (by decide) ?_
      refine lv_iand hx hb dX5_of_69 ?_
      exact q_reti (fun k : (Nat → Int32) × (Nat → Int32) => (wX5_of cI cJ cZ cS a_t a_s a_keptS a_statuses a_pile a_tape a_steps a_wish a_mark a_bitsOf a_sizeOf a_number a_moved v_isKept v_taped v_at v_fault v_laid v_open v_s k.1 k.2)) fx hf h dX5_of_70
    rcases it_or hf with ⟨c9, hf⟩ | ⟨c9, hf⟩
    · refine lv_tableIn (off := 43) (tgt := 71) hx hb dX5_of_28 c6.1 c6.2 (by rw [c9]; rfl) (by decide) ?_
      refine lv_aload_n hx hb dX5_of_71 rfl (lv_at hl 0 rfl) ?_
      refine lv_iload_n hx hb dX5_of_72 rfl (lv_at hl 1 rfl) ?_
      refine lv_aload_n hx hb dX5_of_73 rfl (lv_at hl 0 rfl) ?_
      refine q_get (v := .ref a_s) fx inX5 h 0 rfl rfl 0 (by decide) k_636 rfl dX5_of_74 ?_
      refine lv_iconst (v := 1) hx hb dX5_of_77 (by decide) ?_
      refine q_ialdK fx h 1 rfl 1 (vinK (by decide)) (by decide) dX5_of_78 ?_
      obtain ⟨r10, k10, hg, hf⟩ := bR_inv hf
      refine q_ci (rest := []) (ws' := (wX5_of cI cJ cZ cS a_t a_s a_keptS a_statuses a_pile a_tape a_steps a_wish a_mark a_bitsOf a_sizeOf a_number a_moved v_isKept v_taped v_at v_fault v_laid v_open v_s v_statuses k10)) (w1 := (wX5_comesBy cI cJ cZ cS a_t a_s a_keptS a_statuses a_pile a_tape a_steps a_wish a_mark a_bitsOf a_sizeOf a_number a_moved v_isKept v_taped v_at v_fault v_laid v_open v_s k10)) fx h [0, 1, 3] rfl rfl rfl rfl (q_runV fx h hl.1 [0, 1, 3] rfl rfl (tX5_comesBy l D cI cJ cZ cS tb a_t a_s a_keptS a_statuses a_pile a_tape a_steps a_wish a_mark a_bitsOf a_sizeOf a_number a_moved H.size v_isKept v_taped v_at v_fault v_laid v_open v_s v_pile x1 (v_s 1) r10 k10 hg) mvX5_comesBy k_715 ⟨rfl, rfl⟩ ⟨Nat.le_of_ble_eq_true rfl, Nat.le_of_ble_eq_true rfl⟩ rfl rfl rfl rfl (Nat.le_of_ble_eq_true rfl) dX5_of_79 ⟨Nat.le_of_ble_eq_true rfl, Nat.le_of_ble_eq_true rfl⟩) (fun H locs h => ?_)
      refine lv_if_eq (tgt := 89) hx hb dX5_of_82 (by decide) (fun c11 => ?_) (fun c11 => ?_)
      · have hf := it_t c11 hf
        refine lv_iconst (v := 0) hx hb dX5_of_89 (by decide) ?_
        exact q_reti (fun k : (Nat → Int32) × (Nat → Int32) => (wX5_of cI cJ cZ cS a_t a_s a_keptS a_statuses a_pile a_tape a_steps a_wish a_mark a_bitsOf a_sizeOf a_number a_moved v_isKept v_taped v_at v_fault v_laid v_open v_s k.1 k.2)) fx hf h dX5_of_90
      have hf := it_f c11 hf
      refine lv_iconst (v := 1) hx hb dX5_of_85 (by decide) ?_
      refine lv_goto (tgt := 90) hx hb dX5_of_86 (by decide) ?_
      exact q_reti (fun k : (Nat → Int32) × (Nat → Int32) => (wX5_of cI cJ cZ cS a_t a_s a_keptS a_statuses a_pile a_tape a_steps a_wish a_mark a_bitsOf a_sizeOf a_number a_moved v_isKept v_taped v_at v_fault v_laid v_open v_s k.1 k.2)) fx hf h dX5_of_90
    rcases it_or hf with ⟨c12, hf⟩ | ⟨c12, hf⟩
    · refine lv_tableIn (off := 63) (tgt := 91) hx hb dX5_of_28 c6.1 c6.2 (by rw [c12]; rfl) (by decide) ?_
      refine lv_aload_n hx hb dX5_of_91 rfl (lv_at hl 0 rfl) ?_
      refine lv_iload_n hx hb dX5_of_92 rfl (lv_at hl 1 rfl) ?_
      refine lv_aload_n hx hb dX5_of_93 rfl (lv_at hl 0 rfl) ?_
      refine q_get (v := .ref a_s) fx inX5 h 0 rfl rfl 0 (by decide) k_636 rfl dX5_of_94 ?_
      refine lv_iconst (v := 1) hx hb dX5_of_97 (by decide) ?_
      refine q_ialdK fx h 1 rfl 1 (vinK (by decide)) (by decide) dX5_of_98 ?_
      obtain ⟨r13, k13, hg, hf⟩ := bR_inv hf
      refine q_ci (rest := []) (ws' := (wX5_of cI cJ cZ cS a_t a_s a_keptS a_statuses a_pile a_tape a_steps a_wish a_mark a_bitsOf a_sizeOf a_number a_moved v_isKept v_taped v_at v_fault v_laid v_open v_s v_statuses k13)) (w1 := (wX5_holds cI cJ cZ cS a_t a_s a_keptS a_statuses a_pile a_tape a_steps a_wish a_mark a_bitsOf a_sizeOf a_number a_moved v_isKept v_taped v_at v_fault v_laid v_open v_s k13)) fx h [0, 1, 3] rfl rfl rfl rfl (q_runV fx h hl.1 [0, 1, 3] rfl rfl (tX5_holds l D cI cJ cZ cS tb a_t a_s a_keptS a_statuses a_pile a_tape a_steps a_wish a_mark a_bitsOf a_sizeOf a_number a_moved H.size v_isKept v_taped v_at v_fault v_laid v_open v_s v_pile x1 (v_s 1) r13 k13 hg) mvX5_holds k_729 ⟨rfl, rfl⟩ ⟨Nat.le_of_ble_eq_true rfl, Nat.le_of_ble_eq_true rfl⟩ rfl rfl rfl rfl (Nat.le_of_ble_eq_true rfl) dX5_of_99 ⟨Nat.le_of_ble_eq_true rfl, Nat.le_of_ble_eq_true rfl⟩) (fun H locs h => ?_)
      refine lv_if_eq (tgt := 109) hx hb dX5_of_102 (by decide) (fun c14 => ?_) (fun c14 => ?_)
      · have hf := it_t c14 hf
        refine lv_iconst (v := 0) hx hb dX5_of_109 (by decide) ?_
        exact q_reti (fun k : (Nat → Int32) × (Nat → Int32) => (wX5_of cI cJ cZ cS a_t a_s a_keptS a_statuses a_pile a_tape a_steps a_wish a_mark a_bitsOf a_sizeOf a_number a_moved v_isKept v_taped v_at v_fault v_laid v_open v_s k.1 k.2)) fx hf h dX5_of_110
      have hf := it_f c14 hf
      refine lv_iconst (v := 1) hx hb dX5_of_105 (by decide) ?_
      refine lv_goto (tgt := 110) hx hb dX5_of_106 (by decide) ?_
      exact q_reti (fun k : (Nat → Int32) × (Nat → Int32) => (wX5_of cI cJ cZ cS a_t a_s a_keptS a_statuses a_pile a_tape a_steps a_wish a_mark a_bitsOf a_sizeOf a_number a_moved v_isKept v_taped v_at v_fault v_laid v_open v_s k.1 k.2)) fx hf h dX5_of_110
    rcases it_or hf with ⟨c15, hf⟩ | ⟨c15, hf⟩
    · refine lv_tableIn (off := 83) (tgt := 111) hx hb dX5_of_28 c6.1 c6.2 (by rw [c15]; rfl) (by decide) ?_
      refine lv_iload_n hx hb dX5_of_111 rfl (lv_at hl 1 rfl) ?_
      refine lv_aload_n hx hb dX5_of_112 rfl (lv_at hl 0 rfl) ?_
      refine q_get (v := .ref a_s) fx inX5 h 0 rfl rfl 0 (by decide) k_636 rfl dX5_of_113 ?_
      refine lv_iconst (v := 1) hx hb dX5_of_116 (by decide) ?_
      refine q_ialdK fx h 1 rfl 1 (vinK (by decide)) (by decide) dX5_of_117 ?_
      obtain ⟨r16, k16, hg, hf⟩ := bR_inv hf
      refine q_ci (rest := []) (ws' := (wX5_of cI cJ cZ cS a_t a_s a_keptS a_statuses a_pile a_tape a_steps a_wish a_mark a_bitsOf a_sizeOf a_number a_moved v_isKept v_taped v_at v_fault v_laid v_open v_s v_statuses v_pile)) (w1 := (wX5_others cI cJ cZ cS)) fx h [] rfl rfl rfl rfl (q_runS fx h hl.1 [] rfl rfl (tX5_others l D cI cJ cZ cS tb H.size x1 (v_s 1) r16 k16 hg) msX5_others k_719 ⟨rfl, rfl⟩ ⟨Nat.le_of_ble_eq_true rfl, Nat.le_of_ble_eq_true rfl⟩ rfl rfl (Nat.le_of_ble_eq_true rfl) dX5_of_118 ⟨Nat.le_of_ble_eq_true rfl, Nat.le_of_ble_eq_true rfl⟩) (fun H locs h => ?_)
      exact q_reti (fun k : (Nat → Int32) × (Nat → Int32) => (wX5_of cI cJ cZ cS a_t a_s a_keptS a_statuses a_pile a_tape a_steps a_wish a_mark a_bitsOf a_sizeOf a_number a_moved v_isKept v_taped v_at v_fault v_laid v_open v_s k.1 k.2)) fx hf h dX5_of_121
    cases hf
  have hf := it_t c5 hf
  exact LX5_of_20 fx h (lv_sub hl [0] rfl) hf
/-! X5_becomes -/
abbrev wX5_becomes (cI cJ cZ cS : ClassId) (a_t a_s a_keptS a_statuses a_pile a_tape a_steps a_wish a_mark a_bitsOf a_sizeOf a_number a_moved : Nat) (v_isKept : Int32) (v_taped : Int32) (v_at : Int32) (v_fault : Int32) (v_laid : Int32) (v_open : Int32) (v_s : Nat → Int32) : va_W := [(a_t, .inr (5, [.ref a_s, .ref a_keptS, .ref a_statuses, .int v_isKept, .ref a_pile, .ref a_tape, .ref a_steps, .int v_taped, .int v_at, .int v_fault, .int v_laid, .int v_open, .ref a_wish, .ref a_mark, .ref a_bitsOf, .ref a_sizeOf, .ref a_number, .ref a_moved])), (a_s, .inl (cI, 538, .inl v_s))]
abbrev rX5_becomes : Room := { frames := 0, cells := 0, slots := 0, locals := 0 }
def fX5_becomes (v_s : Nat → Int32) (x1 : Int32) (x2 : Int32) : Option (Int32 × (Nat → Int32)) :=
  gIn x1 538 (
  nm (v_s x1.toNatClampNeg) (fun u2 =>
  gIn x1 538 (
  some (u2, (upd v_s x1.toNatClampNeg x2)))))
set_option maxRecDepth 100000 in
set_option maxHeartbeats 4000000 in
theorem tX5_becomes (l : Launch) (D : va_G) (cI cJ cZ cS : ClassId) (tb : Nat) (a_t a_s a_keptS a_statuses a_pile a_tape a_steps a_wish a_mark a_bitsOf a_sizeOf a_number a_moved : Nat) (sz : Nat) (v_isKept : Int32) (v_taped : Int32) (v_at : Int32) (v_fault : Int32) (v_laid : Int32) (v_open : Int32) (v_s : Nat → Int32) (x1 : Int32) (x2 : Int32) (rr : Int32) (kk' : (Nat → Int32)) (hf : fX5_becomes v_s x1 x2 = some (rr, kk')) : Met l yX5_becomes (Cond.code yX5_becomes cX5_becomes 4 (some .int) :: wA) rX5_becomes (q_Pre D cI cJ cZ cS tb [.ref a_t, .int x1, .int x2] sz (wX5_becomes cI cJ cZ cS a_t a_s a_keptS a_statuses a_pile a_tape a_steps a_wish a_mark a_bitsOf a_sizeOf a_number a_moved v_isKept v_taped v_at v_fault v_laid v_open v_s)) (q_Ri D rr (va_A (wX5_becomes cI cJ cZ cS a_t a_s a_keptS a_statuses a_pile a_tape a_steps a_wish a_mark a_bitsOf a_sizeOf a_number a_moved v_isKept v_taped v_at v_fault v_laid v_open v_s) sz) ((fun k : (Nat → Int32) => (wX5_becomes cI cJ cZ cS a_t a_s a_keptS a_statuses a_pile a_tape a_steps a_wish a_mark a_bitsOf a_sizeOf a_number a_moved v_isKept v_taped v_at v_fault v_laid v_open k)) kk')) 0 0 (va_A (wX5_becomes cI cJ cZ cS a_t a_s a_keptS a_statuses a_pile a_tape a_steps a_wish a_mark a_bitsOf a_sizeOf a_number a_moved v_isKept v_taped v_at v_fault v_laid v_open v_s) sz) := by
  refine q_enter (Qf := fun A => (q_Ri D rr A ((fun k : (Nat → Int32) => (wX5_becomes cI cJ cZ cS a_t a_s a_keptS a_statuses a_pile a_tape a_steps a_wish a_mark a_bitsOf a_sizeOf a_number a_moved v_isKept v_taped v_at v_fault v_laid v_open k)) kk'))) (by decide) rfl (Nat.le_of_ble_eq_true rfl) ?_
  intro p e s m below meth c A ls fx hname h hl
  have hx := fx.1
  have hb := fx.2.1
  have hl : lv_has ls 4 [(0, .ref a_t), (1, .int x1), (2, .int x2)] := hl
  generalize h9 : s.heap = H at h ⊢
  clear h9
  generalize h9 : ([] : List Loc) = locs at h ⊢
  clear h9
  unfold fX5_becomes at hf
  refine lv_aload_n hx hb dX5_becomes_0 rfl (lv_at hl 0 rfl) ?_
  refine q_get (v := .ref a_s) fx inX5 h 0 rfl rfl 0 (by decide) k_636 rfl dX5_becomes_1 ?_
  refine lv_iload_n hx hb dX5_becomes_4 rfl (lv_at hl 1 rfl) ?_
  obtain ⟨i1, hf⟩ := gIn_inv hf
  refine q_iald fx h 1 rfl i1 dX5_becomes_5 ?_
  obtain ⟨u2, eu2, hf⟩ := nm_inv hf
  refine lv_eqi eu2 ?_
  refine lv_istore_n (lv' := [(3, .int u2), (0, .ref a_t), (1, .int x1), (2, .int x2)]) hx hb dX5_becomes_6 rfl hl (by decide) rfl (fun ls hl => ?_)
  refine lv_aload_n hx hb dX5_becomes_7 rfl (lv_at hl 1 rfl) ?_
  refine q_get (v := .ref a_s) fx inX5 h 0 rfl rfl 0 (by decide) k_636 rfl dX5_becomes_8 ?_
  refine lv_iload_n hx hb dX5_becomes_11 rfl (lv_at hl 2 rfl) ?_
  refine lv_iload_n hx hb dX5_becomes_12 rfl (lv_at hl 3 rfl) ?_
  obtain ⟨i3, hf⟩ := gIn_inv hf
  refine q_iast (ws' := (wX5_becomes cI cJ cZ cS a_t a_s a_keptS a_statuses a_pile a_tape a_steps a_wish a_mark a_bitsOf a_sizeOf a_number a_moved v_isKept v_taped v_at v_fault v_laid v_open (upd v_s x1.toNatClampNeg x2))) fx h 1 rfl i3 rfl dX5_becomes_13 (fun H locs h => ?_)
  refine lv_iload_n hx hb dX5_becomes_14 rfl (lv_at hl 0 rfl) ?_
  exact q_reti (fun k : (Nat → Int32) => (wX5_becomes cI cJ cZ cS a_t a_s a_keptS a_statuses a_pile a_tape a_steps a_wish a_mark a_bitsOf a_sizeOf a_number a_moved v_isKept v_taped v_at v_fault v_laid v_open k)) fx hf h dX5_becomes_15
/-! X5_cost -/
abbrev wX5_cost (cI cJ cZ cS : ClassId) (a_t a_s a_keptS a_statuses a_pile a_tape a_steps a_wish a_mark a_bitsOf a_sizeOf a_number a_moved : Nat) (v_isKept : Int32) (v_taped : Int32) (v_at : Int32) (v_fault : Int32) (v_laid : Int32) (v_open : Int32) (v_s : Nat → Int32) (v_statuses : Nat → Int32) : va_W := [(a_t, .inr (5, [.ref a_s, .ref a_keptS, .ref a_statuses, .int v_isKept, .ref a_pile, .ref a_tape, .ref a_steps, .int v_taped, .int v_at, .int v_fault, .int v_laid, .int v_open, .ref a_wish, .ref a_mark, .ref a_bitsOf, .ref a_sizeOf, .ref a_number, .ref a_moved])), (a_s, .inl (cI, 538, .inl v_s)), (a_statuses, .inl (cI, 7, .inl v_statuses))]
abbrev rX5_cost : Room := { frames := 2, cells := 0, slots := 0, locals := 46 }
def fX5_cost_35 (v_s : Nat → Int32) (v_statuses : Nat → Int32) : Option (Int32 × (Nat → Int32) × (Nat → Int32)) :=
  bR (fX5_finds v_statuses (-1000000001)) (fun r1 k1 =>
  some (r1, (v_s, k1)))
set_option maxRecDepth 100000 in
set_option maxHeartbeats 4000000 in
theorem LX5_cost_35 {p : Program} {l : Launch} {e : Env} {s : State} {m : MethodId} {args : Array Value} {below : List Frame} {meth : Method} {c : Code} {D : va_G} {cI cJ cZ cS : ClassId} {tb : Nat} {A : Nat → Prop} {a_t a_s a_keptS a_statuses a_pile a_tape a_steps a_wish a_mark a_bitsOf a_sizeOf a_number a_moved : Nat} {v_isKept : Int32} {v_taped : Int32} {v_at : Int32} {v_fault : Int32} {v_laid : Int32} {v_open : Int32} {rr : Int32} {kk' : (Nat → Int32) × (Nat → Int32)} (fx : q_Fx p s m args meth c cX5_cost 3 RX5 (some .int) D cI cJ cZ cS tb A) : ∀ {v_s : Nat → Int32} {v_statuses : Nat → Int32} {H : Heap} {locs : List Loc} {ls : Array Slot}, q_H D A s (wX5_cost cI cJ cZ cS a_t a_s a_keptS a_statuses a_pile a_tape a_steps a_wish a_mark a_bitsOf a_sizeOf a_number a_moved v_isKept v_taped v_at v_fault v_laid v_open v_s v_statuses) H locs → lv_has ls 3 [(0, .ref a_t)] → fX5_cost_35 v_s v_statuses = some (rr, kk') → W p l e rX5_cost s m args below meth c H locs 0 0 (MQ below (q_Ri D rr A ((fun k : (Nat → Int32) × (Nat → Int32) => (wX5_cost cI cJ cZ cS a_t a_s a_keptS a_statuses a_pile a_tape a_steps a_wish a_mark a_bitsOf a_sizeOf a_number a_moved v_isKept v_taped v_at v_fault v_laid v_open k.1 k.2)) kk')) args s 0 0 A) (F0 m 35 ls []) := by
  intro v_s v_statuses H locs ls h hl hf
  have hx := fx.1
  have hb := fx.2.1
  unfold fX5_cost_35 at hf
  refine lv_aload_n hx hb dX5_cost_35 rfl (lv_at hl 0 rfl) ?_
  refine q_ldc fx k_701 dX5_cost_36 ?_
  obtain ⟨r1, k1, hg, hf⟩ := bR_inv hf
  refine q_ci (rest := []) (ws' := (wX5_cost cI cJ cZ cS a_t a_s a_keptS a_statuses a_pile a_tape a_steps a_wish a_mark a_bitsOf a_sizeOf a_number a_moved v_isKept v_taped v_at v_fault v_laid v_open v_s k1)) (w1 := (wX5_finds cI cJ cZ cS a_t a_s a_keptS a_statuses a_pile a_tape a_steps a_wish a_mark a_bitsOf a_sizeOf a_number a_moved v_isKept v_taped v_at v_fault v_laid v_open k1)) fx h [0, 2] rfl rfl rfl rfl (q_runV fx h hl.1 [0, 2] rfl rfl (tX5_finds l D cI cJ cZ cS tb a_t a_s a_keptS a_statuses a_pile a_tape a_steps a_wish a_mark a_bitsOf a_sizeOf a_number a_moved H.size v_isKept v_taped v_at v_fault v_laid v_open v_statuses (-1000000001) r1 k1 hg) mvX5_finds k_702 ⟨rfl, rfl⟩ ⟨Nat.le_of_ble_eq_true rfl, Nat.le_of_ble_eq_true rfl⟩ rfl rfl rfl rfl (Nat.le_of_ble_eq_true rfl) dX5_cost_38 ⟨Nat.le_of_ble_eq_true rfl, Nat.le_of_ble_eq_true rfl⟩) (fun H locs h => ?_)
  exact q_reti (fun k : (Nat → Int32) × (Nat → Int32) => (wX5_cost cI cJ cZ cS a_t a_s a_keptS a_statuses a_pile a_tape a_steps a_wish a_mark a_bitsOf a_sizeOf a_number a_moved v_isKept v_taped v_at v_fault v_laid v_open k.1 k.2)) fx hf h dX5_cost_41
def fX5_cost (v_s : Nat → Int32) (v_statuses : Nat → Int32) (x1 : Int32) (x2 : Int32) : Option (Int32 × (Nat → Int32) × (Nat → Int32)) :=
  bR (fX5_isGuest v_s x1) (fun r2 k2 =>
  (if r2 = 0 then (
  fX5_cost_35  v_s v_statuses)
  else (
  bR (fX5_in (x2.toInt64) 0 99) (fun r4 k4 =>
  (if r4 = 0 then (
  fX5_cost_35  v_s v_statuses)
  else (
  bR (fX5_becomes v_s ((2 + (3 * x1)) + 1) x2) (fun r6 k6 =>
  some (r6, (k6, v_statuses)))))))))
set_option maxRecDepth 100000 in
set_option maxHeartbeats 4000000 in
theorem tX5_cost (l : Launch) (D : va_G) (cI cJ cZ cS : ClassId) (tb : Nat) (a_t a_s a_keptS a_statuses a_pile a_tape a_steps a_wish a_mark a_bitsOf a_sizeOf a_number a_moved : Nat) (sz : Nat) (v_isKept : Int32) (v_taped : Int32) (v_at : Int32) (v_fault : Int32) (v_laid : Int32) (v_open : Int32) (v_s : Nat → Int32) (v_statuses : Nat → Int32) (x1 : Int32) (x2 : Int32) (rr : Int32) (kk' : (Nat → Int32) × (Nat → Int32)) (hf : fX5_cost v_s v_statuses x1 x2 = some (rr, kk')) : Met l yX5_cost (Cond.code yX5_cost cX5_cost 3 (some .int) :: wA) rX5_cost (q_Pre D cI cJ cZ cS tb [.ref a_t, .int x1, .int x2] sz (wX5_cost cI cJ cZ cS a_t a_s a_keptS a_statuses a_pile a_tape a_steps a_wish a_mark a_bitsOf a_sizeOf a_number a_moved v_isKept v_taped v_at v_fault v_laid v_open v_s v_statuses)) (q_Ri D rr (va_A (wX5_cost cI cJ cZ cS a_t a_s a_keptS a_statuses a_pile a_tape a_steps a_wish a_mark a_bitsOf a_sizeOf a_number a_moved v_isKept v_taped v_at v_fault v_laid v_open v_s v_statuses) sz) ((fun k : (Nat → Int32) × (Nat → Int32) => (wX5_cost cI cJ cZ cS a_t a_s a_keptS a_statuses a_pile a_tape a_steps a_wish a_mark a_bitsOf a_sizeOf a_number a_moved v_isKept v_taped v_at v_fault v_laid v_open k.1 k.2)) kk')) 0 0 (va_A (wX5_cost cI cJ cZ cS a_t a_s a_keptS a_statuses a_pile a_tape a_steps a_wish a_mark a_bitsOf a_sizeOf a_number a_moved v_isKept v_taped v_at v_fault v_laid v_open v_s v_statuses) sz) := by
  refine q_enter (Qf := fun A => (q_Ri D rr A ((fun k : (Nat → Int32) × (Nat → Int32) => (wX5_cost cI cJ cZ cS a_t a_s a_keptS a_statuses a_pile a_tape a_steps a_wish a_mark a_bitsOf a_sizeOf a_number a_moved v_isKept v_taped v_at v_fault v_laid v_open k.1 k.2)) kk'))) (by decide) rfl (Nat.le_of_ble_eq_true rfl) ?_
  intro p e s m below meth c A ls fx hname h hl
  have hx := fx.1
  have hb := fx.2.1
  have hl : lv_has ls 3 [(0, .ref a_t), (1, .int x1), (2, .int x2)] := hl
  generalize h9 : s.heap = H at h ⊢
  clear h9
  generalize h9 : ([] : List Loc) = locs at h ⊢
  clear h9
  unfold fX5_cost at hf
  refine lv_aload_n hx hb dX5_cost_0 rfl (lv_at hl 0 rfl) ?_
  refine lv_iload_n hx hb dX5_cost_1 rfl (lv_at hl 1 rfl) ?_
  obtain ⟨r2, k2, hg, hf⟩ := bR_inv hf
  refine q_ci (rest := []) (ws' := (wX5_cost cI cJ cZ cS a_t a_s a_keptS a_statuses a_pile a_tape a_steps a_wish a_mark a_bitsOf a_sizeOf a_number a_moved v_isKept v_taped v_at v_fault v_laid v_open v_s v_statuses)) (w1 := (wX5_isGuest cI cJ cZ cS a_t a_s a_keptS a_statuses a_pile a_tape a_steps a_wish a_mark a_bitsOf a_sizeOf a_number a_moved v_isKept v_taped v_at v_fault v_laid v_open v_s)) fx h [0, 1] rfl rfl rfl rfl (q_runV fx h hl.1 [0, 1] rfl rfl (tX5_isGuest l D cI cJ cZ cS tb a_t a_s a_keptS a_statuses a_pile a_tape a_steps a_wish a_mark a_bitsOf a_sizeOf a_number a_moved H.size v_isKept v_taped v_at v_fault v_laid v_open v_s x1 r2 k2 hg) mvX5_isGuest k_711 ⟨rfl, rfl⟩ ⟨Nat.le_of_ble_eq_true rfl, Nat.le_of_ble_eq_true rfl⟩ rfl rfl rfl rfl (Nat.le_of_ble_eq_true rfl) dX5_cost_2 ⟨Nat.le_of_ble_eq_true rfl, Nat.le_of_ble_eq_true rfl⟩) (fun H locs h => ?_)
  refine lv_if_eq (tgt := 35) hx hb dX5_cost_5 (by decide) (fun c3 => ?_) (fun c3 => ?_)
  · have hf := it_t c3 hf
    exact LX5_cost_35 fx h (lv_sub hl [0] rfl) hf
  have hf := it_f c3 hf
  refine lv_iload_n hx hb dX5_cost_8 rfl (lv_at hl 2 rfl) ?_
  refine lv_i2l hx hb dX5_cost_9 rfl ?_
  refine lv_lconst (v := 0) hx hb dX5_cost_10 (by decide) ?_
  refine q_ldc2 fx k_700 dX5_cost_11 ?_
  obtain ⟨r4, k4, hg, hf⟩ := bR_inv hf
  refine q_ci (rest := []) (ws' := (wX5_cost cI cJ cZ cS a_t a_s a_keptS a_statuses a_pile a_tape a_steps a_wish a_mark a_bitsOf a_sizeOf a_number a_moved v_isKept v_taped v_at v_fault v_laid v_open v_s v_statuses)) (w1 := (wX5_in cI cJ cZ cS)) fx h [] rfl rfl rfl rfl (q_runS fx h hl.1 [] rfl rfl (tX5_in l D cI cJ cZ cS tb H.size (x2.toInt64) 0 99 r4 k4 hg) msX5_in k_697 ⟨rfl, rfl⟩ ⟨Nat.le_of_ble_eq_true rfl, Nat.le_of_ble_eq_true rfl⟩ rfl rfl (Nat.le_of_ble_eq_true rfl) dX5_cost_14 ⟨Nat.le_of_ble_eq_true rfl, Nat.le_of_ble_eq_true rfl⟩) (fun H locs h => ?_)
  refine lv_if_eq (tgt := 35) hx hb dX5_cost_17 (by decide) (fun c5 => ?_) (fun c5 => ?_)
  · have hf := it_t c5 hf
    exact LX5_cost_35 fx h (lv_sub hl [0] rfl) hf
  have hf := it_f c5 hf
  refine lv_aload_n hx hb dX5_cost_20 rfl (lv_at hl 0 rfl) ?_
  refine lv_iconst (v := 2) hx hb dX5_cost_21 (by decide) ?_
  refine lv_iconst (v := 3) hx hb dX5_cost_22 (by decide) ?_
  refine lv_iload_n hx hb dX5_cost_23 rfl (lv_at hl 1 rfl) ?_
  refine lv_imul hx hb dX5_cost_24 ?_
  refine lv_iadd hx hb dX5_cost_25 ?_
  refine lv_iconst (v := 1) hx hb dX5_cost_26 (by decide) ?_
  refine lv_iadd hx hb dX5_cost_27 ?_
  refine lv_iload_n hx hb dX5_cost_28 rfl (lv_at hl 2 rfl) ?_
  obtain ⟨r6, k6, hg, hf⟩ := bR_inv hf
  refine q_ci (rest := []) (ws' := (wX5_cost cI cJ cZ cS a_t a_s a_keptS a_statuses a_pile a_tape a_steps a_wish a_mark a_bitsOf a_sizeOf a_number a_moved v_isKept v_taped v_at v_fault v_laid v_open k6 v_statuses)) (w1 := (wX5_becomes cI cJ cZ cS a_t a_s a_keptS a_statuses a_pile a_tape a_steps a_wish a_mark a_bitsOf a_sizeOf a_number a_moved v_isKept v_taped v_at v_fault v_laid v_open k6)) fx h [0, 1] rfl rfl rfl rfl (q_runV fx h hl.1 [0, 1] rfl rfl (tX5_becomes l D cI cJ cZ cS tb a_t a_s a_keptS a_statuses a_pile a_tape a_steps a_wish a_mark a_bitsOf a_sizeOf a_number a_moved H.size v_isKept v_taped v_at v_fault v_laid v_open v_s ((2 + (3 * x1)) + 1) x2 r6 k6 hg) mvX5_becomes k_740 ⟨rfl, rfl⟩ ⟨Nat.le_of_ble_eq_true rfl, Nat.le_of_ble_eq_true rfl⟩ rfl rfl rfl rfl (Nat.le_of_ble_eq_true rfl) dX5_cost_29 ⟨Nat.le_of_ble_eq_true rfl, Nat.le_of_ble_eq_true rfl⟩) (fun H locs h => ?_)
  refine lv_goto (tgt := 41) hx hb dX5_cost_32 (by decide) ?_
  exact q_reti (fun k : (Nat → Int32) × (Nat → Int32) => (wX5_cost cI cJ cZ cS a_t a_s a_keptS a_statuses a_pile a_tape a_steps a_wish a_mark a_bitsOf a_sizeOf a_number a_moved v_isKept v_taped v_at v_fault v_laid v_open k.1 k.2)) fx hf h dX5_cost_41
end
section
/-! X5_turn -/
abbrev wX5_turn (cI cJ cZ cS : ClassId) (a_t a_s a_keptS a_statuses a_pile a_tape a_steps a_wish a_mark a_bitsOf a_sizeOf a_number a_moved : Nat) (v_isKept : Int32) (v_taped : Int32) (v_at : Int32) (v_fault : Int32) (v_laid : Int32) (v_open : Int32) (v_s : Nat → Int32) (v_statuses : Nat → Int32) : va_W := [(a_t, .inr (5, [.ref a_s, .ref a_keptS, .ref a_statuses, .int v_isKept, .ref a_pile, .ref a_tape, .ref a_steps, .int v_taped, .int v_at, .int v_fault, .int v_laid, .int v_open, .ref a_wish, .ref a_mark, .ref a_bitsOf, .ref a_sizeOf, .ref a_number, .ref a_moved])), (a_s, .inl (cI, 538, .inl v_s)), (a_statuses, .inl (cI, 7, .inl v_statuses))]
abbrev rX5_turn : Room := { frames := 2, cells := 0, slots := 0, locals := 46 }
def fX5_turn_33 (v_s : Nat → Int32) (v_statuses : Nat → Int32) : Option (Int32 × (Nat → Int32) × (Nat → Int32)) :=
  bR (fX5_finds v_statuses (-1000000001)) (fun r1 k1 =>
  some (r1, (v_s, k1)))
set_option maxRecDepth 100000 in
set_option maxHeartbeats 4000000 in
theorem LX5_turn_33 {p : Program} {l : Launch} {e : Env} {s : State} {m : MethodId} {args : Array Value} {below : List Frame} {meth : Method} {c : Code} {D : va_G} {cI cJ cZ cS : ClassId} {tb : Nat} {A : Nat → Prop} {a_t a_s a_keptS a_statuses a_pile a_tape a_steps a_wish a_mark a_bitsOf a_sizeOf a_number a_moved : Nat} {v_isKept : Int32} {v_taped : Int32} {v_at : Int32} {v_fault : Int32} {v_laid : Int32} {v_open : Int32} {rr : Int32} {kk' : (Nat → Int32) × (Nat → Int32)} (fx : q_Fx p s m args meth c cX5_turn 3 RX5 (some .int) D cI cJ cZ cS tb A) : ∀ {v_s : Nat → Int32} {v_statuses : Nat → Int32} {H : Heap} {locs : List Loc} {ls : Array Slot}, q_H D A s (wX5_turn cI cJ cZ cS a_t a_s a_keptS a_statuses a_pile a_tape a_steps a_wish a_mark a_bitsOf a_sizeOf a_number a_moved v_isKept v_taped v_at v_fault v_laid v_open v_s v_statuses) H locs → lv_has ls 3 [(0, .ref a_t)] → fX5_turn_33 v_s v_statuses = some (rr, kk') → W p l e rX5_turn s m args below meth c H locs 0 0 (MQ below (q_Ri D rr A ((fun k : (Nat → Int32) × (Nat → Int32) => (wX5_turn cI cJ cZ cS a_t a_s a_keptS a_statuses a_pile a_tape a_steps a_wish a_mark a_bitsOf a_sizeOf a_number a_moved v_isKept v_taped v_at v_fault v_laid v_open k.1 k.2)) kk')) args s 0 0 A) (F0 m 33 ls []) := by
  intro v_s v_statuses H locs ls h hl hf
  have hx := fx.1
  have hb := fx.2.1
  unfold fX5_turn_33 at hf
  refine lv_aload_n hx hb dX5_turn_33 rfl (lv_at hl 0 rfl) ?_
  refine q_ldc fx k_701 dX5_turn_34 ?_
  obtain ⟨r1, k1, hg, hf⟩ := bR_inv hf
  refine q_ci (rest := []) (ws' := (wX5_turn cI cJ cZ cS a_t a_s a_keptS a_statuses a_pile a_tape a_steps a_wish a_mark a_bitsOf a_sizeOf a_number a_moved v_isKept v_taped v_at v_fault v_laid v_open v_s k1)) (w1 := (wX5_finds cI cJ cZ cS a_t a_s a_keptS a_statuses a_pile a_tape a_steps a_wish a_mark a_bitsOf a_sizeOf a_number a_moved v_isKept v_taped v_at v_fault v_laid v_open k1)) fx h [0, 2] rfl rfl rfl rfl (q_runV fx h hl.1 [0, 2] rfl rfl (tX5_finds l D cI cJ cZ cS tb a_t a_s a_keptS a_statuses a_pile a_tape a_steps a_wish a_mark a_bitsOf a_sizeOf a_number a_moved H.size v_isKept v_taped v_at v_fault v_laid v_open v_statuses (-1000000001) r1 k1 hg) mvX5_finds k_702 ⟨rfl, rfl⟩ ⟨Nat.le_of_ble_eq_true rfl, Nat.le_of_ble_eq_true rfl⟩ rfl rfl rfl rfl (Nat.le_of_ble_eq_true rfl) dX5_turn_36 ⟨Nat.le_of_ble_eq_true rfl, Nat.le_of_ble_eq_true rfl⟩) (fun H locs h => ?_)
  exact q_reti (fun k : (Nat → Int32) × (Nat → Int32) => (wX5_turn cI cJ cZ cS a_t a_s a_keptS a_statuses a_pile a_tape a_steps a_wish a_mark a_bitsOf a_sizeOf a_number a_moved v_isKept v_taped v_at v_fault v_laid v_open k.1 k.2)) fx hf h dX5_turn_39
def fX5_turn (v_s : Nat → Int32) (v_statuses : Nat → Int32) (x1 : Int32) (x2 : Int32) : Option (Int32 × (Nat → Int32) × (Nat → Int32)) :=
  bR (fX5_isGuest v_s x1) (fun r2 k2 =>
  (if r2 = 0 then (
  fX5_turn_33  v_s v_statuses)
  else (
  bR (fX5_in (x2.toInt64) 0 5) (fun r4 k4 =>
  (if r4 = 0 then (
  fX5_turn_33  v_s v_statuses)
  else (
  bR (fX5_becomes v_s (2 + (3 * x1)) x2) (fun r6 k6 =>
  some (r6, (k6, v_statuses)))))))))
set_option maxRecDepth 100000 in
set_option maxHeartbeats 4000000 in
theorem tX5_turn (l : Launch) (D : va_G) (cI cJ cZ cS : ClassId) (tb : Nat) (a_t a_s a_keptS a_statuses a_pile a_tape a_steps a_wish a_mark a_bitsOf a_sizeOf a_number a_moved : Nat) (sz : Nat) (v_isKept : Int32) (v_taped : Int32) (v_at : Int32) (v_fault : Int32) (v_laid : Int32) (v_open : Int32) (v_s : Nat → Int32) (v_statuses : Nat → Int32) (x1 : Int32) (x2 : Int32) (rr : Int32) (kk' : (Nat → Int32) × (Nat → Int32)) (hf : fX5_turn v_s v_statuses x1 x2 = some (rr, kk')) : Met l yX5_turn (Cond.code yX5_turn cX5_turn 3 (some .int) :: wA) rX5_turn (q_Pre D cI cJ cZ cS tb [.ref a_t, .int x1, .int x2] sz (wX5_turn cI cJ cZ cS a_t a_s a_keptS a_statuses a_pile a_tape a_steps a_wish a_mark a_bitsOf a_sizeOf a_number a_moved v_isKept v_taped v_at v_fault v_laid v_open v_s v_statuses)) (q_Ri D rr (va_A (wX5_turn cI cJ cZ cS a_t a_s a_keptS a_statuses a_pile a_tape a_steps a_wish a_mark a_bitsOf a_sizeOf a_number a_moved v_isKept v_taped v_at v_fault v_laid v_open v_s v_statuses) sz) ((fun k : (Nat → Int32) × (Nat → Int32) => (wX5_turn cI cJ cZ cS a_t a_s a_keptS a_statuses a_pile a_tape a_steps a_wish a_mark a_bitsOf a_sizeOf a_number a_moved v_isKept v_taped v_at v_fault v_laid v_open k.1 k.2)) kk')) 0 0 (va_A (wX5_turn cI cJ cZ cS a_t a_s a_keptS a_statuses a_pile a_tape a_steps a_wish a_mark a_bitsOf a_sizeOf a_number a_moved v_isKept v_taped v_at v_fault v_laid v_open v_s v_statuses) sz) := by
  refine q_enter (Qf := fun A => (q_Ri D rr A ((fun k : (Nat → Int32) × (Nat → Int32) => (wX5_turn cI cJ cZ cS a_t a_s a_keptS a_statuses a_pile a_tape a_steps a_wish a_mark a_bitsOf a_sizeOf a_number a_moved v_isKept v_taped v_at v_fault v_laid v_open k.1 k.2)) kk'))) (by decide) rfl (Nat.le_of_ble_eq_true rfl) ?_
  intro p e s m below meth c A ls fx hname h hl
  have hx := fx.1
  have hb := fx.2.1
  have hl : lv_has ls 3 [(0, .ref a_t), (1, .int x1), (2, .int x2)] := hl
  generalize h9 : s.heap = H at h ⊢
  clear h9
  generalize h9 : ([] : List Loc) = locs at h ⊢
  clear h9
  unfold fX5_turn at hf
  refine lv_aload_n hx hb dX5_turn_0 rfl (lv_at hl 0 rfl) ?_
  refine lv_iload_n hx hb dX5_turn_1 rfl (lv_at hl 1 rfl) ?_
  obtain ⟨r2, k2, hg, hf⟩ := bR_inv hf
  refine q_ci (rest := []) (ws' := (wX5_turn cI cJ cZ cS a_t a_s a_keptS a_statuses a_pile a_tape a_steps a_wish a_mark a_bitsOf a_sizeOf a_number a_moved v_isKept v_taped v_at v_fault v_laid v_open v_s v_statuses)) (w1 := (wX5_isGuest cI cJ cZ cS a_t a_s a_keptS a_statuses a_pile a_tape a_steps a_wish a_mark a_bitsOf a_sizeOf a_number a_moved v_isKept v_taped v_at v_fault v_laid v_open v_s)) fx h [0, 1] rfl rfl rfl rfl (q_runV fx h hl.1 [0, 1] rfl rfl (tX5_isGuest l D cI cJ cZ cS tb a_t a_s a_keptS a_statuses a_pile a_tape a_steps a_wish a_mark a_bitsOf a_sizeOf a_number a_moved H.size v_isKept v_taped v_at v_fault v_laid v_open v_s x1 r2 k2 hg) mvX5_isGuest k_711 ⟨rfl, rfl⟩ ⟨Nat.le_of_ble_eq_true rfl, Nat.le_of_ble_eq_true rfl⟩ rfl rfl rfl rfl (Nat.le_of_ble_eq_true rfl) dX5_turn_2 ⟨Nat.le_of_ble_eq_true rfl, Nat.le_of_ble_eq_true rfl⟩) (fun H locs h => ?_)
  refine lv_if_eq (tgt := 33) hx hb dX5_turn_5 (by decide) (fun c3 => ?_) (fun c3 => ?_)
  · have hf := it_t c3 hf
    exact LX5_turn_33 fx h (lv_sub hl [0] rfl) hf
  have hf := it_f c3 hf
  refine lv_iload_n hx hb dX5_turn_8 rfl (lv_at hl 2 rfl) ?_
  refine lv_i2l hx hb dX5_turn_9 rfl ?_
  refine lv_lconst (v := 0) hx hb dX5_turn_10 (by decide) ?_
  refine q_ldc2 fx k_696 dX5_turn_11 ?_
  obtain ⟨r4, k4, hg, hf⟩ := bR_inv hf
  refine q_ci (rest := []) (ws' := (wX5_turn cI cJ cZ cS a_t a_s a_keptS a_statuses a_pile a_tape a_steps a_wish a_mark a_bitsOf a_sizeOf a_number a_moved v_isKept v_taped v_at v_fault v_laid v_open v_s v_statuses)) (w1 := (wX5_in cI cJ cZ cS)) fx h [] rfl rfl rfl rfl (q_runS fx h hl.1 [] rfl rfl (tX5_in l D cI cJ cZ cS tb H.size (x2.toInt64) 0 5 r4 k4 hg) msX5_in k_697 ⟨rfl, rfl⟩ ⟨Nat.le_of_ble_eq_true rfl, Nat.le_of_ble_eq_true rfl⟩ rfl rfl (Nat.le_of_ble_eq_true rfl) dX5_turn_14 ⟨Nat.le_of_ble_eq_true rfl, Nat.le_of_ble_eq_true rfl⟩) (fun H locs h => ?_)
  refine lv_if_eq (tgt := 33) hx hb dX5_turn_17 (by decide) (fun c5 => ?_) (fun c5 => ?_)
  · have hf := it_t c5 hf
    exact LX5_turn_33 fx h (lv_sub hl [0] rfl) hf
  have hf := it_f c5 hf
  refine lv_aload_n hx hb dX5_turn_20 rfl (lv_at hl 0 rfl) ?_
  refine lv_iconst (v := 2) hx hb dX5_turn_21 (by decide) ?_
  refine lv_iconst (v := 3) hx hb dX5_turn_22 (by decide) ?_
  refine lv_iload_n hx hb dX5_turn_23 rfl (lv_at hl 1 rfl) ?_
  refine lv_imul hx hb dX5_turn_24 ?_
  refine lv_iadd hx hb dX5_turn_25 ?_
  refine lv_iload_n hx hb dX5_turn_26 rfl (lv_at hl 2 rfl) ?_
  obtain ⟨r6, k6, hg, hf⟩ := bR_inv hf
  refine q_ci (rest := []) (ws' := (wX5_turn cI cJ cZ cS a_t a_s a_keptS a_statuses a_pile a_tape a_steps a_wish a_mark a_bitsOf a_sizeOf a_number a_moved v_isKept v_taped v_at v_fault v_laid v_open k6 v_statuses)) (w1 := (wX5_becomes cI cJ cZ cS a_t a_s a_keptS a_statuses a_pile a_tape a_steps a_wish a_mark a_bitsOf a_sizeOf a_number a_moved v_isKept v_taped v_at v_fault v_laid v_open k6)) fx h [0, 1] rfl rfl rfl rfl (q_runV fx h hl.1 [0, 1] rfl rfl (tX5_becomes l D cI cJ cZ cS tb a_t a_s a_keptS a_statuses a_pile a_tape a_steps a_wish a_mark a_bitsOf a_sizeOf a_number a_moved H.size v_isKept v_taped v_at v_fault v_laid v_open v_s (2 + (3 * x1)) x2 r6 k6 hg) mvX5_becomes k_740 ⟨rfl, rfl⟩ ⟨Nat.le_of_ble_eq_true rfl, Nat.le_of_ble_eq_true rfl⟩ rfl rfl rfl rfl (Nat.le_of_ble_eq_true rfl) dX5_turn_27 ⟨Nat.le_of_ble_eq_true rfl, Nat.le_of_ble_eq_true rfl⟩) (fun H locs h => ?_)
  refine lv_goto (tgt := 39) hx hb dX5_turn_30 (by decide) ?_
  exact q_reti (fun k : (Nat → Int32) × (Nat → Int32) => (wX5_turn cI cJ cZ cS a_t a_s a_keptS a_statuses a_pile a_tape a_steps a_wish a_mark a_bitsOf a_sizeOf a_number a_moved v_isKept v_taped v_at v_fault v_laid v_open k.1 k.2)) fx hf h dX5_turn_39
/-! X5_as -/
abbrev wX5_as (cI cJ cZ cS : ClassId) (a_t a_s a_keptS a_statuses a_pile a_tape a_steps a_wish a_mark a_bitsOf a_sizeOf a_number a_moved : Nat) (v_isKept : Int32) (v_taped : Int32) (v_at : Int32) (v_fault : Int32) (v_laid : Int32) (v_open : Int32) (v_s : Nat → Int32) (v_statuses : Nat → Int32) : va_W := [(a_t, .inr (5, [.ref a_s, .ref a_keptS, .ref a_statuses, .int v_isKept, .ref a_pile, .ref a_tape, .ref a_steps, .int v_taped, .int v_at, .int v_fault, .int v_laid, .int v_open, .ref a_wish, .ref a_mark, .ref a_bitsOf, .ref a_sizeOf, .ref a_number, .ref a_moved])), (a_s, .inl (cI, 538, .inl v_s)), (a_statuses, .inl (cI, 7, .inl v_statuses))]
abbrev rX5_as : Room := { frames := 2, cells := 0, slots := 0, locals := 46 }
def fX5_as_68 (v_s : Nat → Int32) (v_statuses : Nat → Int32) (s0 : Int32) (y1 : Int32) : Option (Int32 × (Nat → Int32)) :=
  (if s0 = 0 then (
  bR (fX5_finds v_statuses (-1000000003)) (fun r2 k2 =>
  some (r2, k2)))
  else (
  bR (fX5_its v_s y1 1) (fun r3 k3 =>
  some (r3, v_statuses))))
set_option maxRecDepth 100000 in
set_option maxHeartbeats 4000000 in
theorem LX5_as_68 {p : Program} {l : Launch} {e : Env} {s : State} {m : MethodId} {args : Array Value} {below : List Frame} {meth : Method} {c : Code} {D : va_G} {cI cJ cZ cS : ClassId} {tb : Nat} {A : Nat → Prop} {a_t a_s a_keptS a_statuses a_pile a_tape a_steps a_wish a_mark a_bitsOf a_sizeOf a_number a_moved : Nat} {v_isKept : Int32} {v_taped : Int32} {v_at : Int32} {v_fault : Int32} {v_laid : Int32} {v_open : Int32} {v_s : Nat → Int32} {rr : Int32} {kk' : (Nat → Int32)} (fx : q_Fx p s m args meth c cX5_as 5 RX5 (some .int) D cI cJ cZ cS tb A) : ∀ {v_statuses : Nat → Int32} {s0 : Int32} {y1 : Int32} {H : Heap} {locs : List Loc} {ls : Array Slot}, q_H D A s (wX5_as cI cJ cZ cS a_t a_s a_keptS a_statuses a_pile a_tape a_steps a_wish a_mark a_bitsOf a_sizeOf a_number a_moved v_isKept v_taped v_at v_fault v_laid v_open v_s v_statuses) H locs → lv_has ls 5 [(0, .ref a_t), (1, .int y1)] → fX5_as_68 v_s v_statuses s0 y1 = some (rr, kk') → W p l e rX5_as s m args below meth c H locs 0 0 (MQ below (q_Ri D rr A ((fun k : (Nat → Int32) => (wX5_as cI cJ cZ cS a_t a_s a_keptS a_statuses a_pile a_tape a_steps a_wish a_mark a_bitsOf a_sizeOf a_number a_moved v_isKept v_taped v_at v_fault v_laid v_open v_s k)) kk')) args s 0 0 A) (F0 m 68 ls [.int s0]) := by
  intro v_statuses s0 y1 H locs ls h hl hf
  have hx := fx.1
  have hb := fx.2.1
  unfold fX5_as_68 at hf
  refine lv_istore (lv' := [(4, .int s0), (0, .ref a_t), (1, .int y1)]) hx hb dX5_as_68 hl (by decide) rfl (fun ls hl => ?_)
  refine lv_iload hx hb dX5_as_70 (lv_at hl 0 rfl) ?_
  refine lv_if_eq (tgt := 84) hx hb dX5_as_72 (by decide) (fun c1 => ?_) (fun c1 => ?_)
  · have hf := it_t c1 hf
    refine lv_aload_n hx hb dX5_as_84 rfl (lv_at hl 1 rfl) ?_
    refine q_ldc fx k_752 dX5_as_85 ?_
    obtain ⟨r2, k2, hg, hf⟩ := bR_inv hf
    refine q_ci (rest := []) (ws' := (wX5_as cI cJ cZ cS a_t a_s a_keptS a_statuses a_pile a_tape a_steps a_wish a_mark a_bitsOf a_sizeOf a_number a_moved v_isKept v_taped v_at v_fault v_laid v_open v_s k2)) (w1 := (wX5_finds cI cJ cZ cS a_t a_s a_keptS a_statuses a_pile a_tape a_steps a_wish a_mark a_bitsOf a_sizeOf a_number a_moved v_isKept v_taped v_at v_fault v_laid v_open k2)) fx h [0, 2] rfl rfl rfl rfl (q_runV fx h hl.1 [0, 2] rfl rfl (tX5_finds l D cI cJ cZ cS tb a_t a_s a_keptS a_statuses a_pile a_tape a_steps a_wish a_mark a_bitsOf a_sizeOf a_number a_moved H.size v_isKept v_taped v_at v_fault v_laid v_open v_statuses (-1000000003) r2 k2 hg) mvX5_finds k_702 ⟨rfl, rfl⟩ ⟨Nat.le_of_ble_eq_true rfl, Nat.le_of_ble_eq_true rfl⟩ rfl rfl rfl rfl (Nat.le_of_ble_eq_true rfl) dX5_as_87 ⟨Nat.le_of_ble_eq_true rfl, Nat.le_of_ble_eq_true rfl⟩) (fun H locs h => ?_)
    exact q_reti (fun k : (Nat → Int32) => (wX5_as cI cJ cZ cS a_t a_s a_keptS a_statuses a_pile a_tape a_steps a_wish a_mark a_bitsOf a_sizeOf a_number a_moved v_isKept v_taped v_at v_fault v_laid v_open v_s k)) fx hf h dX5_as_90
  have hf := it_f c1 hf
  refine lv_aload_n hx hb dX5_as_75 rfl (lv_at hl 1 rfl) ?_
  refine lv_iload_n hx hb dX5_as_76 rfl (lv_at hl 2 rfl) ?_
  refine lv_iconst (v := 1) hx hb dX5_as_77 (by decide) ?_
  obtain ⟨r3, k3, hg, hf⟩ := bR_inv hf
  refine q_ci (rest := []) (ws' := (wX5_as cI cJ cZ cS a_t a_s a_keptS a_statuses a_pile a_tape a_steps a_wish a_mark a_bitsOf a_sizeOf a_number a_moved v_isKept v_taped v_at v_fault v_laid v_open v_s v_statuses)) (w1 := (wX5_its cI cJ cZ cS a_t a_s a_keptS a_statuses a_pile a_tape a_steps a_wish a_mark a_bitsOf a_sizeOf a_number a_moved v_isKept v_taped v_at v_fault v_laid v_open v_s)) fx h [0, 1] rfl rfl rfl rfl (q_runV fx h hl.1 [0, 1] rfl rfl (tX5_its l D cI cJ cZ cS tb a_t a_s a_keptS a_statuses a_pile a_tape a_steps a_wish a_mark a_bitsOf a_sizeOf a_number a_moved H.size v_isKept v_taped v_at v_fault v_laid v_open v_s y1 1 r3 k3 hg) mvX5_its k_725 ⟨rfl, rfl⟩ ⟨Nat.le_of_ble_eq_true rfl, Nat.le_of_ble_eq_true rfl⟩ rfl rfl rfl rfl (Nat.le_of_ble_eq_true rfl) dX5_as_78 ⟨Nat.le_of_ble_eq_true rfl, Nat.le_of_ble_eq_true rfl⟩) (fun H locs h => ?_)
  refine lv_goto (tgt := 90) hx hb dX5_as_81 (by decide) ?_
  exact q_reti (fun k : (Nat → Int32) => (wX5_as cI cJ cZ cS a_t a_s a_keptS a_statuses a_pile a_tape a_steps a_wish a_mark a_bitsOf a_sizeOf a_number a_moved v_isKept v_taped v_at v_fault v_laid v_open v_s k)) fx hf h dX5_as_90
def fX5_as_67 (v_s : Nat → Int32) (v_statuses : Nat → Int32) (y1 : Int32) : Option (Int32 × (Nat → Int32)) :=
  fX5_as_68 v_s v_statuses 0 y1
set_option maxRecDepth 100000 in
set_option maxHeartbeats 4000000 in
theorem LX5_as_67 {p : Program} {l : Launch} {e : Env} {s : State} {m : MethodId} {args : Array Value} {below : List Frame} {meth : Method} {c : Code} {D : va_G} {cI cJ cZ cS : ClassId} {tb : Nat} {A : Nat → Prop} {a_t a_s a_keptS a_statuses a_pile a_tape a_steps a_wish a_mark a_bitsOf a_sizeOf a_number a_moved : Nat} {v_isKept : Int32} {v_taped : Int32} {v_at : Int32} {v_fault : Int32} {v_laid : Int32} {v_open : Int32} {v_s : Nat → Int32} {rr : Int32} {kk' : (Nat → Int32)} (fx : q_Fx p s m args meth c cX5_as 5 RX5 (some .int) D cI cJ cZ cS tb A) : ∀ {v_statuses : Nat → Int32} {y1 : Int32} {H : Heap} {locs : List Loc} {ls : Array Slot}, q_H D A s (wX5_as cI cJ cZ cS a_t a_s a_keptS a_statuses a_pile a_tape a_steps a_wish a_mark a_bitsOf a_sizeOf a_number a_moved v_isKept v_taped v_at v_fault v_laid v_open v_s v_statuses) H locs → lv_has ls 5 [(0, .ref a_t), (1, .int y1)] → fX5_as_67 v_s v_statuses y1 = some (rr, kk') → W p l e rX5_as s m args below meth c H locs 0 0 (MQ below (q_Ri D rr A ((fun k : (Nat → Int32) => (wX5_as cI cJ cZ cS a_t a_s a_keptS a_statuses a_pile a_tape a_steps a_wish a_mark a_bitsOf a_sizeOf a_number a_moved v_isKept v_taped v_at v_fault v_laid v_open v_s k)) kk')) args s 0 0 A) (F0 m 67 ls []) := by
  intro v_statuses y1 H locs ls h hl hf
  have hx := fx.1
  have hb := fx.2.1
  unfold fX5_as_67 at hf
  refine lv_iconst (v := 0) hx hb dX5_as_67 (by decide) ?_
  exact LX5_as_68 fx h (lv_sub hl [0, 1] rfl) hf
def fX5_as_63 (v_s : Nat → Int32) (v_statuses : Nat → Int32) (y1 : Int32) : Option (Int32 × (Nat → Int32)) :=
  fX5_as_68 v_s v_statuses 1 y1
set_option maxRecDepth 100000 in
set_option maxHeartbeats 4000000 in
theorem LX5_as_63 {p : Program} {l : Launch} {e : Env} {s : State} {m : MethodId} {args : Array Value} {below : List Frame} {meth : Method} {c : Code} {D : va_G} {cI cJ cZ cS : ClassId} {tb : Nat} {A : Nat → Prop} {a_t a_s a_keptS a_statuses a_pile a_tape a_steps a_wish a_mark a_bitsOf a_sizeOf a_number a_moved : Nat} {v_isKept : Int32} {v_taped : Int32} {v_at : Int32} {v_fault : Int32} {v_laid : Int32} {v_open : Int32} {v_s : Nat → Int32} {rr : Int32} {kk' : (Nat → Int32)} (fx : q_Fx p s m args meth c cX5_as 5 RX5 (some .int) D cI cJ cZ cS tb A) : ∀ {v_statuses : Nat → Int32} {y1 : Int32} {H : Heap} {locs : List Loc} {ls : Array Slot}, q_H D A s (wX5_as cI cJ cZ cS a_t a_s a_keptS a_statuses a_pile a_tape a_steps a_wish a_mark a_bitsOf a_sizeOf a_number a_moved v_isKept v_taped v_at v_fault v_laid v_open v_s v_statuses) H locs → lv_has ls 5 [(0, .ref a_t), (1, .int y1)] → fX5_as_63 v_s v_statuses y1 = some (rr, kk') → W p l e rX5_as s m args below meth c H locs 0 0 (MQ below (q_Ri D rr A ((fun k : (Nat → Int32) => (wX5_as cI cJ cZ cS a_t a_s a_keptS a_statuses a_pile a_tape a_steps a_wish a_mark a_bitsOf a_sizeOf a_number a_moved v_isKept v_taped v_at v_fault v_laid v_open v_s k)) kk')) args s 0 0 A) (F0 m 63 ls []) := by
  intro v_statuses y1 H locs ls h hl hf
  have hx := fx.1
  have hb := fx.2.1
  unfold fX5_as_63 at hf
  refine lv_iconst (v := 1) hx hb dX5_as_63 (by decide) ?_
  refine lv_goto (tgt := 68) hx hb dX5_as_64 (by decide) ?_
  exact LX5_as_68 fx h (lv_sub hl [0, 1] rfl) hf
def fX5_as_53 (v_s : Nat → Int32) (v_statuses : Nat → Int32) (y1 : Int32) (y2 : Int32) (y3 : Int32) : Option (Int32 × (Nat → Int32)) :=
  (if y2 = 2 then (
  (if y3 = 5 then (
  fX5_as_63 v_s v_statuses y1)
  else (
  fX5_as_67 v_s v_statuses y1)))
  else (
  fX5_as_67 v_s v_statuses y1))
set_option maxRecDepth 100000 in
set_option maxHeartbeats 4000000 in
theorem LX5_as_53 {p : Program} {l : Launch} {e : Env} {s : State} {m : MethodId} {args : Array Value} {below : List Frame} {meth : Method} {c : Code} {D : va_G} {cI cJ cZ cS : ClassId} {tb : Nat} {A : Nat → Prop} {a_t a_s a_keptS a_statuses a_pile a_tape a_steps a_wish a_mark a_bitsOf a_sizeOf a_number a_moved : Nat} {v_isKept : Int32} {v_taped : Int32} {v_at : Int32} {v_fault : Int32} {v_laid : Int32} {v_open : Int32} {v_s : Nat → Int32} {rr : Int32} {kk' : (Nat → Int32)} (fx : q_Fx p s m args meth c cX5_as 5 RX5 (some .int) D cI cJ cZ cS tb A) : ∀ {v_statuses : Nat → Int32} {y1 : Int32} {y2 : Int32} {y3 : Int32} {H : Heap} {locs : List Loc} {ls : Array Slot}, q_H D A s (wX5_as cI cJ cZ cS a_t a_s a_keptS a_statuses a_pile a_tape a_steps a_wish a_mark a_bitsOf a_sizeOf a_number a_moved v_isKept v_taped v_at v_fault v_laid v_open v_s v_statuses) H locs → lv_has ls 5 [(0, .ref a_t), (1, .int y1), (2, .int y2), (3, .int y3)] → fX5_as_53 v_s v_statuses y1 y2 y3 = some (rr, kk') → W p l e rX5_as s m args below meth c H locs 0 0 (MQ below (q_Ri D rr A ((fun k : (Nat → Int32) => (wX5_as cI cJ cZ cS a_t a_s a_keptS a_statuses a_pile a_tape a_steps a_wish a_mark a_bitsOf a_sizeOf a_number a_moved v_isKept v_taped v_at v_fault v_laid v_open v_s k)) kk')) args s 0 0 A) (F0 m 53 ls []) := by
  intro v_statuses y1 y2 y3 H locs ls h hl hf
  have hx := fx.1
  have hb := fx.2.1
  unfold fX5_as_53 at hf
  refine lv_iload_n hx hb dX5_as_53 rfl (lv_at hl 2 rfl) ?_
  refine lv_iconst (v := 2) hx hb dX5_as_54 (by decide) ?_
  refine lv_icmp_ne (tgt := 67) hx hb dX5_as_55 (by decide) (fun c4 => ?_) (fun c4 => ?_)
  · have hf := it_f c4 hf
    exact LX5_as_67 fx h (lv_sub hl [0, 1] rfl) hf
  have hf := it_t c4 hf
  refine lv_iload_n hx hb dX5_as_58 rfl (lv_at hl 3 rfl) ?_
  refine lv_iconst (v := 5) hx hb dX5_as_59 (by decide) ?_
  refine lv_icmp_ne (tgt := 67) hx hb dX5_as_60 (by decide) (fun c5 => ?_) (fun c5 => ?_)
  · have hf := it_f c5 hf
    exact LX5_as_67 fx h (lv_sub hl [0, 1] rfl) hf
  have hf := it_t c5 hf
  exact LX5_as_63 fx h (lv_sub hl [0, 1] rfl) hf
def fX5_as_20 (v_s : Nat → Int32) (v_statuses : Nat → Int32) : Option (Int32 × (Nat → Int32)) :=
  bR (fX5_finds v_statuses (-1000000001)) (fun r6 k6 =>
  some (r6, k6))
set_option maxRecDepth 100000 in
set_option maxHeartbeats 4000000 in
theorem LX5_as_20 {p : Program} {l : Launch} {e : Env} {s : State} {m : MethodId} {args : Array Value} {below : List Frame} {meth : Method} {c : Code} {D : va_G} {cI cJ cZ cS : ClassId} {tb : Nat} {A : Nat → Prop} {a_t a_s a_keptS a_statuses a_pile a_tape a_steps a_wish a_mark a_bitsOf a_sizeOf a_number a_moved : Nat} {v_isKept : Int32} {v_taped : Int32} {v_at : Int32} {v_fault : Int32} {v_laid : Int32} {v_open : Int32} {v_s : Nat → Int32} {rr : Int32} {kk' : (Nat → Int32)} (fx : q_Fx p s m args meth c cX5_as 5 RX5 (some .int) D cI cJ cZ cS tb A) : ∀ {v_statuses : Nat → Int32} {H : Heap} {locs : List Loc} {ls : Array Slot}, q_H D A s (wX5_as cI cJ cZ cS a_t a_s a_keptS a_statuses a_pile a_tape a_steps a_wish a_mark a_bitsOf a_sizeOf a_number a_moved v_isKept v_taped v_at v_fault v_laid v_open v_s v_statuses) H locs → lv_has ls 5 [(0, .ref a_t)] → fX5_as_20 v_s v_statuses = some (rr, kk') → W p l e rX5_as s m args below meth c H locs 0 0 (MQ below (q_Ri D rr A ((fun k : (Nat → Int32) => (wX5_as cI cJ cZ cS a_t a_s a_keptS a_statuses a_pile a_tape a_steps a_wish a_mark a_bitsOf a_sizeOf a_number a_moved v_isKept v_taped v_at v_fault v_laid v_open v_s k)) kk')) args s 0 0 A) (F0 m 20 ls []) := by
  intro v_statuses H locs ls h hl hf
  have hx := fx.1
  have hb := fx.2.1
  unfold fX5_as_20 at hf
  refine lv_aload_n hx hb dX5_as_20 rfl (lv_at hl 0 rfl) ?_
  refine q_ldc fx k_701 dX5_as_21 ?_
  obtain ⟨r6, k6, hg, hf⟩ := bR_inv hf
  refine q_ci (rest := []) (ws' := (wX5_as cI cJ cZ cS a_t a_s a_keptS a_statuses a_pile a_tape a_steps a_wish a_mark a_bitsOf a_sizeOf a_number a_moved v_isKept v_taped v_at v_fault v_laid v_open v_s k6)) (w1 := (wX5_finds cI cJ cZ cS a_t a_s a_keptS a_statuses a_pile a_tape a_steps a_wish a_mark a_bitsOf a_sizeOf a_number a_moved v_isKept v_taped v_at v_fault v_laid v_open k6)) fx h [0, 2] rfl rfl rfl rfl (q_runV fx h hl.1 [0, 2] rfl rfl (tX5_finds l D cI cJ cZ cS tb a_t a_s a_keptS a_statuses a_pile a_tape a_steps a_wish a_mark a_bitsOf a_sizeOf a_number a_moved H.size v_isKept v_taped v_at v_fault v_laid v_open v_statuses (-1000000001) r6 k6 hg) mvX5_finds k_702 ⟨rfl, rfl⟩ ⟨Nat.le_of_ble_eq_true rfl, Nat.le_of_ble_eq_true rfl⟩ rfl rfl rfl rfl (Nat.le_of_ble_eq_true rfl) dX5_as_23 ⟨Nat.le_of_ble_eq_true rfl, Nat.le_of_ble_eq_true rfl⟩) (fun H locs h => ?_)
  exact q_reti (fun k : (Nat → Int32) => (wX5_as cI cJ cZ cS a_t a_s a_keptS a_statuses a_pile a_tape a_steps a_wish a_mark a_bitsOf a_sizeOf a_number a_moved v_isKept v_taped v_at v_fault v_laid v_open v_s k)) fx hf h dX5_as_26
def fX5_as (v_s : Nat → Int32) (v_statuses : Nat → Int32) (x1 : Int32) (x2 : Int32) : Option (Int32 × (Nat → Int32)) :=
  bR (fX5_isGuest v_s x1) (fun r7 k7 =>
  (if r7 = 0 then (
  fX5_as_20 v_s v_statuses)
  else (
  bR (fX5_in (x2.toInt64) 0 5) (fun r9 k9 =>
  (if r9 = 0 then (
  fX5_as_20 v_s v_statuses)
  else (
  bR (fX5_its v_s x1 0) (fun r11 k11 =>
  (if x2 = 0 then (
  fX5_as_63 v_s v_statuses x1)
  else (
  (if r11 = x2 then (
  fX5_as_63 v_s v_statuses x1)
  else (
  (if x2 = 1 then (
  (if r11 = 4 then (
  fX5_as_63 v_s v_statuses x1)
  else (
  fX5_as_53 v_s v_statuses x1 x2 r11)))
  else (
  fX5_as_53 v_s v_statuses x1 x2 r11)))))))))))))
set_option maxRecDepth 100000 in
set_option maxHeartbeats 4000000 in
theorem tX5_as (l : Launch) (D : va_G) (cI cJ cZ cS : ClassId) (tb : Nat) (a_t a_s a_keptS a_statuses a_pile a_tape a_steps a_wish a_mark a_bitsOf a_sizeOf a_number a_moved : Nat) (sz : Nat) (v_isKept : Int32) (v_taped : Int32) (v_at : Int32) (v_fault : Int32) (v_laid : Int32) (v_open : Int32) (v_s : Nat → Int32) (v_statuses : Nat → Int32) (x1 : Int32) (x2 : Int32) (rr : Int32) (kk' : (Nat → Int32)) (hf : fX5_as v_s v_statuses x1 x2 = some (rr, kk')) : Met l yX5_as (Cond.code yX5_as cX5_as 5 (some .int) :: wA) rX5_as (q_Pre D cI cJ cZ cS tb [.ref a_t, .int x1, .int x2] sz (wX5_as cI cJ cZ cS a_t a_s a_keptS a_statuses a_pile a_tape a_steps a_wish a_mark a_bitsOf a_sizeOf a_number a_moved v_isKept v_taped v_at v_fault v_laid v_open v_s v_statuses)) (q_Ri D rr (va_A (wX5_as cI cJ cZ cS a_t a_s a_keptS a_statuses a_pile a_tape a_steps a_wish a_mark a_bitsOf a_sizeOf a_number a_moved v_isKept v_taped v_at v_fault v_laid v_open v_s v_statuses) sz) ((fun k : (Nat → Int32) => (wX5_as cI cJ cZ cS a_t a_s a_keptS a_statuses a_pile a_tape a_steps a_wish a_mark a_bitsOf a_sizeOf a_number a_moved v_isKept v_taped v_at v_fault v_laid v_open v_s k)) kk')) 0 0 (va_A (wX5_as cI cJ cZ cS a_t a_s a_keptS a_statuses a_pile a_tape a_steps a_wish a_mark a_bitsOf a_sizeOf a_number a_moved v_isKept v_taped v_at v_fault v_laid v_open v_s v_statuses) sz) := by
  refine q_enter (Qf := fun A => (q_Ri D rr A ((fun k : (Nat → Int32) => (wX5_as cI cJ cZ cS a_t a_s a_keptS a_statuses a_pile a_tape a_steps a_wish a_mark a_bitsOf a_sizeOf a_number a_moved v_isKept v_taped v_at v_fault v_laid v_open v_s k)) kk'))) (by decide) rfl (Nat.le_of_ble_eq_true rfl) ?_
  intro p e s m below meth c A ls fx hname h hl
  have hx := fx.1
  have hb := fx.2.1
  have hl : lv_has ls 5 [(0, .ref a_t), (1, .int x1), (2, .int x2)] := hl
  generalize h9 : s.heap = H at h ⊢
  clear h9
  generalize h9 : ([] : List Loc) = locs at h ⊢
  clear h9
  unfold fX5_as at hf
  refine lv_aload_n hx hb dX5_as_0 rfl (lv_at hl 0 rfl) ?_
  refine lv_iload_n hx hb dX5_as_1 rfl (lv_at hl 1 rfl) ?_
  obtain ⟨r7, k7, hg, hf⟩ := bR_inv hf
  refine q_ci (rest := []) (ws' := (wX5_as cI cJ cZ cS a_t a_s a_keptS a_statuses a_pile a_tape a_steps a_wish a_mark a_bitsOf a_sizeOf a_number a_moved v_isKept v_taped v_at v_fault v_laid v_open v_s v_statuses)) (w1 := (wX5_isGuest cI cJ cZ cS a_t a_s a_keptS a_statuses a_pile a_tape a_steps a_wish a_mark a_bitsOf a_sizeOf a_number a_moved v_isKept v_taped v_at v_fault v_laid v_open v_s)) fx h [0, 1] rfl rfl rfl rfl (q_runV fx h hl.1 [0, 1] rfl rfl (tX5_isGuest l D cI cJ cZ cS tb a_t a_s a_keptS a_statuses a_pile a_tape a_steps a_wish a_mark a_bitsOf a_sizeOf a_number a_moved H.size v_isKept v_taped v_at v_fault v_laid v_open v_s x1 r7 k7 hg) mvX5_isGuest k_711 ⟨rfl, rfl⟩ ⟨Nat.le_of_ble_eq_true rfl, Nat.le_of_ble_eq_true rfl⟩ rfl rfl rfl rfl (Nat.le_of_ble_eq_true rfl) dX5_as_2 ⟨Nat.le_of_ble_eq_true rfl, Nat.le_of_ble_eq_true rfl⟩) (fun H locs h => ?_)
  refine lv_if_eq (tgt := 20) hx hb dX5_as_5 (by decide) (fun c8 => ?_) (fun c8 => ?_)
  · have hf := it_t c8 hf
    exact LX5_as_20 fx h (lv_sub hl [0] rfl) hf
  have hf := it_f c8 hf
  refine lv_iload_n hx hb dX5_as_8 rfl (lv_at hl 2 rfl) ?_
  refine lv_i2l hx hb dX5_as_9 rfl ?_
  refine lv_lconst (v := 0) hx hb dX5_as_10 (by decide) ?_
  refine q_ldc2 fx k_696 dX5_as_11 ?_
  obtain ⟨r9, k9, hg, hf⟩ := bR_inv hf
  refine q_ci (rest := []) (ws' := (wX5_as cI cJ cZ cS a_t a_s a_keptS a_statuses a_pile a_tape a_steps a_wish a_mark a_bitsOf a_sizeOf a_number a_moved v_isKept v_taped v_at v_fault v_laid v_open v_s v_statuses)) (w1 := (wX5_in cI cJ cZ cS)) fx h [] rfl rfl rfl rfl (q_runS fx h hl.1 [] rfl rfl (tX5_in l D cI cJ cZ cS tb H.size (x2.toInt64) 0 5 r9 k9 hg) msX5_in k_697 ⟨rfl, rfl⟩ ⟨Nat.le_of_ble_eq_true rfl, Nat.le_of_ble_eq_true rfl⟩ rfl rfl (Nat.le_of_ble_eq_true rfl) dX5_as_14 ⟨Nat.le_of_ble_eq_true rfl, Nat.le_of_ble_eq_true rfl⟩) (fun H locs h => ?_)
  refine lv_if_ne (tgt := 27) hx hb dX5_as_17 (by decide) (fun c10 => ?_) (fun c10 => ?_)
  · have hf := it_f c10 hf
    refine lv_aload_n hx hb dX5_as_27 rfl (lv_at hl 0 rfl) ?_
    refine lv_iload_n hx hb dX5_as_28 rfl (lv_at hl 1 rfl) ?_
    refine lv_iconst (v := 0) hx hb dX5_as_29 (by decide) ?_
    obtain ⟨r11, k11, hg, hf⟩ := bR_inv hf
    refine q_ci (rest := []) (ws' := (wX5_as cI cJ cZ cS a_t a_s a_keptS a_statuses a_pile a_tape a_steps a_wish a_mark a_bitsOf a_sizeOf a_number a_moved v_isKept v_taped v_at v_fault v_laid v_open v_s v_statuses)) (w1 := (wX5_its cI cJ cZ cS a_t a_s a_keptS a_statuses a_pile a_tape a_steps a_wish a_mark a_bitsOf a_sizeOf a_number a_moved v_isKept v_taped v_at v_fault v_laid v_open v_s)) fx h [0, 1] rfl rfl rfl rfl (q_runV fx h hl.1 [0, 1] rfl rfl (tX5_its l D cI cJ cZ cS tb a_t a_s a_keptS a_statuses a_pile a_tape a_steps a_wish a_mark a_bitsOf a_sizeOf a_number a_moved H.size v_isKept v_taped v_at v_fault v_laid v_open v_s x1 0 r11 k11 hg) mvX5_its k_725 ⟨rfl, rfl⟩ ⟨Nat.le_of_ble_eq_true rfl, Nat.le_of_ble_eq_true rfl⟩ rfl rfl rfl rfl (Nat.le_of_ble_eq_true rfl) dX5_as_30 ⟨Nat.le_of_ble_eq_true rfl, Nat.le_of_ble_eq_true rfl⟩) (fun H locs h => ?_)
    refine lv_istore_n (lv' := [(3, .int r11), (0, .ref a_t), (1, .int x1), (2, .int x2)]) hx hb dX5_as_33 rfl hl (by decide) rfl (fun ls hl => ?_)
    refine lv_iload_n hx hb dX5_as_34 rfl (lv_at hl 3 rfl) ?_
    refine lv_if_eq (tgt := 63) hx hb dX5_as_35 (by decide) (fun c12 => ?_) (fun c12 => ?_)
    · have hf := it_t c12 hf
      exact LX5_as_63 fx h (lv_sub hl [1, 2] rfl) hf
    have hf := it_f c12 hf
    refine lv_iload_n hx hb dX5_as_38 rfl (lv_at hl 0 rfl) ?_
    refine lv_iload_n hx hb dX5_as_39 rfl (lv_at hl 3 rfl) ?_
    refine lv_icmp_eq (tgt := 63) hx hb dX5_as_40 (by decide) (fun c13 => ?_) (fun c13 => ?_)
    · have hf := it_t c13 hf
      exact LX5_as_63 fx h (lv_sub hl [1, 2] rfl) hf
    have hf := it_f c13 hf
    refine lv_iload_n hx hb dX5_as_43 rfl (lv_at hl 3 rfl) ?_
    refine lv_iconst (v := 1) hx hb dX5_as_44 (by decide) ?_
    refine lv_icmp_ne (tgt := 53) hx hb dX5_as_45 (by decide) (fun c14 => ?_) (fun c14 => ?_)
    · have hf := it_f c14 hf
      exact LX5_as_53 fx h (lv_sub hl [1, 2, 3, 0] rfl) hf
    have hf := it_t c14 hf
    refine lv_iload_n hx hb dX5_as_48 rfl (lv_at hl 0 rfl) ?_
    refine lv_iconst (v := 4) hx hb dX5_as_49 (by decide) ?_
    refine lv_icmp_eq (tgt := 63) hx hb dX5_as_50 (by decide) (fun c15 => ?_) (fun c15 => ?_)
    · have hf := it_t c15 hf
      exact LX5_as_63 fx h (lv_sub hl [1, 2] rfl) hf
    have hf := it_f c15 hf
    exact LX5_as_53 fx h (lv_sub hl [1, 2, 3, 0] rfl) hf
  have hf := it_t c10 hf
  exact LX5_as_20 fx h (lv_sub hl [0] rfl) hf
/-! X5_look -/
abbrev wX5_look (cI cJ cZ cS : ClassId) (a_t a_s a_keptS a_statuses a_pile a_tape a_steps a_wish a_mark a_bitsOf a_sizeOf a_number a_moved : Nat) (v_isKept : Int32) (v_taped : Int32) (v_at : Int32) (v_fault : Int32) (v_laid : Int32) (v_open : Int32) (v_tape : Nat → Int32) : va_W := [(a_t, .inr (5, [.ref a_s, .ref a_keptS, .ref a_statuses, .int v_isKept, .ref a_pile, .ref a_tape, .ref a_steps, .int v_taped, .int v_at, .int v_fault, .int v_laid, .int v_open, .ref a_wish, .ref a_mark, .ref a_bitsOf, .ref a_sizeOf, .ref a_number, .ref a_moved])), (a_tape, .inl (cI, 60, .inl v_tape))]
abbrev rX5_look : Room := { frames := 0, cells := 0, slots := 0, locals := 0 }
def fX5_look (v_taped : Int32) (v_at : Int32) (v_tape : Nat → Int32) : Option (Int32 × Unit) :=
  (if v_taped ≤ v_at then (
  some ((-1), ()))
  else (
  gIn v_at 60 (
  some (v_tape v_at.toNatClampNeg, ()))))
set_option maxRecDepth 100000 in
set_option maxHeartbeats 4000000 in
theorem tX5_look (l : Launch) (D : va_G) (cI cJ cZ cS : ClassId) (tb : Nat) (a_t a_s a_keptS a_statuses a_pile a_tape a_steps a_wish a_mark a_bitsOf a_sizeOf a_number a_moved : Nat) (sz : Nat) (v_isKept : Int32) (v_taped : Int32) (v_at : Int32) (v_fault : Int32) (v_laid : Int32) (v_open : Int32) (v_tape : Nat → Int32) (rr : Int32) (kk' : Unit) (hf : fX5_look v_taped v_at v_tape = some (rr, kk')) : Met l yX5_look (Cond.code yX5_look cX5_look 1 (some .int) :: wA) rX5_look (q_Pre D cI cJ cZ cS tb [.ref a_t] sz (wX5_look cI cJ cZ cS a_t a_s a_keptS a_statuses a_pile a_tape a_steps a_wish a_mark a_bitsOf a_sizeOf a_number a_moved v_isKept v_taped v_at v_fault v_laid v_open v_tape)) (q_Ri D rr (va_A (wX5_look cI cJ cZ cS a_t a_s a_keptS a_statuses a_pile a_tape a_steps a_wish a_mark a_bitsOf a_sizeOf a_number a_moved v_isKept v_taped v_at v_fault v_laid v_open v_tape) sz) ((fun k : Unit => (wX5_look cI cJ cZ cS a_t a_s a_keptS a_statuses a_pile a_tape a_steps a_wish a_mark a_bitsOf a_sizeOf a_number a_moved v_isKept v_taped v_at v_fault v_laid v_open v_tape)) kk')) 0 0 (va_A (wX5_look cI cJ cZ cS a_t a_s a_keptS a_statuses a_pile a_tape a_steps a_wish a_mark a_bitsOf a_sizeOf a_number a_moved v_isKept v_taped v_at v_fault v_laid v_open v_tape) sz) := by
  refine q_enter (Qf := fun A => (q_Ri D rr A ((fun k : Unit => (wX5_look cI cJ cZ cS a_t a_s a_keptS a_statuses a_pile a_tape a_steps a_wish a_mark a_bitsOf a_sizeOf a_number a_moved v_isKept v_taped v_at v_fault v_laid v_open v_tape)) kk'))) (by decide) rfl (Nat.le_of_ble_eq_true rfl) ?_
  intro p e s m below meth c A ls fx hname h hl
  have hx := fx.1
  have hb := fx.2.1
  have hl : lv_has ls 1 [(0, .ref a_t)] := hl
  generalize h9 : s.heap = H at h ⊢
  clear h9
  generalize h9 : ([] : List Loc) = locs at h ⊢
  clear h9
  unfold fX5_look at hf
  refine lv_aload_n hx hb dX5_look_0 rfl (lv_at hl 0 rfl) ?_
  refine q_get (v := .int v_at) fx inX5 h 0 rfl rfl 8 (by decide) k_644 rfl dX5_look_1 ?_
  refine lv_aload_n hx hb dX5_look_4 rfl (lv_at hl 0 rfl) ?_
  refine q_get (v := .int v_taped) fx inX5 h 0 rfl rfl 7 (by decide) k_643 rfl dX5_look_5 ?_
  refine lv_icmp_ge (tgt := 23) hx hb dX5_look_8 (by decide) (fun c1 => ?_) (fun c1 => ?_)
  · have hf := it_t c1 hf
    refine lv_iconst (v := -1) hx hb dX5_look_23 (by decide) ?_
    exact q_reti (fun k : Unit => (wX5_look cI cJ cZ cS a_t a_s a_keptS a_statuses a_pile a_tape a_steps a_wish a_mark a_bitsOf a_sizeOf a_number a_moved v_isKept v_taped v_at v_fault v_laid v_open v_tape)) fx hf h dX5_look_24
  have hf := it_f c1 hf
  refine lv_aload_n hx hb dX5_look_11 rfl (lv_at hl 0 rfl) ?_
  refine q_get (v := .ref a_tape) fx inX5 h 0 rfl rfl 5 (by decide) k_641 rfl dX5_look_12 ?_
  refine lv_aload_n hx hb dX5_look_15 rfl (lv_at hl 0 rfl) ?_
  refine q_get (v := .int v_at) fx inX5 h 0 rfl rfl 8 (by decide) k_644 rfl dX5_look_16 ?_
  obtain ⟨i2, hf⟩ := gIn_inv hf
  refine q_iald fx h 1 rfl i2 dX5_look_19 ?_
  refine lv_goto (tgt := 24) hx hb dX5_look_20 (by decide) ?_
  exact q_reti (fun k : Unit => (wX5_look cI cJ cZ cS a_t a_s a_keptS a_statuses a_pile a_tape a_steps a_wish a_mark a_bitsOf a_sizeOf a_number a_moved v_isKept v_taped v_at v_fault v_laid v_open v_tape)) fx hf h dX5_look_24
/-! X5_faulty -/
abbrev wX5_faulty (cI cJ cZ cS : ClassId) (a_t a_s a_keptS a_statuses a_pile a_tape a_steps a_wish a_mark a_bitsOf a_sizeOf a_number a_moved : Nat) (v_isKept : Int32) (v_taped : Int32) (v_at : Int32) (v_fault : Int32) (v_laid : Int32) (v_open : Int32) : va_W := [(a_t, .inr (5, [.ref a_s, .ref a_keptS, .ref a_statuses, .int v_isKept, .ref a_pile, .ref a_tape, .ref a_steps, .int v_taped, .int v_at, .int v_fault, .int v_laid, .int v_open, .ref a_wish, .ref a_mark, .ref a_bitsOf, .ref a_sizeOf, .ref a_number, .ref a_moved]))]
abbrev rX5_faulty : Room := { frames := 0, cells := 0, slots := 0, locals := 0 }
def fX5_faulty_19 (v_at : Int32) (v_fault : Int32) (s1 : Int32) : Option Int32 :=
  some s1
set_option maxRecDepth 100000 in
set_option maxHeartbeats 4000000 in
theorem LX5_faulty_19 {p : Program} {l : Launch} {e : Env} {s : State} {m : MethodId} {args : Array Value} {below : List Frame} {meth : Method} {c : Code} {D : va_G} {cI cJ cZ cS : ClassId} {tb : Nat} {A : Nat → Prop} {a_t a_s a_keptS a_statuses a_pile a_tape a_steps a_wish a_mark a_bitsOf a_sizeOf a_number a_moved : Nat} {v_isKept : Int32} {v_taped : Int32} {v_at : Int32} {v_laid : Int32} {v_open : Int32} {kk' : Int32} (fx : q_Fx p s m args meth c cX5_faulty 1 RX5 none D cI cJ cZ cS tb A) : ∀ {v_fault : Int32} {s1 : Int32} {H : Heap} {locs : List Loc} {ls : Array Slot}, q_H D A s (wX5_faulty cI cJ cZ cS a_t a_s a_keptS a_statuses a_pile a_tape a_steps a_wish a_mark a_bitsOf a_sizeOf a_number a_moved v_isKept v_taped v_at v_fault v_laid v_open) H locs → lv_has ls 1 [] → fX5_faulty_19 v_at v_fault s1 = some kk' → W p l e rX5_faulty s m args below meth c H locs 0 0 (MQ below (q_Rv D A ((fun k : Int32 => (wX5_faulty cI cJ cZ cS a_t a_s a_keptS a_statuses a_pile a_tape a_steps a_wish a_mark a_bitsOf a_sizeOf a_number a_moved v_isKept v_taped v_at k v_laid v_open)) kk')) args s 0 0 A) (F0 m 19 ls [.int s1, .ref a_t]) := by
  intro v_fault s1 H locs ls h hl hf
  have hx := fx.1
  have hb := fx.2.1
  unfold fX5_faulty_19 at hf
  refine q_put (v := .int s1) (ws' := (wX5_faulty cI cJ cZ cS a_t a_s a_keptS a_statuses a_pile a_tape a_steps a_wish a_mark a_bitsOf a_sizeOf a_number a_moved v_isKept v_taped v_at s1 v_laid v_open)) fx inX5 tyX5 tyX5_ok nmX5 h 0 rfl rfl 9 (by decide) k_645 rfl rfl rfl (Nat.le_of_ble_eq_true rfl) rfl dX5_faulty_19 (fun H locs h => ?_)
  exact q_retv (fun k : Int32 => (wX5_faulty cI cJ cZ cS a_t a_s a_keptS a_statuses a_pile a_tape a_steps a_wish a_mark a_bitsOf a_sizeOf a_number a_moved v_isKept v_taped v_at k v_laid v_open)) fx hf h dX5_faulty_22
def fX5_faulty (v_at : Int32) (v_fault : Int32) : Option Int32 :=
  (if (0 : Int32) ≤ v_fault then (
  fX5_faulty_19 v_at v_fault v_fault)
  else (
  fX5_faulty_19 v_at v_fault v_at))
set_option maxRecDepth 100000 in
set_option maxHeartbeats 4000000 in
theorem tX5_faulty (l : Launch) (D : va_G) (cI cJ cZ cS : ClassId) (tb : Nat) (a_t a_s a_keptS a_statuses a_pile a_tape a_steps a_wish a_mark a_bitsOf a_sizeOf a_number a_moved : Nat) (sz : Nat) (v_isKept : Int32) (v_taped : Int32) (v_at : Int32) (v_fault : Int32) (v_laid : Int32) (v_open : Int32) (kk' : Int32) (hf : fX5_faulty v_at v_fault = some kk') : Met l yX5_faulty (Cond.code yX5_faulty cX5_faulty 1 none :: wA) rX5_faulty (q_Pre D cI cJ cZ cS tb [.ref a_t] sz (wX5_faulty cI cJ cZ cS a_t a_s a_keptS a_statuses a_pile a_tape a_steps a_wish a_mark a_bitsOf a_sizeOf a_number a_moved v_isKept v_taped v_at v_fault v_laid v_open)) (q_Rv D (va_A (wX5_faulty cI cJ cZ cS a_t a_s a_keptS a_statuses a_pile a_tape a_steps a_wish a_mark a_bitsOf a_sizeOf a_number a_moved v_isKept v_taped v_at v_fault v_laid v_open) sz) ((fun k : Int32 => (wX5_faulty cI cJ cZ cS a_t a_s a_keptS a_statuses a_pile a_tape a_steps a_wish a_mark a_bitsOf a_sizeOf a_number a_moved v_isKept v_taped v_at k v_laid v_open)) kk')) 0 0 (va_A (wX5_faulty cI cJ cZ cS a_t a_s a_keptS a_statuses a_pile a_tape a_steps a_wish a_mark a_bitsOf a_sizeOf a_number a_moved v_isKept v_taped v_at v_fault v_laid v_open) sz) := by
  refine q_enter (Qf := fun A => (q_Rv D A ((fun k : Int32 => (wX5_faulty cI cJ cZ cS a_t a_s a_keptS a_statuses a_pile a_tape a_steps a_wish a_mark a_bitsOf a_sizeOf a_number a_moved v_isKept v_taped v_at k v_laid v_open)) kk'))) (by decide) rfl (Nat.le_of_ble_eq_true rfl) ?_
  intro p e s m below meth c A ls fx hname h hl
  have hx := fx.1
  have hb := fx.2.1
  have hl : lv_has ls 1 [(0, .ref a_t)] := hl
  generalize h9 : s.heap = H at h ⊢
  clear h9
  generalize h9 : ([] : List Loc) = locs at h ⊢
  clear h9
  unfold fX5_faulty at hf
  refine lv_aload_n hx hb dX5_faulty_0 rfl (lv_at hl 0 rfl) ?_
  refine lv_aload_n hx hb dX5_faulty_1 rfl (lv_at hl 0 rfl) ?_
  refine q_get (v := .int v_fault) fx inX5 h 0 rfl rfl 9 (by decide) k_645 rfl dX5_faulty_2 ?_
  refine lv_if_ge (tgt := 15) hx hb dX5_faulty_5 (by decide) (fun c1 => ?_) (fun c1 => ?_)
  · have hf := it_t c1 hf
    refine lv_aload_n hx hb dX5_faulty_15 rfl (lv_at hl 0 rfl) ?_
    refine q_get (v := .int v_fault) fx inX5 h 0 rfl rfl 9 (by decide) k_645 rfl dX5_faulty_16 ?_
    exact LX5_faulty_19 fx h (lv_sub hl [] rfl) hf
  have hf := it_f c1 hf
  refine lv_aload_n hx hb dX5_faulty_8 rfl (lv_at hl 0 rfl) ?_
  refine q_get (v := .int v_at) fx inX5 h 0 rfl rfl 8 (by decide) k_644 rfl dX5_faulty_9 ?_
  refine lv_goto (tgt := 19) hx hb dX5_faulty_12 (by decide) ?_
  exact LX5_faulty_19 fx h (lv_sub hl [] rfl) hf
/-! X5_lay -/
abbrev wX5_lay (cI cJ cZ cS : ClassId) (a_t a_s a_keptS a_statuses a_pile a_tape a_steps a_wish a_mark a_bitsOf a_sizeOf a_number a_moved : Nat) (v_isKept : Int32) (v_taped : Int32) (v_at : Int32) (v_fault : Int32) (v_laid : Int32) (v_open : Int32) (v_steps : Nat → Int32) : va_W := [(a_t, .inr (5, [.ref a_s, .ref a_keptS, .ref a_statuses, .int v_isKept, .ref a_pile, .ref a_tape, .ref a_steps, .int v_taped, .int v_at, .int v_fault, .int v_laid, .int v_open, .ref a_wish, .ref a_mark, .ref a_bitsOf, .ref a_sizeOf, .ref a_number, .ref a_moved])), (a_steps, .inl (cI, 64, .inl v_steps))]
abbrev rX5_lay : Room := { frames := 0, cells := 0, slots := 0, locals := 0 }
def fX5_lay (v_at : Int32) (v_laid : Int32) (v_steps : Nat → Int32) (x1 : Int32) : Option (Int32 × Int32 × (Nat → Int32)) :=
  gIn v_laid 64 (
  nm (v_laid + 1) (fun u2 =>
  nm (v_at + 1) (fun u3 =>
  some (u3, u2, (upd v_steps v_laid.toNatClampNeg x1)))))
set_option maxRecDepth 100000 in
set_option maxHeartbeats 4000000 in
theorem tX5_lay (l : Launch) (D : va_G) (cI cJ cZ cS : ClassId) (tb : Nat) (a_t a_s a_keptS a_statuses a_pile a_tape a_steps a_wish a_mark a_bitsOf a_sizeOf a_number a_moved : Nat) (sz : Nat) (v_isKept : Int32) (v_taped : Int32) (v_at : Int32) (v_fault : Int32) (v_laid : Int32) (v_open : Int32) (v_steps : Nat → Int32) (x1 : Int32) (kk' : Int32 × Int32 × (Nat → Int32)) (hf : fX5_lay v_at v_laid v_steps x1 = some kk') : Met l yX5_lay (Cond.code yX5_lay cX5_lay 2 none :: wA) rX5_lay (q_Pre D cI cJ cZ cS tb [.ref a_t, .int x1] sz (wX5_lay cI cJ cZ cS a_t a_s a_keptS a_statuses a_pile a_tape a_steps a_wish a_mark a_bitsOf a_sizeOf a_number a_moved v_isKept v_taped v_at v_fault v_laid v_open v_steps)) (q_Rv D (va_A (wX5_lay cI cJ cZ cS a_t a_s a_keptS a_statuses a_pile a_tape a_steps a_wish a_mark a_bitsOf a_sizeOf a_number a_moved v_isKept v_taped v_at v_fault v_laid v_open v_steps) sz) ((fun k : Int32 × Int32 × (Nat → Int32) => (wX5_lay cI cJ cZ cS a_t a_s a_keptS a_statuses a_pile a_tape a_steps a_wish a_mark a_bitsOf a_sizeOf a_number a_moved v_isKept v_taped k.1 v_fault k.2.1 v_open k.2.2)) kk')) 0 0 (va_A (wX5_lay cI cJ cZ cS a_t a_s a_keptS a_statuses a_pile a_tape a_steps a_wish a_mark a_bitsOf a_sizeOf a_number a_moved v_isKept v_taped v_at v_fault v_laid v_open v_steps) sz) := by
  refine q_enter (Qf := fun A => (q_Rv D A ((fun k : Int32 × Int32 × (Nat → Int32) => (wX5_lay cI cJ cZ cS a_t a_s a_keptS a_statuses a_pile a_tape a_steps a_wish a_mark a_bitsOf a_sizeOf a_number a_moved v_isKept v_taped k.1 v_fault k.2.1 v_open k.2.2)) kk'))) (by decide) rfl (Nat.le_of_ble_eq_true rfl) ?_
  intro p e s m below meth c A ls fx hname h hl
  have hx := fx.1
  have hb := fx.2.1
  have hl : lv_has ls 2 [(0, .ref a_t), (1, .int x1)] := hl
  generalize h9 : s.heap = H at h ⊢
  clear h9
  generalize h9 : ([] : List Loc) = locs at h ⊢
  clear h9
  unfold fX5_lay at hf
  refine lv_aload_n hx hb dX5_lay_0 rfl (lv_at hl 0 rfl) ?_
  refine q_get (v := .ref a_steps) fx inX5 h 0 rfl rfl 6 (by decide) k_642 rfl dX5_lay_1 ?_
  refine lv_aload_n hx hb dX5_lay_4 rfl (lv_at hl 0 rfl) ?_
  refine q_get (v := .int v_laid) fx inX5 h 0 rfl rfl 10 (by decide) k_646 rfl dX5_lay_5 ?_
  refine lv_iload_n hx hb dX5_lay_8 rfl (lv_at hl 1 rfl) ?_
  obtain ⟨i1, hf⟩ := gIn_inv hf
  refine q_iast (ws' := (wX5_lay cI cJ cZ cS a_t a_s a_keptS a_statuses a_pile a_tape a_steps a_wish a_mark a_bitsOf a_sizeOf a_number a_moved v_isKept v_taped v_at v_fault v_laid v_open (upd v_steps v_laid.toNatClampNeg x1))) fx h 1 rfl i1 rfl dX5_lay_9 (fun H locs h => ?_)
  refine lv_aload_n hx hb dX5_lay_10 rfl (lv_at hl 0 rfl) ?_
  refine lv_dup hx hb dX5_lay_11 rfl ?_
  refine q_get (v := .int v_laid) fx inX5 h 0 rfl rfl 10 (by decide) k_646 rfl dX5_lay_12 ?_
  refine lv_iconst (v := 1) hx hb dX5_lay_15 (by decide) ?_
  refine lv_iadd hx hb dX5_lay_16 ?_
  obtain ⟨u2, eu2, hf⟩ := nm_inv hf
  refine lv_eqi eu2 ?_
  refine q_put (v := .int u2) (ws' := (wX5_lay cI cJ cZ cS a_t a_s a_keptS a_statuses a_pile a_tape a_steps a_wish a_mark a_bitsOf a_sizeOf a_number a_moved v_isKept v_taped v_at v_fault u2 v_open (upd v_steps v_laid.toNatClampNeg x1))) fx inX5 tyX5 tyX5_ok nmX5 h 0 rfl rfl 10 (by decide) k_646 rfl rfl rfl (Nat.le_of_ble_eq_true rfl) rfl dX5_lay_17 (fun H locs h => ?_)
  refine lv_aload_n hx hb dX5_lay_20 rfl (lv_at hl 0 rfl) ?_
  refine lv_dup hx hb dX5_lay_21 rfl ?_
  refine q_get (v := .int v_at) fx inX5 h 0 rfl rfl 8 (by decide) k_644 rfl dX5_lay_22 ?_
  refine lv_iconst (v := 1) hx hb dX5_lay_25 (by decide) ?_
  refine lv_iadd hx hb dX5_lay_26 ?_
  obtain ⟨u3, eu3, hf⟩ := nm_inv hf
  refine lv_eqi eu3 ?_
  refine q_put (v := .int u3) (ws' := (wX5_lay cI cJ cZ cS a_t a_s a_keptS a_statuses a_pile a_tape a_steps a_wish a_mark a_bitsOf a_sizeOf a_number a_moved v_isKept v_taped u3 v_fault u2 v_open (upd v_steps v_laid.toNatClampNeg x1))) fx inX5 tyX5 tyX5_ok nmX5 h 0 rfl rfl 8 (by decide) k_644 rfl rfl rfl (Nat.le_of_ble_eq_true rfl) rfl dX5_lay_27 (fun H locs h => ?_)
  exact q_retv (fun k : Int32 × Int32 × (Nat → Int32) => (wX5_lay cI cJ cZ cS a_t a_s a_keptS a_statuses a_pile a_tape a_steps a_wish a_mark a_bitsOf a_sizeOf a_number a_moved v_isKept v_taped k.1 v_fault k.2.1 v_open k.2.2)) fx hf h dX5_lay_30
/-! X5_opens -/
abbrev wX5_opens (cI cJ cZ cS : ClassId) (a_t a_s a_keptS a_statuses a_pile a_tape a_steps a_wish a_mark a_bitsOf a_sizeOf a_number a_moved : Nat) (v_isKept : Int32) (v_taped : Int32) (v_at : Int32) (v_fault : Int32) (v_laid : Int32) (v_open : Int32) : va_W := [(a_t, .inr (5, [.ref a_s, .ref a_keptS, .ref a_statuses, .int v_isKept, .ref a_pile, .ref a_tape, .ref a_steps, .int v_taped, .int v_at, .int v_fault, .int v_laid, .int v_open, .ref a_wish, .ref a_mark, .ref a_bitsOf, .ref a_sizeOf, .ref a_number, .ref a_moved]))]
abbrev rX5_opens : Room := { frames := 1, cells := 0, slots := 0, locals := 20 }
def fX5_opens (v_at : Int32) (v_fault : Int32) (v_open : Int32) : Option (Int32 × Int32 × Int32 × Int32) :=
  (if v_open = 6 then (
  bV (fX5_faulty v_at v_fault) (fun k4 =>
  some (0, (v_at, k4, v_open))))
  else (
  nm (v_open + 1) (fun u2 =>
  nm (v_at + 1) (fun u3 =>
  some (1, (u3, v_fault, u2))))))
set_option maxRecDepth 100000 in
set_option maxHeartbeats 4000000 in
theorem tX5_opens (l : Launch) (D : va_G) (cI cJ cZ cS : ClassId) (tb : Nat) (a_t a_s a_keptS a_statuses a_pile a_tape a_steps a_wish a_mark a_bitsOf a_sizeOf a_number a_moved : Nat) (sz : Nat) (v_isKept : Int32) (v_taped : Int32) (v_at : Int32) (v_fault : Int32) (v_laid : Int32) (v_open : Int32) (rr : Int32) (kk' : Int32 × Int32 × Int32) (hf : fX5_opens v_at v_fault v_open = some (rr, kk')) : Met l yX5_opens (Cond.code yX5_opens cX5_opens 1 (some .boolean) :: wA) rX5_opens (q_Pre D cI cJ cZ cS tb [.ref a_t] sz (wX5_opens cI cJ cZ cS a_t a_s a_keptS a_statuses a_pile a_tape a_steps a_wish a_mark a_bitsOf a_sizeOf a_number a_moved v_isKept v_taped v_at v_fault v_laid v_open)) (q_Ri D rr (va_A (wX5_opens cI cJ cZ cS a_t a_s a_keptS a_statuses a_pile a_tape a_steps a_wish a_mark a_bitsOf a_sizeOf a_number a_moved v_isKept v_taped v_at v_fault v_laid v_open) sz) ((fun k : Int32 × Int32 × Int32 => (wX5_opens cI cJ cZ cS a_t a_s a_keptS a_statuses a_pile a_tape a_steps a_wish a_mark a_bitsOf a_sizeOf a_number a_moved v_isKept v_taped k.1 k.2.1 v_laid k.2.2)) kk')) 0 0 (va_A (wX5_opens cI cJ cZ cS a_t a_s a_keptS a_statuses a_pile a_tape a_steps a_wish a_mark a_bitsOf a_sizeOf a_number a_moved v_isKept v_taped v_at v_fault v_laid v_open) sz) := by
  refine q_enter (Qf := fun A => (q_Ri D rr A ((fun k : Int32 × Int32 × Int32 => (wX5_opens cI cJ cZ cS a_t a_s a_keptS a_statuses a_pile a_tape a_steps a_wish a_mark a_bitsOf a_sizeOf a_number a_moved v_isKept v_taped k.1 k.2.1 v_laid k.2.2)) kk'))) (by decide) rfl (Nat.le_of_ble_eq_true rfl) ?_
  intro p e s m below meth c A ls fx hname h hl
  have hx := fx.1
  have hb := fx.2.1
  have hl : lv_has ls 1 [(0, .ref a_t)] := hl
  generalize h9 : s.heap = H at h ⊢
  clear h9
  generalize h9 : ([] : List Loc) = locs at h ⊢
  clear h9
  unfold fX5_opens at hf
  refine lv_aload_n hx hb dX5_opens_0 rfl (lv_at hl 0 rfl) ?_
  refine q_get (v := .int v_open) fx inX5 h 0 rfl rfl 11 (by decide) k_647 rfl dX5_opens_1 ?_
  refine lv_bipush (v := 6) hx hb dX5_opens_4 (by decide) ?_
  refine lv_icmp_ne (tgt := 15) hx hb dX5_opens_6 (by decide) (fun c1 => ?_) (fun c1 => ?_)
  · have hf := it_f c1 hf
    refine lv_aload_n hx hb dX5_opens_15 rfl (lv_at hl 0 rfl) ?_
    refine lv_dup hx hb dX5_opens_16 rfl ?_
    refine q_get (v := .int v_open) fx inX5 h 0 rfl rfl 11 (by decide) k_647 rfl dX5_opens_17 ?_
    refine lv_iconst (v := 1) hx hb dX5_opens_20 (by decide) ?_
    refine lv_iadd hx hb dX5_opens_21 ?_
    obtain ⟨u2, eu2, hf⟩ := nm_inv hf
    refine lv_eqi eu2 ?_
    refine q_put (v := .int u2) (ws' := (wX5_opens cI cJ cZ cS a_t a_s a_keptS a_statuses a_pile a_tape a_steps a_wish a_mark a_bitsOf a_sizeOf a_number a_moved v_isKept v_taped v_at v_fault v_laid u2)) fx inX5 tyX5 tyX5_ok nmX5 h 0 rfl rfl 11 (by decide) k_647 rfl rfl rfl (Nat.le_of_ble_eq_true rfl) rfl dX5_opens_22 (fun H locs h => ?_)
    refine lv_aload_n hx hb dX5_opens_25 rfl (lv_at hl 0 rfl) ?_
    refine lv_dup hx hb dX5_opens_26 rfl ?_
    refine q_get (v := .int v_at) fx inX5 h 0 rfl rfl 8 (by decide) k_644 rfl dX5_opens_27 ?_
    refine lv_iconst (v := 1) hx hb dX5_opens_30 (by decide) ?_
    refine lv_iadd hx hb dX5_opens_31 ?_
    obtain ⟨u3, eu3, hf⟩ := nm_inv hf
    refine lv_eqi eu3 ?_
    refine q_put (v := .int u3) (ws' := (wX5_opens cI cJ cZ cS a_t a_s a_keptS a_statuses a_pile a_tape a_steps a_wish a_mark a_bitsOf a_sizeOf a_number a_moved v_isKept v_taped u3 v_fault v_laid u2)) fx inX5 tyX5 tyX5_ok nmX5 h 0 rfl rfl 8 (by decide) k_644 rfl rfl rfl (Nat.le_of_ble_eq_true rfl) rfl dX5_opens_32 (fun H locs h => ?_)
    refine lv_iconst (v := 1) hx hb dX5_opens_35 (by decide) ?_
    exact q_retz (fun k : Int32 × Int32 × Int32 => (wX5_opens cI cJ cZ cS a_t a_s a_keptS a_statuses a_pile a_tape a_steps a_wish a_mark a_bitsOf a_sizeOf a_number a_moved v_isKept v_taped k.1 k.2.1 v_laid k.2.2)) fx rfl hf h dX5_opens_36
  have hf := it_t c1 hf
  refine lv_aload_n hx hb dX5_opens_9 rfl (lv_at hl 0 rfl) ?_
  obtain ⟨k4, hg, hf⟩ := bV_inv hf
  refine q_cv (rest := []) (ws' := (wX5_opens cI cJ cZ cS a_t a_s a_keptS a_statuses a_pile a_tape a_steps a_wish a_mark a_bitsOf a_sizeOf a_number a_moved v_isKept v_taped v_at k4 v_laid v_open)) (w1 := (wX5_faulty cI cJ cZ cS a_t a_s a_keptS a_statuses a_pile a_tape a_steps a_wish a_mark a_bitsOf a_sizeOf a_number a_moved v_isKept v_taped v_at k4 v_laid v_open)) fx h [0] rfl rfl rfl rfl (q_runV fx h hl.1 [0] rfl rfl (tX5_faulty l D cI cJ cZ cS tb a_t a_s a_keptS a_statuses a_pile a_tape a_steps a_wish a_mark a_bitsOf a_sizeOf a_number a_moved H.size v_isKept v_taped v_at v_fault v_laid v_open k4 hg) mvX5_faulty k_783 ⟨rfl, rfl⟩ ⟨Nat.le_of_ble_eq_true rfl, Nat.le_of_ble_eq_true rfl⟩ rfl rfl rfl rfl (Nat.le_of_ble_eq_true rfl) dX5_opens_10 ⟨Nat.le_of_ble_eq_true rfl, Nat.le_of_ble_eq_true rfl⟩) (fun H locs h => ?_)
  refine lv_iconst (v := 0) hx hb dX5_opens_13 (by decide) ?_
  exact q_retz (fun k : Int32 × Int32 × Int32 => (wX5_opens cI cJ cZ cS a_t a_s a_keptS a_statuses a_pile a_tape a_steps a_wish a_mark a_bitsOf a_sizeOf a_number a_moved v_isKept v_taped k.1 k.2.1 v_laid k.2.2)) fx rfl hf h dX5_opens_14
/-! X5_counted -/
abbrev wX5_counted (cI cJ cZ cS : ClassId) (a_t a_s a_keptS a_statuses a_pile a_tape a_steps a_wish a_mark a_bitsOf a_sizeOf a_number a_moved : Nat) (v_isKept : Int32) (v_taped : Int32) (v_at : Int32) (v_fault : Int32) (v_laid : Int32) (v_open : Int32) (v_tape : Nat → Int32) (v_steps : Nat → Int32) : va_W := [(a_t, .inr (5, [.ref a_s, .ref a_keptS, .ref a_statuses, .int v_isKept, .ref a_pile, .ref a_tape, .ref a_steps, .int v_taped, .int v_at, .int v_fault, .int v_laid, .int v_open, .ref a_wish, .ref a_mark, .ref a_bitsOf, .ref a_sizeOf, .ref a_number, .ref a_moved])), (a_tape, .inl (cI, 60, .inl v_tape)), (a_steps, .inl (cI, 64, .inl v_steps))]
abbrev rX5_counted : Room := { frames := 1, cells := 0, slots := 0, locals := 25 }
def fX5_counted_49 (v_taped : Int32) (v_tape : Nat → Int32) (v_at : Int32) (v_fault : Int32) (v_laid : Int32) (v_steps : Nat → Int32) (s0 : Int32) : Option (Int32 × Int32 × Int32 × (Nat → Int32)) :=
  (if (0 : Int32) ≤ s0 then (
  nm (v_at + 1) (fun u2 =>
  bR (fX5_look v_taped u2 v_tape) (fun r3 k3 =>
  bR (fX5_in (r3.toInt64) 48 57) (fun r4 k4 =>
  (if r4 = 0 then (
  bV (fX5_faulty u2 v_fault) (fun k8 =>
  some (u2, k8, v_laid, v_steps)))
  else (
  bR (fX5_look v_taped u2 v_tape) (fun r6 k6 =>
  bV (fX5_lay u2 v_laid v_steps ((s0 + r6) - 48)) (fun k7 =>
  some (k7.1, v_fault, k7.2.1, k7.2.2)))))))))
  else (
  bV (fX5_faulty v_at v_fault) (fun k9 =>
  some (v_at, k9, v_laid, v_steps))))
set_option maxRecDepth 100000 in
set_option maxHeartbeats 4000000 in
theorem LX5_counted_49 {p : Program} {l : Launch} {e : Env} {s : State} {m : MethodId} {args : Array Value} {below : List Frame} {meth : Method} {c : Code} {D : va_G} {cI cJ cZ cS : ClassId} {tb : Nat} {A : Nat → Prop} {a_t a_s a_keptS a_statuses a_pile a_tape a_steps a_wish a_mark a_bitsOf a_sizeOf a_number a_moved : Nat} {v_isKept : Int32} {v_taped : Int32} {v_open : Int32} {v_tape : Nat → Int32} {kk' : Int32 × Int32 × Int32 × (Nat → Int32)} (fx : q_Fx p s m args meth c cX5_counted 3 RX5 none D cI cJ cZ cS tb A) : ∀ {v_at : Int32} {v_fault : Int32} {v_laid : Int32} {v_steps : Nat → Int32} {s0 : Int32} {H : Heap} {locs : List Loc} {ls : Array Slot}, q_H D A s (wX5_counted cI cJ cZ cS a_t a_s a_keptS a_statuses a_pile a_tape a_steps a_wish a_mark a_bitsOf a_sizeOf a_number a_moved v_isKept v_taped v_at v_fault v_laid v_open v_tape v_steps) H locs → lv_has ls 3 [(0, .ref a_t)] → fX5_counted_49 v_taped v_tape v_at v_fault v_laid v_steps s0 = some kk' → W p l e rX5_counted s m args below meth c H locs 0 0 (MQ below (q_Rv D A ((fun k : Int32 × Int32 × Int32 × (Nat → Int32) => (wX5_counted cI cJ cZ cS a_t a_s a_keptS a_statuses a_pile a_tape a_steps a_wish a_mark a_bitsOf a_sizeOf a_number a_moved v_isKept v_taped k.1 k.2.1 k.2.2.1 v_open v_tape k.2.2.2)) kk')) args s 0 0 A) (F0 m 49 ls [.int s0]) := by
  intro v_at v_fault v_laid v_steps s0 H locs ls h hl hf
  have hx := fx.1
  have hb := fx.2.1
  unfold fX5_counted_49 at hf
  refine lv_istore_n (lv' := [(2, .int s0), (0, .ref a_t)]) hx hb dX5_counted_49 rfl hl (by decide) rfl (fun ls hl => ?_)
  refine lv_iload_n hx hb dX5_counted_50 rfl (lv_at hl 0 rfl) ?_
  refine lv_if_ge (tgt := 59) hx hb dX5_counted_51 (by decide) (fun c1 => ?_) (fun c1 => ?_)
  · have hf := it_t c1 hf
    refine lv_aload_n hx hb dX5_counted_59 rfl (lv_at hl 1 rfl) ?_
    refine lv_dup hx hb dX5_counted_60 rfl ?_
    refine q_get (v := .int v_at) fx inX5 h 0 rfl rfl 8 (by decide) k_644 rfl dX5_counted_61 ?_
    refine lv_iconst (v := 1) hx hb dX5_counted_64 (by decide) ?_
    refine lv_iadd hx hb dX5_counted_65 ?_
    obtain ⟨u2, eu2, hf⟩ := nm_inv hf
    refine lv_eqi eu2 ?_
    refine q_put (v := .int u2) (ws' := (wX5_counted cI cJ cZ cS a_t a_s a_keptS a_statuses a_pile a_tape a_steps a_wish a_mark a_bitsOf a_sizeOf a_number a_moved v_isKept v_taped u2 v_fault v_laid v_open v_tape v_steps)) fx inX5 tyX5 tyX5_ok nmX5 h 0 rfl rfl 8 (by decide) k_644 rfl rfl rfl (Nat.le_of_ble_eq_true rfl) rfl dX5_counted_66 (fun H locs h => ?_)
    refine lv_aload_n hx hb dX5_counted_69 rfl (lv_at hl 1 rfl) ?_
    obtain ⟨r3, k3, hg, hf⟩ := bR_inv hf
    refine q_ci (rest := []) (ws' := (wX5_counted cI cJ cZ cS a_t a_s a_keptS a_statuses a_pile a_tape a_steps a_wish a_mark a_bitsOf a_sizeOf a_number a_moved v_isKept v_taped u2 v_fault v_laid v_open v_tape v_steps)) (w1 := (wX5_look cI cJ cZ cS a_t a_s a_keptS a_statuses a_pile a_tape a_steps a_wish a_mark a_bitsOf a_sizeOf a_number a_moved v_isKept v_taped u2 v_fault v_laid v_open v_tape)) fx h [0, 1] rfl rfl rfl rfl (q_runV fx h hl.1 [0, 1] rfl rfl (tX5_look l D cI cJ cZ cS tb a_t a_s a_keptS a_statuses a_pile a_tape a_steps a_wish a_mark a_bitsOf a_sizeOf a_number a_moved H.size v_isKept v_taped u2 v_fault v_laid v_open v_tape r3 k3 hg) mvX5_look k_769 ⟨rfl, rfl⟩ ⟨Nat.le_of_ble_eq_true rfl, Nat.le_of_ble_eq_true rfl⟩ rfl rfl rfl rfl (Nat.le_of_ble_eq_true rfl) dX5_counted_70 ⟨Nat.le_of_ble_eq_true rfl, Nat.le_of_ble_eq_true rfl⟩) (fun H locs h => ?_)
    refine lv_i2l hx hb dX5_counted_73 rfl ?_
    refine q_ldc2 fx k_787 dX5_counted_74 ?_
    refine q_ldc2 fx k_788 dX5_counted_77 ?_
    obtain ⟨r4, k4, hg, hf⟩ := bR_inv hf
    refine q_ci (rest := []) (ws' := (wX5_counted cI cJ cZ cS a_t a_s a_keptS a_statuses a_pile a_tape a_steps a_wish a_mark a_bitsOf a_sizeOf a_number a_moved v_isKept v_taped u2 v_fault v_laid v_open v_tape v_steps)) (w1 := (wX5_in cI cJ cZ cS)) fx h [] rfl rfl rfl rfl (q_runS fx h hl.1 [] rfl rfl (tX5_in l D cI cJ cZ cS tb H.size (r3.toInt64) 48 57 r4 k4 hg) msX5_in k_697 ⟨rfl, rfl⟩ ⟨Nat.le_of_ble_eq_true rfl, Nat.le_of_ble_eq_true rfl⟩ rfl rfl (Nat.le_of_ble_eq_true rfl) dX5_counted_80 ⟨Nat.le_of_ble_eq_true rfl, Nat.le_of_ble_eq_true rfl⟩) (fun H locs h => ?_)
    refine lv_if_ne (tgt := 91) hx hb dX5_counted_83 (by decide) (fun c5 => ?_) (fun c5 => ?_)
    · have hf := it_f c5 hf
      refine lv_aload_n hx hb dX5_counted_91 rfl (lv_at hl 1 rfl) ?_
      refine lv_iload_n hx hb dX5_counted_92 rfl (lv_at hl 0 rfl) ?_
      refine lv_aload_n hx hb dX5_counted_93 rfl (lv_at hl 1 rfl) ?_
      obtain ⟨r6, k6, hg, hf⟩ := bR_inv hf
      refine q_ci (rest := [.int s0, .ref a_t]) (ws' := (wX5_counted cI cJ cZ cS a_t a_s a_keptS a_statuses a_pile a_tape a_steps a_wish a_mark a_bitsOf a_sizeOf a_number a_moved v_isKept v_taped u2 v_fault v_laid v_open v_tape v_steps)) (w1 := (wX5_look cI cJ cZ cS a_t a_s a_keptS a_statuses a_pile a_tape a_steps a_wish a_mark a_bitsOf a_sizeOf a_number a_moved v_isKept v_taped u2 v_fault v_laid v_open v_tape)) fx h [0, 1] rfl rfl rfl rfl (q_runV fx h hl.1 [0, 1] rfl rfl (tX5_look l D cI cJ cZ cS tb a_t a_s a_keptS a_statuses a_pile a_tape a_steps a_wish a_mark a_bitsOf a_sizeOf a_number a_moved H.size v_isKept v_taped u2 v_fault v_laid v_open v_tape r6 k6 hg) mvX5_look k_769 ⟨rfl, rfl⟩ ⟨Nat.le_of_ble_eq_true rfl, Nat.le_of_ble_eq_true rfl⟩ rfl rfl rfl rfl (Nat.le_of_ble_eq_true rfl) dX5_counted_94 ⟨Nat.le_of_ble_eq_true rfl, Nat.le_of_ble_eq_true rfl⟩) (fun H locs h => ?_)
      refine lv_iadd hx hb dX5_counted_97 ?_
      refine lv_bipush (v := 48) hx hb dX5_counted_98 (by decide) ?_
      refine lv_isub hx hb dX5_counted_100 ?_
      obtain ⟨k7, hg, hf⟩ := bV_inv hf
      refine q_cv (rest := []) (ws' := (wX5_counted cI cJ cZ cS a_t a_s a_keptS a_statuses a_pile a_tape a_steps a_wish a_mark a_bitsOf a_sizeOf a_number a_moved v_isKept v_taped k7.1 v_fault k7.2.1 v_open v_tape k7.2.2)) (w1 := (wX5_lay cI cJ cZ cS a_t a_s a_keptS a_statuses a_pile a_tape a_steps a_wish a_mark a_bitsOf a_sizeOf a_number a_moved v_isKept v_taped k7.1 v_fault k7.2.1 v_open k7.2.2)) fx h [0, 2] rfl rfl rfl rfl (q_runV fx h hl.1 [0, 2] rfl rfl (tX5_lay l D cI cJ cZ cS tb a_t a_s a_keptS a_statuses a_pile a_tape a_steps a_wish a_mark a_bitsOf a_sizeOf a_number a_moved H.size v_isKept v_taped u2 v_fault v_laid v_open v_steps ((s0 + r6) - 48) k7 hg) mvX5_lay k_775 ⟨rfl, rfl⟩ ⟨Nat.le_of_ble_eq_true rfl, Nat.le_of_ble_eq_true rfl⟩ rfl rfl rfl rfl (Nat.le_of_ble_eq_true rfl) dX5_counted_101 ⟨Nat.le_of_ble_eq_true rfl, Nat.le_of_ble_eq_true rfl⟩) (fun H locs h => ?_)
      exact q_retv (fun k : Int32 × Int32 × Int32 × (Nat → Int32) => (wX5_counted cI cJ cZ cS a_t a_s a_keptS a_statuses a_pile a_tape a_steps a_wish a_mark a_bitsOf a_sizeOf a_number a_moved v_isKept v_taped k.1 k.2.1 k.2.2.1 v_open v_tape k.2.2.2)) fx hf h dX5_counted_104
    have hf := it_t c5 hf
    refine lv_aload_n hx hb dX5_counted_86 rfl (lv_at hl 1 rfl) ?_
    obtain ⟨k8, hg, hf⟩ := bV_inv hf
    refine q_cv (rest := []) (ws' := (wX5_counted cI cJ cZ cS a_t a_s a_keptS a_statuses a_pile a_tape a_steps a_wish a_mark a_bitsOf a_sizeOf a_number a_moved v_isKept v_taped u2 k8 v_laid v_open v_tape v_steps)) (w1 := (wX5_faulty cI cJ cZ cS a_t a_s a_keptS a_statuses a_pile a_tape a_steps a_wish a_mark a_bitsOf a_sizeOf a_number a_moved v_isKept v_taped u2 k8 v_laid v_open)) fx h [0] rfl rfl rfl rfl (q_runV fx h hl.1 [0] rfl rfl (tX5_faulty l D cI cJ cZ cS tb a_t a_s a_keptS a_statuses a_pile a_tape a_steps a_wish a_mark a_bitsOf a_sizeOf a_number a_moved H.size v_isKept v_taped u2 v_fault v_laid v_open k8 hg) mvX5_faulty k_783 ⟨rfl, rfl⟩ ⟨Nat.le_of_ble_eq_true rfl, Nat.le_of_ble_eq_true rfl⟩ rfl rfl rfl rfl (Nat.le_of_ble_eq_true rfl) dX5_counted_87 ⟨Nat.le_of_ble_eq_true rfl, Nat.le_of_ble_eq_true rfl⟩) (fun H locs h => ?_)
    exact q_retv (fun k : Int32 × Int32 × Int32 × (Nat → Int32) => (wX5_counted cI cJ cZ cS a_t a_s a_keptS a_statuses a_pile a_tape a_steps a_wish a_mark a_bitsOf a_sizeOf a_number a_moved v_isKept v_taped k.1 k.2.1 k.2.2.1 v_open v_tape k.2.2.2)) fx hf h dX5_counted_90
  have hf := it_f c1 hf
  refine lv_aload_n hx hb dX5_counted_54 rfl (lv_at hl 1 rfl) ?_
  obtain ⟨k9, hg, hf⟩ := bV_inv hf
  refine q_cv (rest := []) (ws' := (wX5_counted cI cJ cZ cS a_t a_s a_keptS a_statuses a_pile a_tape a_steps a_wish a_mark a_bitsOf a_sizeOf a_number a_moved v_isKept v_taped v_at k9 v_laid v_open v_tape v_steps)) (w1 := (wX5_faulty cI cJ cZ cS a_t a_s a_keptS a_statuses a_pile a_tape a_steps a_wish a_mark a_bitsOf a_sizeOf a_number a_moved v_isKept v_taped v_at k9 v_laid v_open)) fx h [0] rfl rfl rfl rfl (q_runV fx h hl.1 [0] rfl rfl (tX5_faulty l D cI cJ cZ cS tb a_t a_s a_keptS a_statuses a_pile a_tape a_steps a_wish a_mark a_bitsOf a_sizeOf a_number a_moved H.size v_isKept v_taped v_at v_fault v_laid v_open k9 hg) mvX5_faulty k_783 ⟨rfl, rfl⟩ ⟨Nat.le_of_ble_eq_true rfl, Nat.le_of_ble_eq_true rfl⟩ rfl rfl rfl rfl (Nat.le_of_ble_eq_true rfl) dX5_counted_55 ⟨Nat.le_of_ble_eq_true rfl, Nat.le_of_ble_eq_true rfl⟩) (fun H locs h => ?_)
  exact q_retv (fun k : Int32 × Int32 × Int32 × (Nat → Int32) => (wX5_counted cI cJ cZ cS a_t a_s a_keptS a_statuses a_pile a_tape a_steps a_wish a_mark a_bitsOf a_sizeOf a_number a_moved v_isKept v_taped k.1 k.2.1 k.2.2.1 v_open v_tape k.2.2.2)) fx hf h dX5_counted_58
def fX5_counted (v_taped : Int32) (v_at : Int32) (v_fault : Int32) (v_laid : Int32) (v_tape : Nat → Int32) (v_steps : Nat → Int32) : Option (Int32 × Int32 × Int32 × (Nat → Int32)) :=
  nm (v_at + 1) (fun u10 =>
  bR (fX5_look v_taped u10 v_tape) (fun r11 k11 =>
  (if r11 = 60 then (
  fX5_counted_49 v_taped v_tape u10 v_fault v_laid v_steps 100)
  else (
  (if r11 = 61 then (
  fX5_counted_49 v_taped v_tape u10 v_fault v_laid v_steps 110)
  else (
  (if r11 = 62 then (
  fX5_counted_49 v_taped v_tape u10 v_fault v_laid v_steps 120)
  else (
  fX5_counted_49 v_taped v_tape u10 v_fault v_laid v_steps (-1)))))))))
set_option maxRecDepth 100000 in
set_option maxHeartbeats 4000000 in
theorem tX5_counted (l : Launch) (D : va_G) (cI cJ cZ cS : ClassId) (tb : Nat) (a_t a_s a_keptS a_statuses a_pile a_tape a_steps a_wish a_mark a_bitsOf a_sizeOf a_number a_moved : Nat) (sz : Nat) (v_isKept : Int32) (v_taped : Int32) (v_at : Int32) (v_fault : Int32) (v_laid : Int32) (v_open : Int32) (v_tape : Nat → Int32) (v_steps : Nat → Int32) (kk' : Int32 × Int32 × Int32 × (Nat → Int32)) (hf : fX5_counted v_taped v_at v_fault v_laid v_tape v_steps = some kk') : Met l yX5_counted (Cond.code yX5_counted cX5_counted 3 none :: wA) rX5_counted (q_Pre D cI cJ cZ cS tb [.ref a_t] sz (wX5_counted cI cJ cZ cS a_t a_s a_keptS a_statuses a_pile a_tape a_steps a_wish a_mark a_bitsOf a_sizeOf a_number a_moved v_isKept v_taped v_at v_fault v_laid v_open v_tape v_steps)) (q_Rv D (va_A (wX5_counted cI cJ cZ cS a_t a_s a_keptS a_statuses a_pile a_tape a_steps a_wish a_mark a_bitsOf a_sizeOf a_number a_moved v_isKept v_taped v_at v_fault v_laid v_open v_tape v_steps) sz) ((fun k : Int32 × Int32 × Int32 × (Nat → Int32) => (wX5_counted cI cJ cZ cS a_t a_s a_keptS a_statuses a_pile a_tape a_steps a_wish a_mark a_bitsOf a_sizeOf a_number a_moved v_isKept v_taped k.1 k.2.1 k.2.2.1 v_open v_tape k.2.2.2)) kk')) 0 0 (va_A (wX5_counted cI cJ cZ cS a_t a_s a_keptS a_statuses a_pile a_tape a_steps a_wish a_mark a_bitsOf a_sizeOf a_number a_moved v_isKept v_taped v_at v_fault v_laid v_open v_tape v_steps) sz) := by
  refine q_enter (Qf := fun A => (q_Rv D A ((fun k : Int32 × Int32 × Int32 × (Nat → Int32) => (wX5_counted cI cJ cZ cS a_t a_s a_keptS a_statuses a_pile a_tape a_steps a_wish a_mark a_bitsOf a_sizeOf a_number a_moved v_isKept v_taped k.1 k.2.1 k.2.2.1 v_open v_tape k.2.2.2)) kk'))) (by decide) rfl (Nat.le_of_ble_eq_true rfl) ?_
  intro p e s m below meth c A ls fx hname h hl
  have hx := fx.1
  have hb := fx.2.1
  have hl : lv_has ls 3 [(0, .ref a_t)] := hl
  generalize h9 : s.heap = H at h ⊢
  clear h9
  generalize h9 : ([] : List Loc) = locs at h ⊢
  clear h9
  unfold fX5_counted at hf
  refine lv_aload_n hx hb dX5_counted_0 rfl (lv_at hl 0 rfl) ?_
  refine lv_dup hx hb dX5_counted_1 rfl ?_
  refine q_get (v := .int v_at) fx inX5 h 0 rfl rfl 8 (by decide) k_644 rfl dX5_counted_2 ?_
  refine lv_iconst (v := 1) hx hb dX5_counted_5 (by decide) ?_
  refine lv_iadd hx hb dX5_counted_6 ?_
  obtain ⟨u10, eu10, hf⟩ := nm_inv hf
  refine lv_eqi eu10 ?_
  refine q_put (v := .int u10) (ws' := (wX5_counted cI cJ cZ cS a_t a_s a_keptS a_statuses a_pile a_tape a_steps a_wish a_mark a_bitsOf a_sizeOf a_number a_moved v_isKept v_taped u10 v_fault v_laid v_open v_tape v_steps)) fx inX5 tyX5 tyX5_ok nmX5 h 0 rfl rfl 8 (by decide) k_644 rfl rfl rfl (Nat.le_of_ble_eq_true rfl) rfl dX5_counted_7 (fun H locs h => ?_)
  refine lv_aload_n hx hb dX5_counted_10 rfl (lv_at hl 0 rfl) ?_
  obtain ⟨r11, k11, hg, hf⟩ := bR_inv hf
  refine q_ci (rest := []) (ws' := (wX5_counted cI cJ cZ cS a_t a_s a_keptS a_statuses a_pile a_tape a_steps a_wish a_mark a_bitsOf a_sizeOf a_number a_moved v_isKept v_taped u10 v_fault v_laid v_open v_tape v_steps)) (w1 := (wX5_look cI cJ cZ cS a_t a_s a_keptS a_statuses a_pile a_tape a_steps a_wish a_mark a_bitsOf a_sizeOf a_number a_moved v_isKept v_taped u10 v_fault v_laid v_open v_tape)) fx h [0, 1] rfl rfl rfl rfl (q_runV fx h hl.1 [0, 1] rfl rfl (tX5_look l D cI cJ cZ cS tb a_t a_s a_keptS a_statuses a_pile a_tape a_steps a_wish a_mark a_bitsOf a_sizeOf a_number a_moved H.size v_isKept v_taped u10 v_fault v_laid v_open v_tape r11 k11 hg) mvX5_look k_769 ⟨rfl, rfl⟩ ⟨Nat.le_of_ble_eq_true rfl, Nat.le_of_ble_eq_true rfl⟩ rfl rfl rfl rfl (Nat.le_of_ble_eq_true rfl) dX5_counted_11 ⟨Nat.le_of_ble_eq_true rfl, Nat.le_of_ble_eq_true rfl⟩) (fun H locs h => ?_)
  refine lv_istore_n (lv' := [(1, .int r11), (0, .ref a_t)]) hx hb dX5_counted_14 rfl hl (by decide) rfl (fun ls hl => ?_)
  refine lv_iload_n hx hb dX5_counted_15 rfl (lv_at hl 0 rfl) ?_
  refine lv_bipush (v := 60) hx hb dX5_counted_16 (by decide) ?_
  refine lv_icmp_ne (tgt := 26) hx hb dX5_counted_18 (by decide) (fun c12 => ?_) (fun c12 => ?_)
  · have hf := it_f c12 hf
    refine lv_iload_n hx hb dX5_counted_26 rfl (lv_at hl 0 rfl) ?_
    refine lv_bipush (v := 61) hx hb dX5_counted_27 (by decide) ?_
    refine lv_icmp_ne (tgt := 37) hx hb dX5_counted_29 (by decide) (fun c13 => ?_) (fun c13 => ?_)
    · have hf := it_f c13 hf
      refine lv_iload_n hx hb dX5_counted_37 rfl (lv_at hl 0 rfl) ?_
      refine lv_bipush (v := 62) hx hb dX5_counted_38 (by decide) ?_
      refine lv_icmp_ne (tgt := 48) hx hb dX5_counted_40 (by decide) (fun c14 => ?_) (fun c14 => ?_)
      · have hf := it_f c14 hf
        refine lv_iconst (v := -1) hx hb dX5_counted_48 (by decide) ?_
        exact LX5_counted_49 fx h (lv_sub hl [1] rfl) hf
      have hf := it_t c14 hf
      refine lv_bipush (v := 120) hx hb dX5_counted_43 (by decide) ?_
      refine lv_goto (tgt := 49) hx hb dX5_counted_45 (by decide) ?_
      exact LX5_counted_49 fx h (lv_sub hl [1] rfl) hf
    have hf := it_t c13 hf
    refine lv_bipush (v := 110) hx hb dX5_counted_32 (by decide) ?_
    refine lv_goto (tgt := 49) hx hb dX5_counted_34 (by decide) ?_
    exact LX5_counted_49 fx h (lv_sub hl [1] rfl) hf
  have hf := it_t c12 hf
  refine lv_bipush (v := 100) hx hb dX5_counted_21 (by decide) ?_
  refine lv_goto (tgt := 49) hx hb dX5_counted_23 (by decide) ?_
  exact LX5_counted_49 fx h (lv_sub hl [1] rfl) hf
end
section
abbrev rX5_unit (d : Nat) : Room := { frames := 3 * d + 2, cells := 0, slots := 0, locals := 90 * d + 60 }
abbrev rX5_every (d : Nat) : Room := { frames := 3 * d + 3, cells := 0, slots := 0, locals := 90 * d + 90 }
abbrev rX5_any (d : Nat) : Room := { frames := 3 * d + 4, cells := 0, slots := 0, locals := 90 * d + 120 }
theorem room_X5_unit_X5_any (dd : Nat) : (rX5_any dd).frames + 1 ≤ (rX5_unit (dd + 1)).frames ∧ 8 + (1 + 11) + (rX5_any dd).locals ≤ (rX5_unit (dd + 1)).locals := by
  constructor
  · show 3 * dd + 4 + 1 ≤ 3 * (dd + 1) + 2; omega
  · show 8 + (1 + 11) + (90 * dd + 120) ≤ 90 * (dd + 1) + 60; omega
theorem room_X5_unit_X5_counted (dd : Nat) : rX5_counted.frames + 1 ≤ (rX5_unit (dd + 1)).frames ∧ 8 + (3 + 11) + rX5_counted.locals ≤ (rX5_unit (dd + 1)).locals := by
  constructor
  · show 1 + 1 ≤ 3 * (dd + 1) + 2; omega
  · show 8 + (3 + 11) + 25 ≤ 90 * (dd + 1) + 60; omega
theorem room_X5_unit_X5_faulty (dd : Nat) : rX5_faulty.frames + 1 ≤ (rX5_unit (dd + 1)).frames ∧ 8 + (1 + 11) + rX5_faulty.locals ≤ (rX5_unit (dd + 1)).locals := by
  constructor
  · show 0 + 1 ≤ 3 * (dd + 1) + 2; omega
  · show 8 + (1 + 11) + 0 ≤ 90 * (dd + 1) + 60; omega
theorem room_X5_unit_X5_in (dd : Nat) : rX5_in.frames + 1 ≤ (rX5_unit (dd + 1)).frames ∧ 8 + (6 + 11) + rX5_in.locals ≤ (rX5_unit (dd + 1)).locals := by
  constructor
  · show 0 + 1 ≤ 3 * (dd + 1) + 2; omega
  · show 8 + (6 + 11) + 0 ≤ 90 * (dd + 1) + 60; omega
theorem room_X5_unit_X5_lay (dd : Nat) : rX5_lay.frames + 1 ≤ (rX5_unit (dd + 1)).frames ∧ 8 + (2 + 11) + rX5_lay.locals ≤ (rX5_unit (dd + 1)).locals := by
  constructor
  · show 0 + 1 ≤ 3 * (dd + 1) + 2; omega
  · show 8 + (2 + 11) + 0 ≤ 90 * (dd + 1) + 60; omega
theorem room_X5_unit_X5_look (dd : Nat) : rX5_look.frames + 1 ≤ (rX5_unit (dd + 1)).frames ∧ 8 + (1 + 11) + rX5_look.locals ≤ (rX5_unit (dd + 1)).locals := by
  constructor
  · show 0 + 1 ≤ 3 * (dd + 1) + 2; omega
  · show 8 + (1 + 11) + 0 ≤ 90 * (dd + 1) + 60; omega
theorem room_X5_unit_X5_opens (dd : Nat) : rX5_opens.frames + 1 ≤ (rX5_unit (dd + 1)).frames ∧ 8 + (1 + 11) + rX5_opens.locals ≤ (rX5_unit (dd + 1)).locals := by
  constructor
  · show 1 + 1 ≤ 3 * (dd + 1) + 2; omega
  · show 8 + (1 + 11) + 20 ≤ 90 * (dd + 1) + 60; omega
theorem room_X5_unit_X5_unit (dd : Nat) : (rX5_unit dd).frames + 1 ≤ (rX5_unit (dd + 1)).frames ∧ 8 + (2 + 11) + (rX5_unit dd).locals ≤ (rX5_unit (dd + 1)).locals := by
  constructor
  · show 3 * dd + 2 + 1 ≤ 3 * (dd + 1) + 2; omega
  · show 8 + (2 + 11) + (90 * dd + 60) ≤ 90 * (dd + 1) + 60; omega
theorem room_X5_every_X5_look (dd : Nat) : rX5_look.frames + 1 ≤ (rX5_every dd).frames ∧ 8 + (1 + 11) + rX5_look.locals ≤ (rX5_every dd).locals := by
  constructor
  · show 0 + 1 ≤ 3 * dd + 3; omega
  · show 8 + (1 + 11) + 0 ≤ 90 * dd + 90; omega
theorem room_X5_every_X5_unit (dd : Nat) : (rX5_unit dd).frames + 1 ≤ (rX5_every dd).frames ∧ 8 + (2 + 11) + (rX5_unit dd).locals ≤ (rX5_every dd).locals := by
  constructor
  · show 3 * dd + 2 + 1 ≤ 3 * dd + 3; omega
  · show 8 + (2 + 11) + (90 * dd + 60) ≤ 90 * dd + 90; omega
theorem room_X5_any_X5_every (dd : Nat) : (rX5_every dd).frames + 1 ≤ (rX5_any dd).frames ∧ 8 + (1 + 11) + (rX5_every dd).locals ≤ (rX5_any dd).locals := by
  constructor
  · show 3 * dd + 3 + 1 ≤ 3 * dd + 4; omega
  · show 8 + (1 + 11) + (90 * dd + 90) ≤ 90 * dd + 120; omega
theorem room_X5_any_X5_look (dd : Nat) : rX5_look.frames + 1 ≤ (rX5_any dd).frames ∧ 8 + (1 + 11) + rX5_look.locals ≤ (rX5_any dd).locals := by
  constructor
  · show 0 + 1 ≤ 3 * dd + 4; omega
  · show 8 + (1 + 11) + 0 ≤ 90 * dd + 120; omega
abbrev wX5_unit (cI cJ cZ cS : ClassId) (a_t a_s a_keptS a_statuses a_pile a_tape a_steps a_wish a_mark a_bitsOf a_sizeOf a_number a_moved : Nat) (v_isKept : Int32) (v_taped : Int32) (v_at : Int32) (v_fault : Int32) (v_laid : Int32) (v_open : Int32) (v_tape : Nat → Int32) (v_steps : Nat → Int32) : va_W := [(a_t, .inr (5, [.ref a_s, .ref a_keptS, .ref a_statuses, .int v_isKept, .ref a_pile, .ref a_tape, .ref a_steps, .int v_taped, .int v_at, .int v_fault, .int v_laid, .int v_open, .ref a_wish, .ref a_mark, .ref a_bitsOf, .ref a_sizeOf, .ref a_number, .ref a_moved])), (a_tape, .inl (cI, 60, .inl v_tape)), (a_steps, .inl (cI, 64, .inl v_steps))]
abbrev wX5_every (cI cJ cZ cS : ClassId) (a_t a_s a_keptS a_statuses a_pile a_tape a_steps a_wish a_mark a_bitsOf a_sizeOf a_number a_moved : Nat) (v_isKept : Int32) (v_taped : Int32) (v_at : Int32) (v_fault : Int32) (v_laid : Int32) (v_open : Int32) (v_tape : Nat → Int32) (v_steps : Nat → Int32) : va_W := [(a_t, .inr (5, [.ref a_s, .ref a_keptS, .ref a_statuses, .int v_isKept, .ref a_pile, .ref a_tape, .ref a_steps, .int v_taped, .int v_at, .int v_fault, .int v_laid, .int v_open, .ref a_wish, .ref a_mark, .ref a_bitsOf, .ref a_sizeOf, .ref a_number, .ref a_moved])), (a_tape, .inl (cI, 60, .inl v_tape)), (a_steps, .inl (cI, 64, .inl v_steps))]
abbrev wX5_any (cI cJ cZ cS : ClassId) (a_t a_s a_keptS a_statuses a_pile a_tape a_steps a_wish a_mark a_bitsOf a_sizeOf a_number a_moved : Nat) (v_isKept : Int32) (v_taped : Int32) (v_at : Int32) (v_fault : Int32) (v_laid : Int32) (v_open : Int32) (v_tape : Nat → Int32) (v_steps : Nat → Int32) : va_W := [(a_t, .inr (5, [.ref a_s, .ref a_keptS, .ref a_statuses, .int v_isKept, .ref a_pile, .ref a_tape, .ref a_steps, .int v_taped, .int v_at, .int v_fault, .int v_laid, .int v_open, .ref a_wish, .ref a_mark, .ref a_bitsOf, .ref a_sizeOf, .ref a_number, .ref a_moved])), (a_tape, .inl (cI, 60, .inl v_tape)), (a_steps, .inl (cI, 64, .inl v_steps))]
/-! X5_unit -/
def fX5_unit_189 (gX5_any : Int32 → Int32 → Int32 → Int32 → Int32 → (Nat → Int32) → (Nat → Int32) → Option (Int32 × Int32 × Int32 × Int32 × (Nat → Int32))) (gX5_unit : Int32 → Int32 → Int32 → Int32 → Int32 → (Nat → Int32) → (Nat → Int32) → Option (Int32 × Int32 × Int32 × Int32 × (Nat → Int32))) (v_taped : Int32) (v_tape : Nat → Int32) (v_at : Int32) (v_fault : Int32) (v_laid : Int32) (v_open : Int32) (v_steps : Nat → Int32) : Option (Int32 × Int32 × Int32 × Int32 × (Nat → Int32)) :=
  bV (fX5_faulty v_at v_fault) (fun k1 =>
  some (v_at, k1, v_laid, v_open, v_steps))
set_option maxRecDepth 100000 in
set_option maxHeartbeats 4000000 in
theorem LX5_unit_189 {p : Program} {l : Launch} {e : Env} {s : State} {m : MethodId} {args : Array Value} {below : List Frame} {meth : Method} {c : Code} {D : va_G} {cI cJ cZ cS : ClassId} {tb : Nat} {A : Nat → Prop} {a_t a_s a_keptS a_statuses a_pile a_tape a_steps a_wish a_mark a_bitsOf a_sizeOf a_number a_moved : Nat} {v_isKept : Int32} {v_taped : Int32} {v_tape : Nat → Int32} {kk' : Int32 × Int32 × Int32 × Int32 × (Nat → Int32)} {dd : Nat} {gX5_any : Int32 → Int32 → Int32 → Int32 → Int32 → (Nat → Int32) → (Nat → Int32) → Option (Int32 × Int32 × Int32 × Int32 × (Nat → Int32))} (hgX5_any : ∀ (D : va_G) (cI cJ cZ cS : ClassId) (tb : Nat) (a_t a_s a_keptS a_statuses a_pile a_tape a_steps a_wish a_mark a_bitsOf a_sizeOf a_number a_moved : Nat) (sz : Nat) (v_isKept : Int32) (v_taped : Int32) (v_at : Int32) (v_fault : Int32) (v_laid : Int32) (v_open : Int32) (v_tape : Nat → Int32) (v_steps : Nat → Int32) (kk' : Int32 × Int32 × Int32 × Int32 × (Nat → Int32)) (hf : gX5_any v_taped v_at v_fault v_laid v_open v_tape v_steps = some kk'), Met l yX5_any (Cond.code yX5_any cX5_any 1 none :: wA) (rX5_any dd) (q_Pre D cI cJ cZ cS tb [.ref a_t] sz (wX5_any cI cJ cZ cS a_t a_s a_keptS a_statuses a_pile a_tape a_steps a_wish a_mark a_bitsOf a_sizeOf a_number a_moved v_isKept v_taped v_at v_fault v_laid v_open v_tape v_steps)) (q_Rv D (va_A (wX5_any cI cJ cZ cS a_t a_s a_keptS a_statuses a_pile a_tape a_steps a_wish a_mark a_bitsOf a_sizeOf a_number a_moved v_isKept v_taped v_at v_fault v_laid v_open v_tape v_steps) sz) ((fun k : Int32 × Int32 × Int32 × Int32 × (Nat → Int32) => (wX5_any cI cJ cZ cS a_t a_s a_keptS a_statuses a_pile a_tape a_steps a_wish a_mark a_bitsOf a_sizeOf a_number a_moved v_isKept v_taped k.1 k.2.1 k.2.2.1 k.2.2.2.1 v_tape k.2.2.2.2)) kk')) 0 0 (va_A (wX5_any cI cJ cZ cS a_t a_s a_keptS a_statuses a_pile a_tape a_steps a_wish a_mark a_bitsOf a_sizeOf a_number a_moved v_isKept v_taped v_at v_fault v_laid v_open v_tape v_steps) sz)) {gX5_unit : Int32 → Int32 → Int32 → Int32 → Int32 → (Nat → Int32) → (Nat → Int32) → Option (Int32 × Int32 × Int32 × Int32 × (Nat → Int32))} (hgX5_unit : ∀ (D : va_G) (cI cJ cZ cS : ClassId) (tb : Nat) (a_t a_s a_keptS a_statuses a_pile a_tape a_steps a_wish a_mark a_bitsOf a_sizeOf a_number a_moved : Nat) (sz : Nat) (v_isKept : Int32) (v_taped : Int32) (v_at : Int32) (v_fault : Int32) (v_laid : Int32) (v_open : Int32) (v_tape : Nat → Int32) (v_steps : Nat → Int32) (kk' : Int32 × Int32 × Int32 × Int32 × (Nat → Int32)) (hf : gX5_unit v_taped v_at v_fault v_laid v_open v_tape v_steps = some kk'), Met l yX5_unit (Cond.code yX5_unit cX5_unit 2 none :: wA) (rX5_unit dd) (q_Pre D cI cJ cZ cS tb [.ref a_t] sz (wX5_unit cI cJ cZ cS a_t a_s a_keptS a_statuses a_pile a_tape a_steps a_wish a_mark a_bitsOf a_sizeOf a_number a_moved v_isKept v_taped v_at v_fault v_laid v_open v_tape v_steps)) (q_Rv D (va_A (wX5_unit cI cJ cZ cS a_t a_s a_keptS a_statuses a_pile a_tape a_steps a_wish a_mark a_bitsOf a_sizeOf a_number a_moved v_isKept v_taped v_at v_fault v_laid v_open v_tape v_steps) sz) ((fun k : Int32 × Int32 × Int32 × Int32 × (Nat → Int32) => (wX5_unit cI cJ cZ cS a_t a_s a_keptS a_statuses a_pile a_tape a_steps a_wish a_mark a_bitsOf a_sizeOf a_number a_moved v_isKept v_taped k.1 k.2.1 k.2.2.1 k.2.2.2.1 v_tape k.2.2.2.2)) kk')) 0 0 (va_A (wX5_unit cI cJ cZ cS a_t a_s a_keptS a_statuses a_pile a_tape a_steps a_wish a_mark a_bitsOf a_sizeOf a_number a_moved v_isKept v_taped v_at v_fault v_laid v_open v_tape v_steps) sz)) (fx : q_Fx p s m args meth c cX5_unit 2 RX5 none D cI cJ cZ cS tb A) : ∀ {v_at : Int32} {v_fault : Int32} {v_laid : Int32} {v_open : Int32} {v_steps : Nat → Int32} {H : Heap} {locs : List Loc} {ls : Array Slot}, q_H D A s (wX5_unit cI cJ cZ cS a_t a_s a_keptS a_statuses a_pile a_tape a_steps a_wish a_mark a_bitsOf a_sizeOf a_number a_moved v_isKept v_taped v_at v_fault v_laid v_open v_tape v_steps) H locs → lv_has ls 2 [(0, .ref a_t)] → fX5_unit_189 gX5_any gX5_unit v_taped v_tape v_at v_fault v_laid v_open v_steps = some kk' → W p l e (rX5_unit (dd + 1)) s m args below meth c H locs 0 0 (MQ below (q_Rv D A ((fun k : Int32 × Int32 × Int32 × Int32 × (Nat → Int32) => (wX5_unit cI cJ cZ cS a_t a_s a_keptS a_statuses a_pile a_tape a_steps a_wish a_mark a_bitsOf a_sizeOf a_number a_moved v_isKept v_taped k.1 k.2.1 k.2.2.1 k.2.2.2.1 v_tape k.2.2.2.2)) kk')) args s 0 0 A) (F0 m 189 ls []) := by
  intro v_at v_fault v_laid v_open v_steps H locs ls h hl hf
  have hx := fx.1
  have hb := fx.2.1
  unfold fX5_unit_189 at hf
  refine lv_aload_n hx hb dX5_unit_189 rfl (lv_at hl 0 rfl) ?_
  obtain ⟨k1, hg, hf⟩ := bV_inv hf
  refine q_cv (rest := []) (ws' := (wX5_unit cI cJ cZ cS a_t a_s a_keptS a_statuses a_pile a_tape a_steps a_wish a_mark a_bitsOf a_sizeOf a_number a_moved v_isKept v_taped v_at k1 v_laid v_open v_tape v_steps)) (w1 := (wX5_faulty cI cJ cZ cS a_t a_s a_keptS a_statuses a_pile a_tape a_steps a_wish a_mark a_bitsOf a_sizeOf a_number a_moved v_isKept v_taped v_at k1 v_laid v_open)) fx h [0] rfl rfl rfl rfl (q_runV fx h hl.1 [0] rfl rfl (tX5_faulty l D cI cJ cZ cS tb a_t a_s a_keptS a_statuses a_pile a_tape a_steps a_wish a_mark a_bitsOf a_sizeOf a_number a_moved H.size v_isKept v_taped v_at v_fault v_laid v_open k1 hg) mvX5_faulty k_783 ⟨rfl, rfl⟩ (room_X5_unit_X5_faulty dd) rfl rfl rfl rfl (Nat.le_of_ble_eq_true rfl) dX5_unit_190 ⟨Nat.le_of_ble_eq_true rfl, Nat.le_of_ble_eq_true rfl⟩) (fun H locs h => ?_)
  exact q_retv (fun k : Int32 × Int32 × Int32 × Int32 × (Nat → Int32) => (wX5_unit cI cJ cZ cS a_t a_s a_keptS a_statuses a_pile a_tape a_steps a_wish a_mark a_bitsOf a_sizeOf a_number a_moved v_isKept v_taped k.1 k.2.1 k.2.2.1 k.2.2.2.1 v_tape k.2.2.2.2)) fx hf h dX5_unit_193
def fX5_unit_166 (gX5_any : Int32 → Int32 → Int32 → Int32 → Int32 → (Nat → Int32) → (Nat → Int32) → Option (Int32 × Int32 × Int32 × Int32 × (Nat → Int32))) (gX5_unit : Int32 → Int32 → Int32 → Int32 → Int32 → (Nat → Int32) → (Nat → Int32) → Option (Int32 × Int32 × Int32 × Int32 × (Nat → Int32))) (v_taped : Int32) (v_tape : Nat → Int32) (v_at : Int32) (v_fault : Int32) (v_laid : Int32) (v_open : Int32) (v_steps : Nat → Int32) : Option (Int32 × Int32 × Int32 × Int32 × (Nat → Int32)) :=
  nm (v_at + 1) (fun u2 =>
  nm (v_open - 1) (fun u3 =>
  some (u2, v_fault, v_laid, u3, v_steps)))
set_option maxRecDepth 100000 in
set_option maxHeartbeats 4000000 in
theorem LX5_unit_166 {p : Program} {l : Launch} {e : Env} {s : State} {m : MethodId} {args : Array Value} {below : List Frame} {meth : Method} {c : Code} {D : va_G} {cI cJ cZ cS : ClassId} {tb : Nat} {A : Nat → Prop} {a_t a_s a_keptS a_statuses a_pile a_tape a_steps a_wish a_mark a_bitsOf a_sizeOf a_number a_moved : Nat} {v_isKept : Int32} {v_taped : Int32} {v_tape : Nat → Int32} {kk' : Int32 × Int32 × Int32 × Int32 × (Nat → Int32)} {dd : Nat} {gX5_any : Int32 → Int32 → Int32 → Int32 → Int32 → (Nat → Int32) → (Nat → Int32) → Option (Int32 × Int32 × Int32 × Int32 × (Nat → Int32))} (hgX5_any : ∀ (D : va_G) (cI cJ cZ cS : ClassId) (tb : Nat) (a_t a_s a_keptS a_statuses a_pile a_tape a_steps a_wish a_mark a_bitsOf a_sizeOf a_number a_moved : Nat) (sz : Nat) (v_isKept : Int32) (v_taped : Int32) (v_at : Int32) (v_fault : Int32) (v_laid : Int32) (v_open : Int32) (v_tape : Nat → Int32) (v_steps : Nat → Int32) (kk' : Int32 × Int32 × Int32 × Int32 × (Nat → Int32)) (hf : gX5_any v_taped v_at v_fault v_laid v_open v_tape v_steps = some kk'), Met l yX5_any (Cond.code yX5_any cX5_any 1 none :: wA) (rX5_any dd) (q_Pre D cI cJ cZ cS tb [.ref a_t] sz (wX5_any cI cJ cZ cS a_t a_s a_keptS a_statuses a_pile a_tape a_steps a_wish a_mark a_bitsOf a_sizeOf a_number a_moved v_isKept v_taped v_at v_fault v_laid v_open v_tape v_steps)) (q_Rv D (va_A (wX5_any cI cJ cZ cS a_t a_s a_keptS a_statuses a_pile a_tape a_steps a_wish a_mark a_bitsOf a_sizeOf a_number a_moved v_isKept v_taped v_at v_fault v_laid v_open v_tape v_steps) sz) ((fun k : Int32 × Int32 × Int32 × Int32 × (Nat → Int32) => (wX5_any cI cJ cZ cS a_t a_s a_keptS a_statuses a_pile a_tape a_steps a_wish a_mark a_bitsOf a_sizeOf a_number a_moved v_isKept v_taped k.1 k.2.1 k.2.2.1 k.2.2.2.1 v_tape k.2.2.2.2)) kk')) 0 0 (va_A (wX5_any cI cJ cZ cS a_t a_s a_keptS a_statuses a_pile a_tape a_steps a_wish a_mark a_bitsOf a_sizeOf a_number a_moved v_isKept v_taped v_at v_fault v_laid v_open v_tape v_steps) sz)) {gX5_unit : Int32 → Int32 → Int32 → Int32 → Int32 → (Nat → Int32) → (Nat → Int32) → Option (Int32 × Int32 × Int32 × Int32 × (Nat → Int32))} (hgX5_unit : ∀ (D : va_G) (cI cJ cZ cS : ClassId) (tb : Nat) (a_t a_s a_keptS a_statuses a_pile a_tape a_steps a_wish a_mark a_bitsOf a_sizeOf a_number a_moved : Nat) (sz : Nat) (v_isKept : Int32) (v_taped : Int32) (v_at : Int32) (v_fault : Int32) (v_laid : Int32) (v_open : Int32) (v_tape : Nat → Int32) (v_steps : Nat → Int32) (kk' : Int32 × Int32 × Int32 × Int32 × (Nat → Int32)) (hf : gX5_unit v_taped v_at v_fault v_laid v_open v_tape v_steps = some kk'), Met l yX5_unit (Cond.code yX5_unit cX5_unit 2 none :: wA) (rX5_unit dd) (q_Pre D cI cJ cZ cS tb [.ref a_t] sz (wX5_unit cI cJ cZ cS a_t a_s a_keptS a_statuses a_pile a_tape a_steps a_wish a_mark a_bitsOf a_sizeOf a_number a_moved v_isKept v_taped v_at v_fault v_laid v_open v_tape v_steps)) (q_Rv D (va_A (wX5_unit cI cJ cZ cS a_t a_s a_keptS a_statuses a_pile a_tape a_steps a_wish a_mark a_bitsOf a_sizeOf a_number a_moved v_isKept v_taped v_at v_fault v_laid v_open v_tape v_steps) sz) ((fun k : Int32 × Int32 × Int32 × Int32 × (Nat → Int32) => (wX5_unit cI cJ cZ cS a_t a_s a_keptS a_statuses a_pile a_tape a_steps a_wish a_mark a_bitsOf a_sizeOf a_number a_moved v_isKept v_taped k.1 k.2.1 k.2.2.1 k.2.2.2.1 v_tape k.2.2.2.2)) kk')) 0 0 (va_A (wX5_unit cI cJ cZ cS a_t a_s a_keptS a_statuses a_pile a_tape a_steps a_wish a_mark a_bitsOf a_sizeOf a_number a_moved v_isKept v_taped v_at v_fault v_laid v_open v_tape v_steps) sz)) (fx : q_Fx p s m args meth c cX5_unit 2 RX5 none D cI cJ cZ cS tb A) : ∀ {v_at : Int32} {v_fault : Int32} {v_laid : Int32} {v_open : Int32} {v_steps : Nat → Int32} {H : Heap} {locs : List Loc} {ls : Array Slot}, q_H D A s (wX5_unit cI cJ cZ cS a_t a_s a_keptS a_statuses a_pile a_tape a_steps a_wish a_mark a_bitsOf a_sizeOf a_number a_moved v_isKept v_taped v_at v_fault v_laid v_open v_tape v_steps) H locs → lv_has ls 2 [(0, .ref a_t)] → fX5_unit_166 gX5_any gX5_unit v_taped v_tape v_at v_fault v_laid v_open v_steps = some kk' → W p l e (rX5_unit (dd + 1)) s m args below meth c H locs 0 0 (MQ below (q_Rv D A ((fun k : Int32 × Int32 × Int32 × Int32 × (Nat → Int32) => (wX5_unit cI cJ cZ cS a_t a_s a_keptS a_statuses a_pile a_tape a_steps a_wish a_mark a_bitsOf a_sizeOf a_number a_moved v_isKept v_taped k.1 k.2.1 k.2.2.1 k.2.2.2.1 v_tape k.2.2.2.2)) kk')) args s 0 0 A) (F0 m 166 ls []) := by
  intro v_at v_fault v_laid v_open v_steps H locs ls h hl hf
  have hx := fx.1
  have hb := fx.2.1
  unfold fX5_unit_166 at hf
  refine lv_aload_n hx hb dX5_unit_166 rfl (lv_at hl 0 rfl) ?_
  refine lv_dup hx hb dX5_unit_167 rfl ?_
  refine q_get (v := .int v_at) fx inX5 h 0 rfl rfl 8 (by decide) k_644 rfl dX5_unit_168 ?_
  refine lv_iconst (v := 1) hx hb dX5_unit_171 (by decide) ?_
  refine lv_iadd hx hb dX5_unit_172 ?_
  obtain ⟨u2, eu2, hf⟩ := nm_inv hf
  refine lv_eqi eu2 ?_
  refine q_put (v := .int u2) (ws' := (wX5_unit cI cJ cZ cS a_t a_s a_keptS a_statuses a_pile a_tape a_steps a_wish a_mark a_bitsOf a_sizeOf a_number a_moved v_isKept v_taped u2 v_fault v_laid v_open v_tape v_steps)) fx inX5 tyX5 tyX5_ok nmX5 h 0 rfl rfl 8 (by decide) k_644 rfl rfl rfl (Nat.le_of_ble_eq_true rfl) rfl dX5_unit_173 (fun H locs h => ?_)
  refine lv_aload_n hx hb dX5_unit_176 rfl (lv_at hl 0 rfl) ?_
  refine lv_dup hx hb dX5_unit_177 rfl ?_
  refine q_get (v := .int v_open) fx inX5 h 0 rfl rfl 11 (by decide) k_647 rfl dX5_unit_178 ?_
  refine lv_iconst (v := 1) hx hb dX5_unit_181 (by decide) ?_
  refine lv_isub hx hb dX5_unit_182 ?_
  obtain ⟨u3, eu3, hf⟩ := nm_inv hf
  refine lv_eqi eu3 ?_
  refine q_put (v := .int u3) (ws' := (wX5_unit cI cJ cZ cS a_t a_s a_keptS a_statuses a_pile a_tape a_steps a_wish a_mark a_bitsOf a_sizeOf a_number a_moved v_isKept v_taped u2 v_fault v_laid u3 v_tape v_steps)) fx inX5 tyX5 tyX5_ok nmX5 h 0 rfl rfl 11 (by decide) k_647 rfl rfl rfl (Nat.le_of_ble_eq_true rfl) rfl dX5_unit_183 (fun H locs h => ?_)
  refine lv_goto (tgt := 193) hx hb dX5_unit_186 (by decide) ?_
  exact q_retv (fun k : Int32 × Int32 × Int32 × Int32 × (Nat → Int32) => (wX5_unit cI cJ cZ cS a_t a_s a_keptS a_statuses a_pile a_tape a_steps a_wish a_mark a_bitsOf a_sizeOf a_number a_moved v_isKept v_taped k.1 k.2.1 k.2.2.1 k.2.2.2.1 v_tape k.2.2.2.2)) fx hf h dX5_unit_193
def fX5_unit_129 (gX5_any : Int32 → Int32 → Int32 → Int32 → Int32 → (Nat → Int32) → (Nat → Int32) → Option (Int32 × Int32 × Int32 × Int32 × (Nat → Int32))) (gX5_unit : Int32 → Int32 → Int32 → Int32 → Int32 → (Nat → Int32) → (Nat → Int32) → Option (Int32 × Int32 × Int32 × Int32 × (Nat → Int32))) (v_taped : Int32) (v_tape : Nat → Int32) (v_at : Int32) (v_fault : Int32) (v_laid : Int32) (v_open : Int32) (v_steps : Nat → Int32) (y1 : Int32) : Option (Int32 × Int32 × Int32 × Int32 × (Nat → Int32)) :=
  (if y1 = 40 then (
  bR (fX5_opens v_at v_fault v_open) (fun r5 k5 =>
  (if r5 = 0 then (
  fX5_unit_189 gX5_any gX5_unit v_taped v_tape k5.1 k5.2.1 v_laid k5.2.2 v_steps)
  else (
  bV (gX5_any v_taped k5.1 k5.2.1 v_laid k5.2.2 v_tape v_steps) (fun k7 =>
  (if (0 : Int32) ≤ k7.2.1 then (
  fX5_unit_166 gX5_any gX5_unit v_taped v_tape k7.1 k7.2.1 k7.2.2.1 k7.2.2.2.1 k7.2.2.2.2)
  else (
  bR (fX5_look v_taped k7.1 v_tape) (fun r9 k9 =>
  (if r9 = 41 then (
  fX5_unit_166 gX5_any gX5_unit v_taped v_tape k7.1 k7.2.1 k7.2.2.1 k7.2.2.2.1 k7.2.2.2.2)
  else (
  bV (fX5_faulty k7.1 k7.2.1) (fun k11 =>
  fX5_unit_166 gX5_any gX5_unit v_taped v_tape k7.1 k11 k7.2.2.1 k7.2.2.2.1 k7.2.2.2.2)))))))))))
  else (
  fX5_unit_189 gX5_any gX5_unit v_taped v_tape v_at v_fault v_laid v_open v_steps))
set_option maxRecDepth 100000 in
set_option maxHeartbeats 4000000 in
theorem LX5_unit_129 {p : Program} {l : Launch} {e : Env} {s : State} {m : MethodId} {args : Array Value} {below : List Frame} {meth : Method} {c : Code} {D : va_G} {cI cJ cZ cS : ClassId} {tb : Nat} {A : Nat → Prop} {a_t a_s a_keptS a_statuses a_pile a_tape a_steps a_wish a_mark a_bitsOf a_sizeOf a_number a_moved : Nat} {v_isKept : Int32} {v_taped : Int32} {v_tape : Nat → Int32} {kk' : Int32 × Int32 × Int32 × Int32 × (Nat → Int32)} {dd : Nat} {gX5_any : Int32 → Int32 → Int32 → Int32 → Int32 → (Nat → Int32) → (Nat → Int32) → Option (Int32 × Int32 × Int32 × Int32 × (Nat → Int32))} (hgX5_any : ∀ (D : va_G) (cI cJ cZ cS : ClassId) (tb : Nat) (a_t a_s a_keptS a_statuses a_pile a_tape a_steps a_wish a_mark a_bitsOf a_sizeOf a_number a_moved : Nat) (sz : Nat) (v_isKept : Int32) (v_taped : Int32) (v_at : Int32) (v_fault : Int32) (v_laid : Int32) (v_open : Int32) (v_tape : Nat → Int32) (v_steps : Nat → Int32) (kk' : Int32 × Int32 × Int32 × Int32 × (Nat → Int32)) (hf : gX5_any v_taped v_at v_fault v_laid v_open v_tape v_steps = some kk'), Met l yX5_any (Cond.code yX5_any cX5_any 1 none :: wA) (rX5_any dd) (q_Pre D cI cJ cZ cS tb [.ref a_t] sz (wX5_any cI cJ cZ cS a_t a_s a_keptS a_statuses a_pile a_tape a_steps a_wish a_mark a_bitsOf a_sizeOf a_number a_moved v_isKept v_taped v_at v_fault v_laid v_open v_tape v_steps)) (q_Rv D (va_A (wX5_any cI cJ cZ cS a_t a_s a_keptS a_statuses a_pile a_tape a_steps a_wish a_mark a_bitsOf a_sizeOf a_number a_moved v_isKept v_taped v_at v_fault v_laid v_open v_tape v_steps) sz) ((fun k : Int32 × Int32 × Int32 × Int32 × (Nat → Int32) => (wX5_any cI cJ cZ cS a_t a_s a_keptS a_statuses a_pile a_tape a_steps a_wish a_mark a_bitsOf a_sizeOf a_number a_moved v_isKept v_taped k.1 k.2.1 k.2.2.1 k.2.2.2.1 v_tape k.2.2.2.2)) kk')) 0 0 (va_A (wX5_any cI cJ cZ cS a_t a_s a_keptS a_statuses a_pile a_tape a_steps a_wish a_mark a_bitsOf a_sizeOf a_number a_moved v_isKept v_taped v_at v_fault v_laid v_open v_tape v_steps) sz)) {gX5_unit : Int32 → Int32 → Int32 → Int32 → Int32 → (Nat → Int32) → (Nat → Int32) → Option (Int32 × Int32 × Int32 × Int32 × (Nat → Int32))} (hgX5_unit : ∀ (D : va_G) (cI cJ cZ cS : ClassId) (tb : Nat) (a_t a_s a_keptS a_statuses a_pile a_tape a_steps a_wish a_mark a_bitsOf a_sizeOf a_number a_moved : Nat) (sz : Nat) (v_isKept : Int32) (v_taped : Int32) (v_at : Int32) (v_fault : Int32) (v_laid : Int32) (v_open : Int32) (v_tape : Nat → Int32) (v_steps : Nat → Int32) (kk' : Int32 × Int32 × Int32 × Int32 × (Nat → Int32)) (hf : gX5_unit v_taped v_at v_fault v_laid v_open v_tape v_steps = some kk'), Met l yX5_unit (Cond.code yX5_unit cX5_unit 2 none :: wA) (rX5_unit dd) (q_Pre D cI cJ cZ cS tb [.ref a_t] sz (wX5_unit cI cJ cZ cS a_t a_s a_keptS a_statuses a_pile a_tape a_steps a_wish a_mark a_bitsOf a_sizeOf a_number a_moved v_isKept v_taped v_at v_fault v_laid v_open v_tape v_steps)) (q_Rv D (va_A (wX5_unit cI cJ cZ cS a_t a_s a_keptS a_statuses a_pile a_tape a_steps a_wish a_mark a_bitsOf a_sizeOf a_number a_moved v_isKept v_taped v_at v_fault v_laid v_open v_tape v_steps) sz) ((fun k : Int32 × Int32 × Int32 × Int32 × (Nat → Int32) => (wX5_unit cI cJ cZ cS a_t a_s a_keptS a_statuses a_pile a_tape a_steps a_wish a_mark a_bitsOf a_sizeOf a_number a_moved v_isKept v_taped k.1 k.2.1 k.2.2.1 k.2.2.2.1 v_tape k.2.2.2.2)) kk')) 0 0 (va_A (wX5_unit cI cJ cZ cS a_t a_s a_keptS a_statuses a_pile a_tape a_steps a_wish a_mark a_bitsOf a_sizeOf a_number a_moved v_isKept v_taped v_at v_fault v_laid v_open v_tape v_steps) sz)) (fx : q_Fx p s m args meth c cX5_unit 2 RX5 none D cI cJ cZ cS tb A) : ∀ {v_at : Int32} {v_fault : Int32} {v_laid : Int32} {v_open : Int32} {v_steps : Nat → Int32} {y1 : Int32} {H : Heap} {locs : List Loc} {ls : Array Slot}, q_H D A s (wX5_unit cI cJ cZ cS a_t a_s a_keptS a_statuses a_pile a_tape a_steps a_wish a_mark a_bitsOf a_sizeOf a_number a_moved v_isKept v_taped v_at v_fault v_laid v_open v_tape v_steps) H locs → lv_has ls 2 [(0, .ref a_t), (1, .int y1)] → fX5_unit_129 gX5_any gX5_unit v_taped v_tape v_at v_fault v_laid v_open v_steps y1 = some kk' → W p l e (rX5_unit (dd + 1)) s m args below meth c H locs 0 0 (MQ below (q_Rv D A ((fun k : Int32 × Int32 × Int32 × Int32 × (Nat → Int32) => (wX5_unit cI cJ cZ cS a_t a_s a_keptS a_statuses a_pile a_tape a_steps a_wish a_mark a_bitsOf a_sizeOf a_number a_moved v_isKept v_taped k.1 k.2.1 k.2.2.1 k.2.2.2.1 v_tape k.2.2.2.2)) kk')) args s 0 0 A) (F0 m 129 ls []) := by
  intro v_at v_fault v_laid v_open v_steps y1 H locs ls h hl hf
  have hx := fx.1
  have hb := fx.2.1
  unfold fX5_unit_129 at hf
  refine lv_iload_n hx hb dX5_unit_129 rfl (lv_at hl 1 rfl) ?_
  refine lv_bipush (v := 40) hx hb dX5_unit_130 (by decide) ?_
  refine lv_icmp_ne (tgt := 189) hx hb dX5_unit_132 (by decide) (fun c4 => ?_) (fun c4 => ?_)
  · have hf := it_f c4 hf
    exact LX5_unit_189 hgX5_any hgX5_unit fx h (lv_sub hl [0] rfl) hf
  have hf := it_t c4 hf
  refine lv_aload_n hx hb dX5_unit_135 rfl (lv_at hl 0 rfl) ?_
  obtain ⟨r5, k5, hg, hf⟩ := bR_inv hf
  refine q_ci (rest := []) (ws' := (wX5_unit cI cJ cZ cS a_t a_s a_keptS a_statuses a_pile a_tape a_steps a_wish a_mark a_bitsOf a_sizeOf a_number a_moved v_isKept v_taped k5.1 k5.2.1 v_laid k5.2.2 v_tape v_steps)) (w1 := (wX5_opens cI cJ cZ cS a_t a_s a_keptS a_statuses a_pile a_tape a_steps a_wish a_mark a_bitsOf a_sizeOf a_number a_moved v_isKept v_taped k5.1 k5.2.1 v_laid k5.2.2)) fx h [0] rfl rfl rfl rfl (q_runV fx h hl.1 [0] rfl rfl (tX5_opens l D cI cJ cZ cS tb a_t a_s a_keptS a_statuses a_pile a_tape a_steps a_wish a_mark a_bitsOf a_sizeOf a_number a_moved H.size v_isKept v_taped v_at v_fault v_laid v_open r5 k5 hg) mvX5_opens k_789 ⟨rfl, rfl⟩ (room_X5_unit_X5_opens dd) rfl rfl rfl rfl (Nat.le_of_ble_eq_true rfl) dX5_unit_136 ⟨Nat.le_of_ble_eq_true rfl, Nat.le_of_ble_eq_true rfl⟩) (fun H locs h => ?_)
  refine lv_if_eq (tgt := 189) hx hb dX5_unit_139 (by decide) (fun c6 => ?_) (fun c6 => ?_)
  · have hf := it_t c6 hf
    exact LX5_unit_189 hgX5_any hgX5_unit fx h (lv_sub hl [0] rfl) hf
  have hf := it_f c6 hf
  refine lv_aload_n hx hb dX5_unit_142 rfl (lv_at hl 0 rfl) ?_
  obtain ⟨k7, hg, hf⟩ := bV_inv hf
  refine q_cv (rest := []) (ws' := (wX5_unit cI cJ cZ cS a_t a_s a_keptS a_statuses a_pile a_tape a_steps a_wish a_mark a_bitsOf a_sizeOf a_number a_moved v_isKept v_taped k7.1 k7.2.1 k7.2.2.1 k7.2.2.2.1 v_tape k7.2.2.2.2)) (w1 := (wX5_any cI cJ cZ cS a_t a_s a_keptS a_statuses a_pile a_tape a_steps a_wish a_mark a_bitsOf a_sizeOf a_number a_moved v_isKept v_taped k7.1 k7.2.1 k7.2.2.1 k7.2.2.2.1 v_tape k7.2.2.2.2)) fx h [0, 1, 2] rfl rfl rfl rfl (q_runV fx h hl.1 [0, 1, 2] rfl rfl (hgX5_any D cI cJ cZ cS tb a_t a_s a_keptS a_statuses a_pile a_tape a_steps a_wish a_mark a_bitsOf a_sizeOf a_number a_moved H.size v_isKept v_taped k5.1 k5.2.1 v_laid k5.2.2 v_tape v_steps k7 hg) mvX5_any k_757 ⟨rfl, rfl⟩ (room_X5_unit_X5_any dd) rfl rfl rfl rfl (Nat.le_of_ble_eq_true rfl) dX5_unit_143 ⟨Nat.le_of_ble_eq_true rfl, Nat.le_of_ble_eq_true rfl⟩) (fun H locs h => ?_)
  refine lv_aload_n hx hb dX5_unit_146 rfl (lv_at hl 0 rfl) ?_
  refine q_get (v := .int k7.2.1) fx inX5 h 0 rfl rfl 9 (by decide) k_645 rfl dX5_unit_147 ?_
  refine lv_if_ge (tgt := 166) hx hb dX5_unit_150 (by decide) (fun c8 => ?_) (fun c8 => ?_)
  · have hf := it_t c8 hf
    exact LX5_unit_166 hgX5_any hgX5_unit fx h (lv_sub hl [0] rfl) hf
  have hf := it_f c8 hf
  refine lv_aload_n hx hb dX5_unit_153 rfl (lv_at hl 0 rfl) ?_
  obtain ⟨r9, k9, hg, hf⟩ := bR_inv hf
  refine q_ci (rest := []) (ws' := (wX5_unit cI cJ cZ cS a_t a_s a_keptS a_statuses a_pile a_tape a_steps a_wish a_mark a_bitsOf a_sizeOf a_number a_moved v_isKept v_taped k7.1 k7.2.1 k7.2.2.1 k7.2.2.2.1 v_tape k7.2.2.2.2)) (w1 := (wX5_look cI cJ cZ cS a_t a_s a_keptS a_statuses a_pile a_tape a_steps a_wish a_mark a_bitsOf a_sizeOf a_number a_moved v_isKept v_taped k7.1 k7.2.1 k7.2.2.1 k7.2.2.2.1 v_tape)) fx h [0, 1] rfl rfl rfl rfl (q_runV fx h hl.1 [0, 1] rfl rfl (tX5_look l D cI cJ cZ cS tb a_t a_s a_keptS a_statuses a_pile a_tape a_steps a_wish a_mark a_bitsOf a_sizeOf a_number a_moved H.size v_isKept v_taped k7.1 k7.2.1 k7.2.2.1 k7.2.2.2.1 v_tape r9 k9 hg) mvX5_look k_769 ⟨rfl, rfl⟩ (room_X5_unit_X5_look dd) rfl rfl rfl rfl (Nat.le_of_ble_eq_true rfl) dX5_unit_154 ⟨Nat.le_of_ble_eq_true rfl, Nat.le_of_ble_eq_true rfl⟩) (fun H locs h => ?_)
  refine lv_bipush (v := 41) hx hb dX5_unit_157 (by decide) ?_
  refine lv_icmp_eq (tgt := 166) hx hb dX5_unit_159 (by decide) (fun c10 => ?_) (fun c10 => ?_)
  · have hf := it_t c10 hf
    exact LX5_unit_166 hgX5_any hgX5_unit fx h (lv_sub hl [0] rfl) hf
  have hf := it_f c10 hf
  refine lv_aload_n hx hb dX5_unit_162 rfl (lv_at hl 0 rfl) ?_
  obtain ⟨k11, hg, hf⟩ := bV_inv hf
  refine q_cv (rest := []) (ws' := (wX5_unit cI cJ cZ cS a_t a_s a_keptS a_statuses a_pile a_tape a_steps a_wish a_mark a_bitsOf a_sizeOf a_number a_moved v_isKept v_taped k7.1 k11 k7.2.2.1 k7.2.2.2.1 v_tape k7.2.2.2.2)) (w1 := (wX5_faulty cI cJ cZ cS a_t a_s a_keptS a_statuses a_pile a_tape a_steps a_wish a_mark a_bitsOf a_sizeOf a_number a_moved v_isKept v_taped k7.1 k11 k7.2.2.1 k7.2.2.2.1)) fx h [0] rfl rfl rfl rfl (q_runV fx h hl.1 [0] rfl rfl (tX5_faulty l D cI cJ cZ cS tb a_t a_s a_keptS a_statuses a_pile a_tape a_steps a_wish a_mark a_bitsOf a_sizeOf a_number a_moved H.size v_isKept v_taped k7.1 k7.2.1 k7.2.2.1 k7.2.2.2.1 k11 hg) mvX5_faulty k_783 ⟨rfl, rfl⟩ (room_X5_unit_X5_faulty dd) rfl rfl rfl rfl (Nat.le_of_ble_eq_true rfl) dX5_unit_163 ⟨Nat.le_of_ble_eq_true rfl, Nat.le_of_ble_eq_true rfl⟩) (fun H locs h => ?_)
  exact LX5_unit_166 hgX5_any hgX5_unit fx h (lv_sub hl [0] rfl) hf
def fX5_unit_58 (gX5_any : Int32 → Int32 → Int32 → Int32 → Int32 → (Nat → Int32) → (Nat → Int32) → Option (Int32 × Int32 × Int32 × Int32 × (Nat → Int32))) (gX5_unit : Int32 → Int32 → Int32 → Int32 → Int32 → (Nat → Int32) → (Nat → Int32) → Option (Int32 × Int32 × Int32 × Int32 × (Nat → Int32))) (v_taped : Int32) (v_tape : Nat → Int32) (v_at : Int32) (v_fault : Int32) (v_laid : Int32) (v_open : Int32) (v_steps : Nat → Int32) (s1 : Int32) : Option (Int32 × Int32 × Int32 × Int32 × (Nat → Int32)) :=
  bV (fX5_lay v_at v_laid v_steps s1) (fun k12 =>
  some (k12.1, v_fault, k12.2.1, v_open, k12.2.2))
set_option maxRecDepth 100000 in
set_option maxHeartbeats 4000000 in
theorem LX5_unit_58 {p : Program} {l : Launch} {e : Env} {s : State} {m : MethodId} {args : Array Value} {below : List Frame} {meth : Method} {c : Code} {D : va_G} {cI cJ cZ cS : ClassId} {tb : Nat} {A : Nat → Prop} {a_t a_s a_keptS a_statuses a_pile a_tape a_steps a_wish a_mark a_bitsOf a_sizeOf a_number a_moved : Nat} {v_isKept : Int32} {v_taped : Int32} {v_tape : Nat → Int32} {kk' : Int32 × Int32 × Int32 × Int32 × (Nat → Int32)} {dd : Nat} {gX5_any : Int32 → Int32 → Int32 → Int32 → Int32 → (Nat → Int32) → (Nat → Int32) → Option (Int32 × Int32 × Int32 × Int32 × (Nat → Int32))} (hgX5_any : ∀ (D : va_G) (cI cJ cZ cS : ClassId) (tb : Nat) (a_t a_s a_keptS a_statuses a_pile a_tape a_steps a_wish a_mark a_bitsOf a_sizeOf a_number a_moved : Nat) (sz : Nat) (v_isKept : Int32) (v_taped : Int32) (v_at : Int32) (v_fault : Int32) (v_laid : Int32) (v_open : Int32) (v_tape : Nat → Int32) (v_steps : Nat → Int32) (kk' : Int32 × Int32 × Int32 × Int32 × (Nat → Int32)) (hf : gX5_any v_taped v_at v_fault v_laid v_open v_tape v_steps = some kk'), Met l yX5_any (Cond.code yX5_any cX5_any 1 none :: wA) (rX5_any dd) (q_Pre D cI cJ cZ cS tb [.ref a_t] sz (wX5_any cI cJ cZ cS a_t a_s a_keptS a_statuses a_pile a_tape a_steps a_wish a_mark a_bitsOf a_sizeOf a_number a_moved v_isKept v_taped v_at v_fault v_laid v_open v_tape v_steps)) (q_Rv D (va_A (wX5_any cI cJ cZ cS a_t a_s a_keptS a_statuses a_pile a_tape a_steps a_wish a_mark a_bitsOf a_sizeOf a_number a_moved v_isKept v_taped v_at v_fault v_laid v_open v_tape v_steps) sz) ((fun k : Int32 × Int32 × Int32 × Int32 × (Nat → Int32) => (wX5_any cI cJ cZ cS a_t a_s a_keptS a_statuses a_pile a_tape a_steps a_wish a_mark a_bitsOf a_sizeOf a_number a_moved v_isKept v_taped k.1 k.2.1 k.2.2.1 k.2.2.2.1 v_tape k.2.2.2.2)) kk')) 0 0 (va_A (wX5_any cI cJ cZ cS a_t a_s a_keptS a_statuses a_pile a_tape a_steps a_wish a_mark a_bitsOf a_sizeOf a_number a_moved v_isKept v_taped v_at v_fault v_laid v_open v_tape v_steps) sz)) {gX5_unit : Int32 → Int32 → Int32 → Int32 → Int32 → (Nat → Int32) → (Nat → Int32) → Option (Int32 × Int32 × Int32 × Int32 × (Nat → Int32))} (hgX5_unit : ∀ (D : va_G) (cI cJ cZ cS : ClassId) (tb : Nat) (a_t a_s a_keptS a_statuses a_pile a_tape a_steps a_wish a_mark a_bitsOf a_sizeOf a_number a_moved : Nat) (sz : Nat) (v_isKept : Int32) (v_taped : Int32) (v_at : Int32) (v_fault : Int32) (v_laid : Int32) (v_open : Int32) (v_tape : Nat → Int32) (v_steps : Nat → Int32) (kk' : Int32 × Int32 × Int32 × Int32 × (Nat → Int32)) (hf : gX5_unit v_taped v_at v_fault v_laid v_open v_tape v_steps = some kk'), Met l yX5_unit (Cond.code yX5_unit cX5_unit 2 none :: wA) (rX5_unit dd) (q_Pre D cI cJ cZ cS tb [.ref a_t] sz (wX5_unit cI cJ cZ cS a_t a_s a_keptS a_statuses a_pile a_tape a_steps a_wish a_mark a_bitsOf a_sizeOf a_number a_moved v_isKept v_taped v_at v_fault v_laid v_open v_tape v_steps)) (q_Rv D (va_A (wX5_unit cI cJ cZ cS a_t a_s a_keptS a_statuses a_pile a_tape a_steps a_wish a_mark a_bitsOf a_sizeOf a_number a_moved v_isKept v_taped v_at v_fault v_laid v_open v_tape v_steps) sz) ((fun k : Int32 × Int32 × Int32 × Int32 × (Nat → Int32) => (wX5_unit cI cJ cZ cS a_t a_s a_keptS a_statuses a_pile a_tape a_steps a_wish a_mark a_bitsOf a_sizeOf a_number a_moved v_isKept v_taped k.1 k.2.1 k.2.2.1 k.2.2.2.1 v_tape k.2.2.2.2)) kk')) 0 0 (va_A (wX5_unit cI cJ cZ cS a_t a_s a_keptS a_statuses a_pile a_tape a_steps a_wish a_mark a_bitsOf a_sizeOf a_number a_moved v_isKept v_taped v_at v_fault v_laid v_open v_tape v_steps) sz)) (fx : q_Fx p s m args meth c cX5_unit 2 RX5 none D cI cJ cZ cS tb A) : ∀ {v_at : Int32} {v_fault : Int32} {v_laid : Int32} {v_open : Int32} {v_steps : Nat → Int32} {s1 : Int32} {H : Heap} {locs : List Loc} {ls : Array Slot}, q_H D A s (wX5_unit cI cJ cZ cS a_t a_s a_keptS a_statuses a_pile a_tape a_steps a_wish a_mark a_bitsOf a_sizeOf a_number a_moved v_isKept v_taped v_at v_fault v_laid v_open v_tape v_steps) H locs → lv_has ls 2 [] → fX5_unit_58 gX5_any gX5_unit v_taped v_tape v_at v_fault v_laid v_open v_steps s1 = some kk' → W p l e (rX5_unit (dd + 1)) s m args below meth c H locs 0 0 (MQ below (q_Rv D A ((fun k : Int32 × Int32 × Int32 × Int32 × (Nat → Int32) => (wX5_unit cI cJ cZ cS a_t a_s a_keptS a_statuses a_pile a_tape a_steps a_wish a_mark a_bitsOf a_sizeOf a_number a_moved v_isKept v_taped k.1 k.2.1 k.2.2.1 k.2.2.2.1 v_tape k.2.2.2.2)) kk')) args s 0 0 A) (F0 m 58 ls [.int s1, .ref a_t]) := by
  intro v_at v_fault v_laid v_open v_steps s1 H locs ls h hl hf
  have hx := fx.1
  have hb := fx.2.1
  unfold fX5_unit_58 at hf
  obtain ⟨k12, hg, hf⟩ := bV_inv hf
  refine q_cv (rest := []) (ws' := (wX5_unit cI cJ cZ cS a_t a_s a_keptS a_statuses a_pile a_tape a_steps a_wish a_mark a_bitsOf a_sizeOf a_number a_moved v_isKept v_taped k12.1 v_fault k12.2.1 v_open v_tape k12.2.2)) (w1 := (wX5_lay cI cJ cZ cS a_t a_s a_keptS a_statuses a_pile a_tape a_steps a_wish a_mark a_bitsOf a_sizeOf a_number a_moved v_isKept v_taped k12.1 v_fault k12.2.1 v_open k12.2.2)) fx h [0, 2] rfl rfl rfl rfl (q_runV fx h hl.1 [0, 2] rfl rfl (tX5_lay l D cI cJ cZ cS tb a_t a_s a_keptS a_statuses a_pile a_tape a_steps a_wish a_mark a_bitsOf a_sizeOf a_number a_moved H.size v_isKept v_taped v_at v_fault v_laid v_open v_steps s1 k12 hg) mvX5_lay k_775 ⟨rfl, rfl⟩ (room_X5_unit_X5_lay dd) rfl rfl rfl rfl (Nat.le_of_ble_eq_true rfl) dX5_unit_58 ⟨Nat.le_of_ble_eq_true rfl, Nat.le_of_ble_eq_true rfl⟩) (fun H locs h => ?_)
  refine lv_goto (tgt := 193) hx hb dX5_unit_61 (by decide) ?_
  exact q_retv (fun k : Int32 × Int32 × Int32 × Int32 × (Nat → Int32) => (wX5_unit cI cJ cZ cS a_t a_s a_keptS a_statuses a_pile a_tape a_steps a_wish a_mark a_bitsOf a_sizeOf a_number a_moved v_isKept v_taped k.1 k.2.1 k.2.2.1 k.2.2.2.1 v_tape k.2.2.2.2)) fx hf h dX5_unit_193
def fX5_unit_42 (gX5_any : Int32 → Int32 → Int32 → Int32 → Int32 → (Nat → Int32) → (Nat → Int32) → Option (Int32 × Int32 × Int32 × Int32 × (Nat → Int32))) (gX5_unit : Int32 → Int32 → Int32 → Int32 → Int32 → (Nat → Int32) → (Nat → Int32) → Option (Int32 × Int32 × Int32 × Int32 × (Nat → Int32))) (v_taped : Int32) (v_tape : Nat → Int32) (v_at : Int32) (v_fault : Int32) (v_laid : Int32) (v_open : Int32) (v_steps : Nat → Int32) (y1 : Int32) : Option (Int32 × Int32 × Int32 × Int32 × (Nat → Int32)) :=
  (if y1 = 49 then (
  fX5_unit_58 gX5_any gX5_unit v_taped v_tape v_at v_fault v_laid v_open v_steps 130)
  else (
  fX5_unit_58 gX5_any gX5_unit v_taped v_tape v_at v_fault v_laid v_open v_steps 131))
set_option maxRecDepth 100000 in
set_option maxHeartbeats 4000000 in
theorem LX5_unit_42 {p : Program} {l : Launch} {e : Env} {s : State} {m : MethodId} {args : Array Value} {below : List Frame} {meth : Method} {c : Code} {D : va_G} {cI cJ cZ cS : ClassId} {tb : Nat} {A : Nat → Prop} {a_t a_s a_keptS a_statuses a_pile a_tape a_steps a_wish a_mark a_bitsOf a_sizeOf a_number a_moved : Nat} {v_isKept : Int32} {v_taped : Int32} {v_tape : Nat → Int32} {kk' : Int32 × Int32 × Int32 × Int32 × (Nat → Int32)} {dd : Nat} {gX5_any : Int32 → Int32 → Int32 → Int32 → Int32 → (Nat → Int32) → (Nat → Int32) → Option (Int32 × Int32 × Int32 × Int32 × (Nat → Int32))} (hgX5_any : ∀ (D : va_G) (cI cJ cZ cS : ClassId) (tb : Nat) (a_t a_s a_keptS a_statuses a_pile a_tape a_steps a_wish a_mark a_bitsOf a_sizeOf a_number a_moved : Nat) (sz : Nat) (v_isKept : Int32) (v_taped : Int32) (v_at : Int32) (v_fault : Int32) (v_laid : Int32) (v_open : Int32) (v_tape : Nat → Int32) (v_steps : Nat → Int32) (kk' : Int32 × Int32 × Int32 × Int32 × (Nat → Int32)) (hf : gX5_any v_taped v_at v_fault v_laid v_open v_tape v_steps = some kk'), Met l yX5_any (Cond.code yX5_any cX5_any 1 none :: wA) (rX5_any dd) (q_Pre D cI cJ cZ cS tb [.ref a_t] sz (wX5_any cI cJ cZ cS a_t a_s a_keptS a_statuses a_pile a_tape a_steps a_wish a_mark a_bitsOf a_sizeOf a_number a_moved v_isKept v_taped v_at v_fault v_laid v_open v_tape v_steps)) (q_Rv D (va_A (wX5_any cI cJ cZ cS a_t a_s a_keptS a_statuses a_pile a_tape a_steps a_wish a_mark a_bitsOf a_sizeOf a_number a_moved v_isKept v_taped v_at v_fault v_laid v_open v_tape v_steps) sz) ((fun k : Int32 × Int32 × Int32 × Int32 × (Nat → Int32) => (wX5_any cI cJ cZ cS a_t a_s a_keptS a_statuses a_pile a_tape a_steps a_wish a_mark a_bitsOf a_sizeOf a_number a_moved v_isKept v_taped k.1 k.2.1 k.2.2.1 k.2.2.2.1 v_tape k.2.2.2.2)) kk')) 0 0 (va_A (wX5_any cI cJ cZ cS a_t a_s a_keptS a_statuses a_pile a_tape a_steps a_wish a_mark a_bitsOf a_sizeOf a_number a_moved v_isKept v_taped v_at v_fault v_laid v_open v_tape v_steps) sz)) {gX5_unit : Int32 → Int32 → Int32 → Int32 → Int32 → (Nat → Int32) → (Nat → Int32) → Option (Int32 × Int32 × Int32 × Int32 × (Nat → Int32))} (hgX5_unit : ∀ (D : va_G) (cI cJ cZ cS : ClassId) (tb : Nat) (a_t a_s a_keptS a_statuses a_pile a_tape a_steps a_wish a_mark a_bitsOf a_sizeOf a_number a_moved : Nat) (sz : Nat) (v_isKept : Int32) (v_taped : Int32) (v_at : Int32) (v_fault : Int32) (v_laid : Int32) (v_open : Int32) (v_tape : Nat → Int32) (v_steps : Nat → Int32) (kk' : Int32 × Int32 × Int32 × Int32 × (Nat → Int32)) (hf : gX5_unit v_taped v_at v_fault v_laid v_open v_tape v_steps = some kk'), Met l yX5_unit (Cond.code yX5_unit cX5_unit 2 none :: wA) (rX5_unit dd) (q_Pre D cI cJ cZ cS tb [.ref a_t] sz (wX5_unit cI cJ cZ cS a_t a_s a_keptS a_statuses a_pile a_tape a_steps a_wish a_mark a_bitsOf a_sizeOf a_number a_moved v_isKept v_taped v_at v_fault v_laid v_open v_tape v_steps)) (q_Rv D (va_A (wX5_unit cI cJ cZ cS a_t a_s a_keptS a_statuses a_pile a_tape a_steps a_wish a_mark a_bitsOf a_sizeOf a_number a_moved v_isKept v_taped v_at v_fault v_laid v_open v_tape v_steps) sz) ((fun k : Int32 × Int32 × Int32 × Int32 × (Nat → Int32) => (wX5_unit cI cJ cZ cS a_t a_s a_keptS a_statuses a_pile a_tape a_steps a_wish a_mark a_bitsOf a_sizeOf a_number a_moved v_isKept v_taped k.1 k.2.1 k.2.2.1 k.2.2.2.1 v_tape k.2.2.2.2)) kk')) 0 0 (va_A (wX5_unit cI cJ cZ cS a_t a_s a_keptS a_statuses a_pile a_tape a_steps a_wish a_mark a_bitsOf a_sizeOf a_number a_moved v_isKept v_taped v_at v_fault v_laid v_open v_tape v_steps) sz)) (fx : q_Fx p s m args meth c cX5_unit 2 RX5 none D cI cJ cZ cS tb A) : ∀ {v_at : Int32} {v_fault : Int32} {v_laid : Int32} {v_open : Int32} {v_steps : Nat → Int32} {y1 : Int32} {H : Heap} {locs : List Loc} {ls : Array Slot}, q_H D A s (wX5_unit cI cJ cZ cS a_t a_s a_keptS a_statuses a_pile a_tape a_steps a_wish a_mark a_bitsOf a_sizeOf a_number a_moved v_isKept v_taped v_at v_fault v_laid v_open v_tape v_steps) H locs → lv_has ls 2 [(0, .ref a_t), (1, .int y1)] → fX5_unit_42 gX5_any gX5_unit v_taped v_tape v_at v_fault v_laid v_open v_steps y1 = some kk' → W p l e (rX5_unit (dd + 1)) s m args below meth c H locs 0 0 (MQ below (q_Rv D A ((fun k : Int32 × Int32 × Int32 × Int32 × (Nat → Int32) => (wX5_unit cI cJ cZ cS a_t a_s a_keptS a_statuses a_pile a_tape a_steps a_wish a_mark a_bitsOf a_sizeOf a_number a_moved v_isKept v_taped k.1 k.2.1 k.2.2.1 k.2.2.2.1 v_tape k.2.2.2.2)) kk')) args s 0 0 A) (F0 m 42 ls []) := by
  intro v_at v_fault v_laid v_open v_steps y1 H locs ls h hl hf
  have hx := fx.1
  have hb := fx.2.1
  unfold fX5_unit_42 at hf
  refine lv_aload_n hx hb dX5_unit_42 rfl (lv_at hl 0 rfl) ?_
  refine lv_iload_n hx hb dX5_unit_43 rfl (lv_at hl 1 rfl) ?_
  refine lv_bipush (v := 49) hx hb dX5_unit_44 (by decide) ?_
  refine lv_icmp_ne (tgt := 55) hx hb dX5_unit_46 (by decide) (fun c13 => ?_) (fun c13 => ?_)
  · have hf := it_f c13 hf
    refine lv_sipush (v := 131) hx hb dX5_unit_55 (by decide) ?_
    exact LX5_unit_58 hgX5_any hgX5_unit fx h (lv_sub hl [] rfl) hf
  have hf := it_t c13 hf
  refine lv_sipush (v := 130) hx hb dX5_unit_49 (by decide) ?_
  refine lv_goto (tgt := 58) hx hb dX5_unit_52 (by decide) ?_
  exact LX5_unit_58 hgX5_any hgX5_unit fx h (lv_sub hl [] rfl) hf
def fX5_unit (gX5_any : Int32 → Int32 → Int32 → Int32 → Int32 → (Nat → Int32) → (Nat → Int32) → Option (Int32 × Int32 × Int32 × Int32 × (Nat → Int32))) (gX5_unit : Int32 → Int32 → Int32 → Int32 → Int32 → (Nat → Int32) → (Nat → Int32) → Option (Int32 × Int32 × Int32 × Int32 × (Nat → Int32))) (v_taped : Int32) (v_at : Int32) (v_fault : Int32) (v_laid : Int32) (v_open : Int32) (v_tape : Nat → Int32) (v_steps : Nat → Int32) : Option (Int32 × Int32 × Int32 × Int32 × (Nat → Int32)) :=
  bR (fX5_look v_taped v_at v_tape) (fun r14 k14 =>
  bR (fX5_in (r14.toInt64) 97 104) (fun r15 k15 =>
  (if r15 = 0 then (
  (if r14 = 48 then (
  fX5_unit_42 gX5_any gX5_unit v_taped v_tape v_at v_fault v_laid v_open v_steps r14)
  else (
  (if r14 = 49 then (
  fX5_unit_42 gX5_any gX5_unit v_taped v_tape v_at v_fault v_laid v_open v_steps r14)
  else (
  (if r14 = 110 then (
  bV (fX5_counted v_taped v_at v_fault v_laid v_tape v_steps) (fun k27 =>
  some (k27.1, k27.2.1, k27.2.2.1, v_open, k27.2.2.2)))
  else (
  (if r14 = 33 then (
  bR (fX5_opens v_at v_fault v_open) (fun r21 k21 =>
  (if r21 = 0 then (
  fX5_unit_129 gX5_any gX5_unit v_taped v_tape k21.1 k21.2.1 v_laid k21.2.2 v_steps r14)
  else (
  bV (gX5_unit v_taped k21.1 k21.2.1 v_laid k21.2.2 v_tape v_steps) (fun k23 =>
  nm (k23.2.2.2.1 - 1) (fun u24 =>
  gIn k23.2.2.1 64 (
  nm (k23.2.2.1 + 1) (fun u26 =>
  some (k23.1, k23.2.1, u26, u24, (upd k23.2.2.2.2 k23.2.2.1.toNatClampNeg 140))))))))))
  else (
  fX5_unit_129 gX5_any gX5_unit v_taped v_tape v_at v_fault v_laid v_open v_steps r14)))))))))
  else (
  bV (fX5_lay v_at v_laid v_steps (r14 - 97)) (fun k28 =>
  some (k28.1, v_fault, k28.2.1, v_open, k28.2.2))))))
set_option maxRecDepth 100000 in
set_option maxHeartbeats 4000000 in
theorem uX5_unit (dd : Nat) (l : Launch) {gX5_any : Int32 → Int32 → Int32 → Int32 → Int32 → (Nat → Int32) → (Nat → Int32) → Option (Int32 × Int32 × Int32 × Int32 × (Nat → Int32))} (hgX5_any : ∀ (D : va_G) (cI cJ cZ cS : ClassId) (tb : Nat) (a_t a_s a_keptS a_statuses a_pile a_tape a_steps a_wish a_mark a_bitsOf a_sizeOf a_number a_moved : Nat) (sz : Nat) (v_isKept : Int32) (v_taped : Int32) (v_at : Int32) (v_fault : Int32) (v_laid : Int32) (v_open : Int32) (v_tape : Nat → Int32) (v_steps : Nat → Int32) (kk' : Int32 × Int32 × Int32 × Int32 × (Nat → Int32)) (hf : gX5_any v_taped v_at v_fault v_laid v_open v_tape v_steps = some kk'), Met l yX5_any (Cond.code yX5_any cX5_any 1 none :: wA) (rX5_any dd) (q_Pre D cI cJ cZ cS tb [.ref a_t] sz (wX5_any cI cJ cZ cS a_t a_s a_keptS a_statuses a_pile a_tape a_steps a_wish a_mark a_bitsOf a_sizeOf a_number a_moved v_isKept v_taped v_at v_fault v_laid v_open v_tape v_steps)) (q_Rv D (va_A (wX5_any cI cJ cZ cS a_t a_s a_keptS a_statuses a_pile a_tape a_steps a_wish a_mark a_bitsOf a_sizeOf a_number a_moved v_isKept v_taped v_at v_fault v_laid v_open v_tape v_steps) sz) ((fun k : Int32 × Int32 × Int32 × Int32 × (Nat → Int32) => (wX5_any cI cJ cZ cS a_t a_s a_keptS a_statuses a_pile a_tape a_steps a_wish a_mark a_bitsOf a_sizeOf a_number a_moved v_isKept v_taped k.1 k.2.1 k.2.2.1 k.2.2.2.1 v_tape k.2.2.2.2)) kk')) 0 0 (va_A (wX5_any cI cJ cZ cS a_t a_s a_keptS a_statuses a_pile a_tape a_steps a_wish a_mark a_bitsOf a_sizeOf a_number a_moved v_isKept v_taped v_at v_fault v_laid v_open v_tape v_steps) sz)) {gX5_unit : Int32 → Int32 → Int32 → Int32 → Int32 → (Nat → Int32) → (Nat → Int32) → Option (Int32 × Int32 × Int32 × Int32 × (Nat → Int32))} (hgX5_unit : ∀ (D : va_G) (cI cJ cZ cS : ClassId) (tb : Nat) (a_t a_s a_keptS a_statuses a_pile a_tape a_steps a_wish a_mark a_bitsOf a_sizeOf a_number a_moved : Nat) (sz : Nat) (v_isKept : Int32) (v_taped : Int32) (v_at : Int32) (v_fault : Int32) (v_laid : Int32) (v_open : Int32) (v_tape : Nat → Int32) (v_steps : Nat → Int32) (kk' : Int32 × Int32 × Int32 × Int32 × (Nat → Int32)) (hf : gX5_unit v_taped v_at v_fault v_laid v_open v_tape v_steps = some kk'), Met l yX5_unit (Cond.code yX5_unit cX5_unit 2 none :: wA) (rX5_unit dd) (q_Pre D cI cJ cZ cS tb [.ref a_t] sz (wX5_unit cI cJ cZ cS a_t a_s a_keptS a_statuses a_pile a_tape a_steps a_wish a_mark a_bitsOf a_sizeOf a_number a_moved v_isKept v_taped v_at v_fault v_laid v_open v_tape v_steps)) (q_Rv D (va_A (wX5_unit cI cJ cZ cS a_t a_s a_keptS a_statuses a_pile a_tape a_steps a_wish a_mark a_bitsOf a_sizeOf a_number a_moved v_isKept v_taped v_at v_fault v_laid v_open v_tape v_steps) sz) ((fun k : Int32 × Int32 × Int32 × Int32 × (Nat → Int32) => (wX5_unit cI cJ cZ cS a_t a_s a_keptS a_statuses a_pile a_tape a_steps a_wish a_mark a_bitsOf a_sizeOf a_number a_moved v_isKept v_taped k.1 k.2.1 k.2.2.1 k.2.2.2.1 v_tape k.2.2.2.2)) kk')) 0 0 (va_A (wX5_unit cI cJ cZ cS a_t a_s a_keptS a_statuses a_pile a_tape a_steps a_wish a_mark a_bitsOf a_sizeOf a_number a_moved v_isKept v_taped v_at v_fault v_laid v_open v_tape v_steps) sz)) (D : va_G) (cI cJ cZ cS : ClassId) (tb : Nat) (a_t a_s a_keptS a_statuses a_pile a_tape a_steps a_wish a_mark a_bitsOf a_sizeOf a_number a_moved : Nat) (sz : Nat) (v_isKept : Int32) (v_taped : Int32) (v_at : Int32) (v_fault : Int32) (v_laid : Int32) (v_open : Int32) (v_tape : Nat → Int32) (v_steps : Nat → Int32) (kk' : Int32 × Int32 × Int32 × Int32 × (Nat → Int32)) (hf : fX5_unit gX5_any gX5_unit v_taped v_at v_fault v_laid v_open v_tape v_steps = some kk') : Met l yX5_unit (Cond.code yX5_unit cX5_unit 2 none :: wA) (rX5_unit (dd + 1)) (q_Pre D cI cJ cZ cS tb [.ref a_t] sz (wX5_unit cI cJ cZ cS a_t a_s a_keptS a_statuses a_pile a_tape a_steps a_wish a_mark a_bitsOf a_sizeOf a_number a_moved v_isKept v_taped v_at v_fault v_laid v_open v_tape v_steps)) (q_Rv D (va_A (wX5_unit cI cJ cZ cS a_t a_s a_keptS a_statuses a_pile a_tape a_steps a_wish a_mark a_bitsOf a_sizeOf a_number a_moved v_isKept v_taped v_at v_fault v_laid v_open v_tape v_steps) sz) ((fun k : Int32 × Int32 × Int32 × Int32 × (Nat → Int32) => (wX5_unit cI cJ cZ cS a_t a_s a_keptS a_statuses a_pile a_tape a_steps a_wish a_mark a_bitsOf a_sizeOf a_number a_moved v_isKept v_taped k.1 k.2.1 k.2.2.1 k.2.2.2.1 v_tape k.2.2.2.2)) kk')) 0 0 (va_A (wX5_unit cI cJ cZ cS a_t a_s a_keptS a_statuses a_pile a_tape a_steps a_wish a_mark a_bitsOf a_sizeOf a_number a_moved v_isKept v_taped v_at v_fault v_laid v_open v_tape v_steps) sz) := by
  refine q_enter (Qf := fun A => (q_Rv D A ((fun k : Int32 × Int32 × Int32 × Int32 × (Nat → Int32) => (wX5_unit cI cJ cZ cS a_t a_s a_keptS a_statuses a_pile a_tape a_steps a_wish a_mark a_bitsOf a_sizeOf a_number a_moved v_isKept v_taped k.1 k.2.1 k.2.2.1 k.2.2.2.1 v_tape k.2.2.2.2)) kk'))) (by decide) rfl (Nat.le_of_ble_eq_true rfl) ?_
  intro p e s m below meth c A ls fx hname h hl
  have hx := fx.1
  have hb := fx.2.1
  have hl : lv_has ls 2 [(0, .ref a_t)] := hl
  generalize h9 : s.heap = H at h ⊢
  clear h9
  generalize h9 : ([] : List Loc) = locs at h ⊢
  clear h9
  unfold fX5_unit at hf
  refine lv_aload_n hx hb dX5_unit_0 rfl (lv_at hl 0 rfl) ?_
  obtain ⟨r14, k14, hg, hf⟩ := bR_inv hf
  refine q_ci (rest := []) (ws' := (wX5_unit cI cJ cZ cS a_t a_s a_keptS a_statuses a_pile a_tape a_steps a_wish a_mark a_bitsOf a_sizeOf a_number a_moved v_isKept v_taped v_at v_fault v_laid v_open v_tape v_steps)) (w1 := (wX5_look cI cJ cZ cS a_t a_s a_keptS a_statuses a_pile a_tape a_steps a_wish a_mark a_bitsOf a_sizeOf a_number a_moved v_isKept v_taped v_at v_fault v_laid v_open v_tape)) fx h [0, 1] rfl rfl rfl rfl (q_runV fx h hl.1 [0, 1] rfl rfl (tX5_look l D cI cJ cZ cS tb a_t a_s a_keptS a_statuses a_pile a_tape a_steps a_wish a_mark a_bitsOf a_sizeOf a_number a_moved H.size v_isKept v_taped v_at v_fault v_laid v_open v_tape r14 k14 hg) mvX5_look k_769 ⟨rfl, rfl⟩ (room_X5_unit_X5_look dd) rfl rfl rfl rfl (Nat.le_of_ble_eq_true rfl) dX5_unit_1 ⟨Nat.le_of_ble_eq_true rfl, Nat.le_of_ble_eq_true rfl⟩) (fun H locs h => ?_)
  refine lv_istore_n (lv' := [(1, .int r14), (0, .ref a_t)]) hx hb dX5_unit_4 rfl hl (by decide) rfl (fun ls hl => ?_)
  refine lv_iload_n hx hb dX5_unit_5 rfl (lv_at hl 0 rfl) ?_
  refine lv_i2l hx hb dX5_unit_6 rfl ?_
  refine q_ldc2 fx k_773 dX5_unit_7 ?_
  refine q_ldc2 fx k_774 dX5_unit_10 ?_
  obtain ⟨r15, k15, hg, hf⟩ := bR_inv hf
  refine q_ci (rest := []) (ws' := (wX5_unit cI cJ cZ cS a_t a_s a_keptS a_statuses a_pile a_tape a_steps a_wish a_mark a_bitsOf a_sizeOf a_number a_moved v_isKept v_taped v_at v_fault v_laid v_open v_tape v_steps)) (w1 := (wX5_in cI cJ cZ cS)) fx h [] rfl rfl rfl rfl (q_runS fx h hl.1 [] rfl rfl (tX5_in l D cI cJ cZ cS tb H.size (r14.toInt64) 97 104 r15 k15 hg) msX5_in k_697 ⟨rfl, rfl⟩ (room_X5_unit_X5_in dd) rfl rfl (Nat.le_of_ble_eq_true rfl) dX5_unit_13 ⟨Nat.le_of_ble_eq_true rfl, Nat.le_of_ble_eq_true rfl⟩) (fun H locs h => ?_)
  refine lv_if_eq (tgt := 30) hx hb dX5_unit_16 (by decide) (fun c16 => ?_) (fun c16 => ?_)
  · have hf := it_t c16 hf
    refine lv_iload_n hx hb dX5_unit_30 rfl (lv_at hl 0 rfl) ?_
    refine lv_bipush (v := 48) hx hb dX5_unit_31 (by decide) ?_
    refine lv_icmp_eq (tgt := 42) hx hb dX5_unit_33 (by decide) (fun c17 => ?_) (fun c17 => ?_)
    · have hf := it_t c17 hf
      exact LX5_unit_42 hgX5_any hgX5_unit fx h (lv_sub hl [1, 0] rfl) hf
    have hf := it_f c17 hf
    refine lv_iload_n hx hb dX5_unit_36 rfl (lv_at hl 0 rfl) ?_
    refine lv_bipush (v := 49) hx hb dX5_unit_37 (by decide) ?_
    refine lv_icmp_ne (tgt := 64) hx hb dX5_unit_39 (by decide) (fun c18 => ?_) (fun c18 => ?_)
    · have hf := it_f c18 hf
      refine lv_iload_n hx hb dX5_unit_64 rfl (lv_at hl 0 rfl) ?_
      refine lv_bipush (v := 110) hx hb dX5_unit_65 (by decide) ?_
      refine lv_icmp_ne (tgt := 77) hx hb dX5_unit_67 (by decide) (fun c19 => ?_) (fun c19 => ?_)
      · have hf := it_f c19 hf
        refine lv_iload_n hx hb dX5_unit_77 rfl (lv_at hl 0 rfl) ?_
        refine lv_bipush (v := 33) hx hb dX5_unit_78 (by decide) ?_
        refine lv_icmp_ne (tgt := 129) hx hb dX5_unit_80 (by decide) (fun c20 => ?_) (fun c20 => ?_)
        · have hf := it_f c20 hf
          exact LX5_unit_129 hgX5_any hgX5_unit fx h (lv_sub hl [1, 0] rfl) hf
        have hf := it_t c20 hf
        refine lv_aload_n hx hb dX5_unit_83 rfl (lv_at hl 1 rfl) ?_
        obtain ⟨r21, k21, hg, hf⟩ := bR_inv hf
        refine q_ci (rest := []) (ws' := (wX5_unit cI cJ cZ cS a_t a_s a_keptS a_statuses a_pile a_tape a_steps a_wish a_mark a_bitsOf a_sizeOf a_number a_moved v_isKept v_taped k21.1 k21.2.1 v_laid k21.2.2 v_tape v_steps)) (w1 := (wX5_opens cI cJ cZ cS a_t a_s a_keptS a_statuses a_pile a_tape a_steps a_wish a_mark a_bitsOf a_sizeOf a_number a_moved v_isKept v_taped k21.1 k21.2.1 v_laid k21.2.2)) fx h [0] rfl rfl rfl rfl (q_runV fx h hl.1 [0] rfl rfl (tX5_opens l D cI cJ cZ cS tb a_t a_s a_keptS a_statuses a_pile a_tape a_steps a_wish a_mark a_bitsOf a_sizeOf a_number a_moved H.size v_isKept v_taped v_at v_fault v_laid v_open r21 k21 hg) mvX5_opens k_789 ⟨rfl, rfl⟩ (room_X5_unit_X5_opens dd) rfl rfl rfl rfl (Nat.le_of_ble_eq_true rfl) dX5_unit_84 ⟨Nat.le_of_ble_eq_true rfl, Nat.le_of_ble_eq_true rfl⟩) (fun H locs h => ?_)
        refine lv_if_eq (tgt := 129) hx hb dX5_unit_87 (by decide) (fun c22 => ?_) (fun c22 => ?_)
        · have hf := it_t c22 hf
          exact LX5_unit_129 hgX5_any hgX5_unit fx h (lv_sub hl [1, 0] rfl) hf
        have hf := it_f c22 hf
        refine lv_aload_n hx hb dX5_unit_90 rfl (lv_at hl 1 rfl) ?_
        obtain ⟨k23, hg, hf⟩ := bV_inv hf
        refine q_cv (rest := []) (ws' := (wX5_unit cI cJ cZ cS a_t a_s a_keptS a_statuses a_pile a_tape a_steps a_wish a_mark a_bitsOf a_sizeOf a_number a_moved v_isKept v_taped k23.1 k23.2.1 k23.2.2.1 k23.2.2.2.1 v_tape k23.2.2.2.2)) (w1 := (wX5_unit cI cJ cZ cS a_t a_s a_keptS a_statuses a_pile a_tape a_steps a_wish a_mark a_bitsOf a_sizeOf a_number a_moved v_isKept v_taped k23.1 k23.2.1 k23.2.2.1 k23.2.2.2.1 v_tape k23.2.2.2.2)) fx h [0, 1, 2] rfl rfl rfl rfl (q_runV fx h hl.1 [0, 1, 2] rfl rfl (hgX5_unit D cI cJ cZ cS tb a_t a_s a_keptS a_statuses a_pile a_tape a_steps a_wish a_mark a_bitsOf a_sizeOf a_number a_moved H.size v_isKept v_taped k21.1 k21.2.1 v_laid k21.2.2 v_tape v_steps k23 hg) mvX5_unit k_765 ⟨rfl, rfl⟩ (room_X5_unit_X5_unit dd) rfl rfl rfl rfl (Nat.le_of_ble_eq_true rfl) dX5_unit_91 ⟨Nat.le_of_ble_eq_true rfl, Nat.le_of_ble_eq_true rfl⟩) (fun H locs h => ?_)
        refine lv_aload_n hx hb dX5_unit_94 rfl (lv_at hl 1 rfl) ?_
        refine lv_dup hx hb dX5_unit_95 rfl ?_
        refine q_get (v := .int k23.2.2.2.1) fx inX5 h 0 rfl rfl 11 (by decide) k_647 rfl dX5_unit_96 ?_
        refine lv_iconst (v := 1) hx hb dX5_unit_99 (by decide) ?_
        refine lv_isub hx hb dX5_unit_100 ?_
        obtain ⟨u24, eu24, hf⟩ := nm_inv hf
        refine lv_eqi eu24 ?_
        refine q_put (v := .int u24) (ws' := (wX5_unit cI cJ cZ cS a_t a_s a_keptS a_statuses a_pile a_tape a_steps a_wish a_mark a_bitsOf a_sizeOf a_number a_moved v_isKept v_taped k23.1 k23.2.1 k23.2.2.1 u24 v_tape k23.2.2.2.2)) fx inX5 tyX5 tyX5_ok nmX5 h 0 rfl rfl 11 (by decide) k_647 rfl rfl rfl (Nat.le_of_ble_eq_true rfl) rfl dX5_unit_101 (fun H locs h => ?_)
        refine lv_aload_n hx hb dX5_unit_104 rfl (lv_at hl 1 rfl) ?_
        refine q_get (v := .ref a_steps) fx inX5 h 0 rfl rfl 6 (by decide) k_642 rfl dX5_unit_105 ?_
        refine lv_aload_n hx hb dX5_unit_108 rfl (lv_at hl 1 rfl) ?_
        refine q_get (v := .int k23.2.2.1) fx inX5 h 0 rfl rfl 10 (by decide) k_646 rfl dX5_unit_109 ?_
        refine lv_sipush (v := 140) hx hb dX5_unit_112 (by decide) ?_
        obtain ⟨i25, hf⟩ := gIn_inv hf
        refine q_iast (ws' := (wX5_unit cI cJ cZ cS a_t a_s a_keptS a_statuses a_pile a_tape a_steps a_wish a_mark a_bitsOf a_sizeOf a_number a_moved v_isKept v_taped k23.1 k23.2.1 k23.2.2.1 u24 v_tape (upd k23.2.2.2.2 k23.2.2.1.toNatClampNeg 140))) fx h 2 rfl i25 rfl dX5_unit_115 (fun H locs h => ?_)
        refine lv_aload_n hx hb dX5_unit_116 rfl (lv_at hl 1 rfl) ?_
        refine lv_dup hx hb dX5_unit_117 rfl ?_
        refine q_get (v := .int k23.2.2.1) fx inX5 h 0 rfl rfl 10 (by decide) k_646 rfl dX5_unit_118 ?_
        refine lv_iconst (v := 1) hx hb dX5_unit_121 (by decide) ?_
        refine lv_iadd hx hb dX5_unit_122 ?_
        obtain ⟨u26, eu26, hf⟩ := nm_inv hf
        refine lv_eqi eu26 ?_
        refine q_put (v := .int u26) (ws' := (wX5_unit cI cJ cZ cS a_t a_s a_keptS a_statuses a_pile a_tape a_steps a_wish a_mark a_bitsOf a_sizeOf a_number a_moved v_isKept v_taped k23.1 k23.2.1 u26 u24 v_tape (upd k23.2.2.2.2 k23.2.2.1.toNatClampNeg 140))) fx inX5 tyX5 tyX5_ok nmX5 h 0 rfl rfl 10 (by decide) k_646 rfl rfl rfl (Nat.le_of_ble_eq_true rfl) rfl dX5_unit_123 (fun H locs h => ?_)
        refine lv_goto (tgt := 193) hx hb dX5_unit_126 (by decide) ?_
        exact q_retv (fun k : Int32 × Int32 × Int32 × Int32 × (Nat → Int32) => (wX5_unit cI cJ cZ cS a_t a_s a_keptS a_statuses a_pile a_tape a_steps a_wish a_mark a_bitsOf a_sizeOf a_number a_moved v_isKept v_taped k.1 k.2.1 k.2.2.1 k.2.2.2.1 v_tape k.2.2.2.2)) fx hf h dX5_unit_193
      have hf := it_t c19 hf
      refine lv_aload_n hx hb dX5_unit_70 rfl (lv_at hl 1 rfl) ?_
      obtain ⟨k27, hg, hf⟩ := bV_inv hf
      refine q_cv (rest := []) (ws' := (wX5_unit cI cJ cZ cS a_t a_s a_keptS a_statuses a_pile a_tape a_steps a_wish a_mark a_bitsOf a_sizeOf a_number a_moved v_isKept v_taped k27.1 k27.2.1 k27.2.2.1 v_open v_tape k27.2.2.2)) (w1 := (wX5_counted cI cJ cZ cS a_t a_s a_keptS a_statuses a_pile a_tape a_steps a_wish a_mark a_bitsOf a_sizeOf a_number a_moved v_isKept v_taped k27.1 k27.2.1 k27.2.2.1 v_open v_tape k27.2.2.2)) fx h [0, 1, 2] rfl rfl rfl rfl (q_runV fx h hl.1 [0, 1, 2] rfl rfl (tX5_counted l D cI cJ cZ cS tb a_t a_s a_keptS a_statuses a_pile a_tape a_steps a_wish a_mark a_bitsOf a_sizeOf a_number a_moved H.size v_isKept v_taped v_at v_fault v_laid v_open v_tape v_steps k27 hg) mvX5_counted k_779 ⟨rfl, rfl⟩ (room_X5_unit_X5_counted dd) rfl rfl rfl rfl (Nat.le_of_ble_eq_true rfl) dX5_unit_71 ⟨Nat.le_of_ble_eq_true rfl, Nat.le_of_ble_eq_true rfl⟩) (fun H locs h => ?_)
      refine lv_goto (tgt := 193) hx hb dX5_unit_74 (by decide) ?_
      exact q_retv (fun k : Int32 × Int32 × Int32 × Int32 × (Nat → Int32) => (wX5_unit cI cJ cZ cS a_t a_s a_keptS a_statuses a_pile a_tape a_steps a_wish a_mark a_bitsOf a_sizeOf a_number a_moved v_isKept v_taped k.1 k.2.1 k.2.2.1 k.2.2.2.1 v_tape k.2.2.2.2)) fx hf h dX5_unit_193
    have hf := it_t c18 hf
    exact LX5_unit_42 hgX5_any hgX5_unit fx h (lv_sub hl [1, 0] rfl) hf
  have hf := it_f c16 hf
  refine lv_aload_n hx hb dX5_unit_19 rfl (lv_at hl 1 rfl) ?_
  refine lv_iload_n hx hb dX5_unit_20 rfl (lv_at hl 0 rfl) ?_
  refine lv_bipush (v := 97) hx hb dX5_unit_21 (by decide) ?_
  refine lv_isub hx hb dX5_unit_23 ?_
  obtain ⟨k28, hg, hf⟩ := bV_inv hf
  refine q_cv (rest := []) (ws' := (wX5_unit cI cJ cZ cS a_t a_s a_keptS a_statuses a_pile a_tape a_steps a_wish a_mark a_bitsOf a_sizeOf a_number a_moved v_isKept v_taped k28.1 v_fault k28.2.1 v_open v_tape k28.2.2)) (w1 := (wX5_lay cI cJ cZ cS a_t a_s a_keptS a_statuses a_pile a_tape a_steps a_wish a_mark a_bitsOf a_sizeOf a_number a_moved v_isKept v_taped k28.1 v_fault k28.2.1 v_open k28.2.2)) fx h [0, 2] rfl rfl rfl rfl (q_runV fx h hl.1 [0, 2] rfl rfl (tX5_lay l D cI cJ cZ cS tb a_t a_s a_keptS a_statuses a_pile a_tape a_steps a_wish a_mark a_bitsOf a_sizeOf a_number a_moved H.size v_isKept v_taped v_at v_fault v_laid v_open v_steps (r14 - 97) k28 hg) mvX5_lay k_775 ⟨rfl, rfl⟩ (room_X5_unit_X5_lay dd) rfl rfl rfl rfl (Nat.le_of_ble_eq_true rfl) dX5_unit_24 ⟨Nat.le_of_ble_eq_true rfl, Nat.le_of_ble_eq_true rfl⟩) (fun H locs h => ?_)
  refine lv_goto (tgt := 193) hx hb dX5_unit_27 (by decide) ?_
  exact q_retv (fun k : Int32 × Int32 × Int32 × Int32 × (Nat → Int32) => (wX5_unit cI cJ cZ cS a_t a_s a_keptS a_statuses a_pile a_tape a_steps a_wish a_mark a_bitsOf a_sizeOf a_number a_moved v_isKept v_taped k.1 k.2.1 k.2.2.1 k.2.2.2.1 v_tape k.2.2.2.2)) fx hf h dX5_unit_193
/-! X5_every -/
def fX5_every_4 (gX5_unit : Int32 → Int32 → Int32 → Int32 → Int32 → (Nat → Int32) → (Nat → Int32) → Option (Int32 × Int32 × Int32 × Int32 × (Nat → Int32))) (v_taped : Int32) (v_tape : Nat → Int32) (ag4 : Int32 → Int32 → Int32 → Int32 → (Nat → Int32) → Option (Int32 × Int32 × Int32 × Int32 × (Nat → Int32))) (v_at : Int32) (v_fault : Int32) (v_laid : Int32) (v_open : Int32) (v_steps : Nat → Int32) : Option (Int32 × Int32 × Int32 × Int32 × (Nat → Int32)) :=
  (if (0 : Int32) ≤ v_fault then (
  some (v_at, v_fault, v_laid, v_open, v_steps))
  else (
  bR (fX5_look v_taped v_at v_tape) (fun r2 k2 =>
  (if r2 = 38 then (
  nm (v_at + 1) (fun u4 =>
  bV (gX5_unit v_taped u4 v_fault v_laid v_open v_tape v_steps) (fun k5 =>
  gIn k5.2.2.1 64 (
  nm (k5.2.2.1 + 1) (fun u7 =>
  ag4 k5.1 k5.2.1 u7 k5.2.2.2.1 (upd k5.2.2.2.2 k5.2.2.1.toNatClampNeg 141))))))
  else (
  some (v_at, v_fault, v_laid, v_open, v_steps))))))
set_option maxRecDepth 100000 in
set_option maxHeartbeats 4000000 in
theorem LX5_every_4 {p : Program} {l : Launch} {e : Env} {s : State} {m : MethodId} {args : Array Value} {below : List Frame} {meth : Method} {c : Code} {D : va_G} {cI cJ cZ cS : ClassId} {tb : Nat} {A : Nat → Prop} {a_t a_s a_keptS a_statuses a_pile a_tape a_steps a_wish a_mark a_bitsOf a_sizeOf a_number a_moved : Nat} {v_isKept : Int32} {v_taped : Int32} {v_tape : Nat → Int32} {kk' : Int32 × Int32 × Int32 × Int32 × (Nat → Int32)} {dd : Nat} {gX5_unit : Int32 → Int32 → Int32 → Int32 → Int32 → (Nat → Int32) → (Nat → Int32) → Option (Int32 × Int32 × Int32 × Int32 × (Nat → Int32))} (hgX5_unit : ∀ (D : va_G) (cI cJ cZ cS : ClassId) (tb : Nat) (a_t a_s a_keptS a_statuses a_pile a_tape a_steps a_wish a_mark a_bitsOf a_sizeOf a_number a_moved : Nat) (sz : Nat) (v_isKept : Int32) (v_taped : Int32) (v_at : Int32) (v_fault : Int32) (v_laid : Int32) (v_open : Int32) (v_tape : Nat → Int32) (v_steps : Nat → Int32) (kk' : Int32 × Int32 × Int32 × Int32 × (Nat → Int32)) (hf : gX5_unit v_taped v_at v_fault v_laid v_open v_tape v_steps = some kk'), Met l yX5_unit (Cond.code yX5_unit cX5_unit 2 none :: wA) (rX5_unit dd) (q_Pre D cI cJ cZ cS tb [.ref a_t] sz (wX5_unit cI cJ cZ cS a_t a_s a_keptS a_statuses a_pile a_tape a_steps a_wish a_mark a_bitsOf a_sizeOf a_number a_moved v_isKept v_taped v_at v_fault v_laid v_open v_tape v_steps)) (q_Rv D (va_A (wX5_unit cI cJ cZ cS a_t a_s a_keptS a_statuses a_pile a_tape a_steps a_wish a_mark a_bitsOf a_sizeOf a_number a_moved v_isKept v_taped v_at v_fault v_laid v_open v_tape v_steps) sz) ((fun k : Int32 × Int32 × Int32 × Int32 × (Nat → Int32) => (wX5_unit cI cJ cZ cS a_t a_s a_keptS a_statuses a_pile a_tape a_steps a_wish a_mark a_bitsOf a_sizeOf a_number a_moved v_isKept v_taped k.1 k.2.1 k.2.2.1 k.2.2.2.1 v_tape k.2.2.2.2)) kk')) 0 0 (va_A (wX5_unit cI cJ cZ cS a_t a_s a_keptS a_statuses a_pile a_tape a_steps a_wish a_mark a_bitsOf a_sizeOf a_number a_moved v_isKept v_taped v_at v_fault v_laid v_open v_tape v_steps) sz)) (fx : q_Fx p s m args meth c cX5_every 1 RX5 none D cI cJ cZ cS tb A) {ag4 : Int32 → Int32 → Int32 → Int32 → (Nat → Int32) → Option (Int32 × Int32 × Int32 × Int32 × (Nat → Int32))} (hag4 : ∀ {v_at : Int32} {v_fault : Int32} {v_laid : Int32} {v_open : Int32} {v_steps : Nat → Int32} {H : Heap} {locs : List Loc} {ls : Array Slot}, q_H D A s (wX5_every cI cJ cZ cS a_t a_s a_keptS a_statuses a_pile a_tape a_steps a_wish a_mark a_bitsOf a_sizeOf a_number a_moved v_isKept v_taped v_at v_fault v_laid v_open v_tape v_steps) H locs → lv_has ls 1 [(0, .ref a_t)] → ag4 v_at v_fault v_laid v_open v_steps = some kk' → W p l e (rX5_every dd) s m args below meth c H locs 0 0 (MQ below (q_Rv D A ((fun k : Int32 × Int32 × Int32 × Int32 × (Nat → Int32) => (wX5_every cI cJ cZ cS a_t a_s a_keptS a_statuses a_pile a_tape a_steps a_wish a_mark a_bitsOf a_sizeOf a_number a_moved v_isKept v_taped k.1 k.2.1 k.2.2.1 k.2.2.2.1 v_tape k.2.2.2.2)) kk')) args s 0 0 A) (F0 m 4 ls [])) : ∀ {v_at : Int32} {v_fault : Int32} {v_laid : Int32} {v_open : Int32} {v_steps : Nat → Int32} {H : Heap} {locs : List Loc} {ls : Array Slot}, q_H D A s (wX5_every cI cJ cZ cS a_t a_s a_keptS a_statuses a_pile a_tape a_steps a_wish a_mark a_bitsOf a_sizeOf a_number a_moved v_isKept v_taped v_at v_fault v_laid v_open v_tape v_steps) H locs → lv_has ls 1 [(0, .ref a_t)] → fX5_every_4 gX5_unit v_taped v_tape ag4 v_at v_fault v_laid v_open v_steps = some kk' → W p l e (rX5_every dd) s m args below meth c H locs 0 0 (MQ below (q_Rv D A ((fun k : Int32 × Int32 × Int32 × Int32 × (Nat → Int32) => (wX5_every cI cJ cZ cS a_t a_s a_keptS a_statuses a_pile a_tape a_steps a_wish a_mark a_bitsOf a_sizeOf a_number a_moved v_isKept v_taped k.1 k.2.1 k.2.2.1 k.2.2.2.1 v_tape k.2.2.2.2)) kk')) args s 0 0 A) (F0 m 4 ls []) := by
  intro v_at v_fault v_laid v_open v_steps H locs ls h hl hf
  have hx := fx.1
  have hb := fx.2.1
  unfold fX5_every_4 at hf
  refine lv_aload_n hx hb dX5_every_4 rfl (lv_at hl 0 rfl) ?_
  refine q_get (v := .int v_fault) fx inX5 h 0 rfl rfl 9 (by decide) k_645 rfl dX5_every_5 ?_
  refine lv_if_ge (tgt := 59) hx hb dX5_every_8 (by decide) (fun c1 => ?_) (fun c1 => ?_)
  · have hf := it_t c1 hf
    exact q_retv (fun k : Int32 × Int32 × Int32 × Int32 × (Nat → Int32) => (wX5_every cI cJ cZ cS a_t a_s a_keptS a_statuses a_pile a_tape a_steps a_wish a_mark a_bitsOf a_sizeOf a_number a_moved v_isKept v_taped k.1 k.2.1 k.2.2.1 k.2.2.2.1 v_tape k.2.2.2.2)) fx hf h dX5_every_59
  have hf := it_f c1 hf
  refine lv_aload_n hx hb dX5_every_11 rfl (lv_at hl 0 rfl) ?_
  obtain ⟨r2, k2, hg, hf⟩ := bR_inv hf
  refine q_ci (rest := []) (ws' := (wX5_every cI cJ cZ cS a_t a_s a_keptS a_statuses a_pile a_tape a_steps a_wish a_mark a_bitsOf a_sizeOf a_number a_moved v_isKept v_taped v_at v_fault v_laid v_open v_tape v_steps)) (w1 := (wX5_look cI cJ cZ cS a_t a_s a_keptS a_statuses a_pile a_tape a_steps a_wish a_mark a_bitsOf a_sizeOf a_number a_moved v_isKept v_taped v_at v_fault v_laid v_open v_tape)) fx h [0, 1] rfl rfl rfl rfl (q_runV fx h hl.1 [0, 1] rfl rfl (tX5_look l D cI cJ cZ cS tb a_t a_s a_keptS a_statuses a_pile a_tape a_steps a_wish a_mark a_bitsOf a_sizeOf a_number a_moved H.size v_isKept v_taped v_at v_fault v_laid v_open v_tape r2 k2 hg) mvX5_look k_769 ⟨rfl, rfl⟩ (room_X5_every_X5_look dd) rfl rfl rfl rfl (Nat.le_of_ble_eq_true rfl) dX5_every_12 ⟨Nat.le_of_ble_eq_true rfl, Nat.le_of_ble_eq_true rfl⟩) (fun H locs h => ?_)
  refine lv_bipush (v := 38) hx hb dX5_every_15 (by decide) ?_
  refine lv_icmp_ne (tgt := 59) hx hb dX5_every_17 (by decide) (fun c3 => ?_) (fun c3 => ?_)
  · have hf := it_f c3 hf
    exact q_retv (fun k : Int32 × Int32 × Int32 × Int32 × (Nat → Int32) => (wX5_every cI cJ cZ cS a_t a_s a_keptS a_statuses a_pile a_tape a_steps a_wish a_mark a_bitsOf a_sizeOf a_number a_moved v_isKept v_taped k.1 k.2.1 k.2.2.1 k.2.2.2.1 v_tape k.2.2.2.2)) fx hf h dX5_every_59
  have hf := it_t c3 hf
  refine lv_aload_n hx hb dX5_every_20 rfl (lv_at hl 0 rfl) ?_
  refine lv_dup hx hb dX5_every_21 rfl ?_
  refine q_get (v := .int v_at) fx inX5 h 0 rfl rfl 8 (by decide) k_644 rfl dX5_every_22 ?_
  refine lv_iconst (v := 1) hx hb dX5_every_25 (by decide) ?_
  refine lv_iadd hx hb dX5_every_26 ?_
  obtain ⟨u4, eu4, hf⟩ := nm_inv hf
  refine lv_eqi eu4 ?_
  refine q_put (v := .int u4) (ws' := (wX5_every cI cJ cZ cS a_t a_s a_keptS a_statuses a_pile a_tape a_steps a_wish a_mark a_bitsOf a_sizeOf a_number a_moved v_isKept v_taped u4 v_fault v_laid v_open v_tape v_steps)) fx inX5 tyX5 tyX5_ok nmX5 h 0 rfl rfl 8 (by decide) k_644 rfl rfl rfl (Nat.le_of_ble_eq_true rfl) rfl dX5_every_27 (fun H locs h => ?_)
  refine lv_aload_n hx hb dX5_every_30 rfl (lv_at hl 0 rfl) ?_
  obtain ⟨k5, hg, hf⟩ := bV_inv hf
  refine q_cv (rest := []) (ws' := (wX5_every cI cJ cZ cS a_t a_s a_keptS a_statuses a_pile a_tape a_steps a_wish a_mark a_bitsOf a_sizeOf a_number a_moved v_isKept v_taped k5.1 k5.2.1 k5.2.2.1 k5.2.2.2.1 v_tape k5.2.2.2.2)) (w1 := (wX5_unit cI cJ cZ cS a_t a_s a_keptS a_statuses a_pile a_tape a_steps a_wish a_mark a_bitsOf a_sizeOf a_number a_moved v_isKept v_taped k5.1 k5.2.1 k5.2.2.1 k5.2.2.2.1 v_tape k5.2.2.2.2)) fx h [0, 1, 2] rfl rfl rfl rfl (q_runV fx h hl.1 [0, 1, 2] rfl rfl (hgX5_unit D cI cJ cZ cS tb a_t a_s a_keptS a_statuses a_pile a_tape a_steps a_wish a_mark a_bitsOf a_sizeOf a_number a_moved H.size v_isKept v_taped u4 v_fault v_laid v_open v_tape v_steps k5 hg) mvX5_unit k_765 ⟨rfl, rfl⟩ (room_X5_every_X5_unit dd) rfl rfl rfl rfl (Nat.le_of_ble_eq_true rfl) dX5_every_31 ⟨Nat.le_of_ble_eq_true rfl, Nat.le_of_ble_eq_true rfl⟩) (fun H locs h => ?_)
  refine lv_aload_n hx hb dX5_every_34 rfl (lv_at hl 0 rfl) ?_
  refine q_get (v := .ref a_steps) fx inX5 h 0 rfl rfl 6 (by decide) k_642 rfl dX5_every_35 ?_
  refine lv_aload_n hx hb dX5_every_38 rfl (lv_at hl 0 rfl) ?_
  refine q_get (v := .int k5.2.2.1) fx inX5 h 0 rfl rfl 10 (by decide) k_646 rfl dX5_every_39 ?_
  refine lv_sipush (v := 141) hx hb dX5_every_42 (by decide) ?_
  obtain ⟨i6, hf⟩ := gIn_inv hf
  refine q_iast (ws' := (wX5_every cI cJ cZ cS a_t a_s a_keptS a_statuses a_pile a_tape a_steps a_wish a_mark a_bitsOf a_sizeOf a_number a_moved v_isKept v_taped k5.1 k5.2.1 k5.2.2.1 k5.2.2.2.1 v_tape (upd k5.2.2.2.2 k5.2.2.1.toNatClampNeg 141))) fx h 2 rfl i6 rfl dX5_every_45 (fun H locs h => ?_)
  refine lv_aload_n hx hb dX5_every_46 rfl (lv_at hl 0 rfl) ?_
  refine lv_dup hx hb dX5_every_47 rfl ?_
  refine q_get (v := .int k5.2.2.1) fx inX5 h 0 rfl rfl 10 (by decide) k_646 rfl dX5_every_48 ?_
  refine lv_iconst (v := 1) hx hb dX5_every_51 (by decide) ?_
  refine lv_iadd hx hb dX5_every_52 ?_
  obtain ⟨u7, eu7, hf⟩ := nm_inv hf
  refine lv_eqi eu7 ?_
  refine q_put (v := .int u7) (ws' := (wX5_every cI cJ cZ cS a_t a_s a_keptS a_statuses a_pile a_tape a_steps a_wish a_mark a_bitsOf a_sizeOf a_number a_moved v_isKept v_taped k5.1 k5.2.1 u7 k5.2.2.2.1 v_tape (upd k5.2.2.2.2 k5.2.2.1.toNatClampNeg 141))) fx inX5 tyX5 tyX5_ok nmX5 h 0 rfl rfl 10 (by decide) k_646 rfl rfl rfl (Nat.le_of_ble_eq_true rfl) rfl dX5_every_53 (fun H locs h => ?_)
  refine lv_goto (tgt := 4) hx hb dX5_every_56 (by decide) ?_
  exact hag4 h (lv_sub hl [0] rfl) hf
set_option maxRecDepth 100000 in
theorem EX5_every_4 {p : Program} {l : Launch} {e : Env} {s : State} {m : MethodId} {args : Array Value} {below : List Frame} {meth : Method} {c : Code} {D : va_G} {cI cJ cZ cS : ClassId} {tb : Nat} {A : Nat → Prop} {a_t a_s a_keptS a_statuses a_pile a_tape a_steps a_wish a_mark a_bitsOf a_sizeOf a_number a_moved : Nat} {v_isKept : Int32} {v_taped : Int32} {v_tape : Nat → Int32} {kk' : Int32 × Int32 × Int32 × Int32 × (Nat → Int32)} {dd : Nat} {gX5_unit : Int32 → Int32 → Int32 → Int32 → Int32 → (Nat → Int32) → (Nat → Int32) → Option (Int32 × Int32 × Int32 × Int32 × (Nat → Int32))} (hgX5_unit : ∀ (D : va_G) (cI cJ cZ cS : ClassId) (tb : Nat) (a_t a_s a_keptS a_statuses a_pile a_tape a_steps a_wish a_mark a_bitsOf a_sizeOf a_number a_moved : Nat) (sz : Nat) (v_isKept : Int32) (v_taped : Int32) (v_at : Int32) (v_fault : Int32) (v_laid : Int32) (v_open : Int32) (v_tape : Nat → Int32) (v_steps : Nat → Int32) (kk' : Int32 × Int32 × Int32 × Int32 × (Nat → Int32)) (hf : gX5_unit v_taped v_at v_fault v_laid v_open v_tape v_steps = some kk'), Met l yX5_unit (Cond.code yX5_unit cX5_unit 2 none :: wA) (rX5_unit dd) (q_Pre D cI cJ cZ cS tb [.ref a_t] sz (wX5_unit cI cJ cZ cS a_t a_s a_keptS a_statuses a_pile a_tape a_steps a_wish a_mark a_bitsOf a_sizeOf a_number a_moved v_isKept v_taped v_at v_fault v_laid v_open v_tape v_steps)) (q_Rv D (va_A (wX5_unit cI cJ cZ cS a_t a_s a_keptS a_statuses a_pile a_tape a_steps a_wish a_mark a_bitsOf a_sizeOf a_number a_moved v_isKept v_taped v_at v_fault v_laid v_open v_tape v_steps) sz) ((fun k : Int32 × Int32 × Int32 × Int32 × (Nat → Int32) => (wX5_unit cI cJ cZ cS a_t a_s a_keptS a_statuses a_pile a_tape a_steps a_wish a_mark a_bitsOf a_sizeOf a_number a_moved v_isKept v_taped k.1 k.2.1 k.2.2.1 k.2.2.2.1 v_tape k.2.2.2.2)) kk')) 0 0 (va_A (wX5_unit cI cJ cZ cS a_t a_s a_keptS a_statuses a_pile a_tape a_steps a_wish a_mark a_bitsOf a_sizeOf a_number a_moved v_isKept v_taped v_at v_fault v_laid v_open v_tape v_steps) sz)) (fx : q_Fx p s m args meth c cX5_every 1 RX5 none D cI cJ cZ cS tb A) : ∀ (n : Nat), ∀ {v_at : Int32} {v_fault : Int32} {v_laid : Int32} {v_open : Int32} {v_steps : Nat → Int32} {H : Heap} {locs : List Loc} {ls : Array Slot}, q_H D A s (wX5_every cI cJ cZ cS a_t a_s a_keptS a_statuses a_pile a_tape a_steps a_wish a_mark a_bitsOf a_sizeOf a_number a_moved v_isKept v_taped v_at v_fault v_laid v_open v_tape v_steps) H locs → lv_has ls 1 [(0, .ref a_t)] → ll5 (fX5_every_4 gX5_unit v_taped v_tape) n v_at v_fault v_laid v_open v_steps = some kk' → W p l e (rX5_every dd) s m args below meth c H locs 0 0 (MQ below (q_Rv D A ((fun k : Int32 × Int32 × Int32 × Int32 × (Nat → Int32) => (wX5_every cI cJ cZ cS a_t a_s a_keptS a_statuses a_pile a_tape a_steps a_wish a_mark a_bitsOf a_sizeOf a_number a_moved v_isKept v_taped k.1 k.2.1 k.2.2.1 k.2.2.2.1 v_tape k.2.2.2.2)) kk')) args s 0 0 A) (F0 m 4 ls []) := by
  intro n
  induction n with
  | zero => intro v_at v_fault v_laid v_open v_steps H locs ls h hl hf; exact (ll5_z hf).elim
  | succ n ih => intro v_at v_fault v_laid v_open v_steps H locs ls h hl hf; exact LX5_every_4 hgX5_unit fx ih h hl (ll5_s hf)
def fX5_every (gX5_unit : Int32 → Int32 → Int32 → Int32 → Int32 → (Nat → Int32) → (Nat → Int32) → Option (Int32 × Int32 × Int32 × Int32 × (Nat → Int32))) (v_taped : Int32) (v_at : Int32) (v_fault : Int32) (v_laid : Int32) (v_open : Int32) (v_tape : Nat → Int32) (v_steps : Nat → Int32) : Option (Int32 × Int32 × Int32 × Int32 × (Nat → Int32)) :=
  bV (gX5_unit v_taped v_at v_fault v_laid v_open v_tape v_steps) (fun k8 =>
  ll5 (fX5_every_4 gX5_unit v_taped v_tape) qF k8.1 k8.2.1 k8.2.2.1 k8.2.2.2.1 k8.2.2.2.2)
set_option maxRecDepth 100000 in
set_option maxHeartbeats 4000000 in
theorem uX5_every (dd : Nat) (l : Launch) {gX5_unit : Int32 → Int32 → Int32 → Int32 → Int32 → (Nat → Int32) → (Nat → Int32) → Option (Int32 × Int32 × Int32 × Int32 × (Nat → Int32))} (hgX5_unit : ∀ (D : va_G) (cI cJ cZ cS : ClassId) (tb : Nat) (a_t a_s a_keptS a_statuses a_pile a_tape a_steps a_wish a_mark a_bitsOf a_sizeOf a_number a_moved : Nat) (sz : Nat) (v_isKept : Int32) (v_taped : Int32) (v_at : Int32) (v_fault : Int32) (v_laid : Int32) (v_open : Int32) (v_tape : Nat → Int32) (v_steps : Nat → Int32) (kk' : Int32 × Int32 × Int32 × Int32 × (Nat → Int32)) (hf : gX5_unit v_taped v_at v_fault v_laid v_open v_tape v_steps = some kk'), Met l yX5_unit (Cond.code yX5_unit cX5_unit 2 none :: wA) (rX5_unit dd) (q_Pre D cI cJ cZ cS tb [.ref a_t] sz (wX5_unit cI cJ cZ cS a_t a_s a_keptS a_statuses a_pile a_tape a_steps a_wish a_mark a_bitsOf a_sizeOf a_number a_moved v_isKept v_taped v_at v_fault v_laid v_open v_tape v_steps)) (q_Rv D (va_A (wX5_unit cI cJ cZ cS a_t a_s a_keptS a_statuses a_pile a_tape a_steps a_wish a_mark a_bitsOf a_sizeOf a_number a_moved v_isKept v_taped v_at v_fault v_laid v_open v_tape v_steps) sz) ((fun k : Int32 × Int32 × Int32 × Int32 × (Nat → Int32) => (wX5_unit cI cJ cZ cS a_t a_s a_keptS a_statuses a_pile a_tape a_steps a_wish a_mark a_bitsOf a_sizeOf a_number a_moved v_isKept v_taped k.1 k.2.1 k.2.2.1 k.2.2.2.1 v_tape k.2.2.2.2)) kk')) 0 0 (va_A (wX5_unit cI cJ cZ cS a_t a_s a_keptS a_statuses a_pile a_tape a_steps a_wish a_mark a_bitsOf a_sizeOf a_number a_moved v_isKept v_taped v_at v_fault v_laid v_open v_tape v_steps) sz)) (D : va_G) (cI cJ cZ cS : ClassId) (tb : Nat) (a_t a_s a_keptS a_statuses a_pile a_tape a_steps a_wish a_mark a_bitsOf a_sizeOf a_number a_moved : Nat) (sz : Nat) (v_isKept : Int32) (v_taped : Int32) (v_at : Int32) (v_fault : Int32) (v_laid : Int32) (v_open : Int32) (v_tape : Nat → Int32) (v_steps : Nat → Int32) (kk' : Int32 × Int32 × Int32 × Int32 × (Nat → Int32)) (hf : fX5_every gX5_unit v_taped v_at v_fault v_laid v_open v_tape v_steps = some kk') : Met l yX5_every (Cond.code yX5_every cX5_every 1 none :: wA) (rX5_every dd) (q_Pre D cI cJ cZ cS tb [.ref a_t] sz (wX5_every cI cJ cZ cS a_t a_s a_keptS a_statuses a_pile a_tape a_steps a_wish a_mark a_bitsOf a_sizeOf a_number a_moved v_isKept v_taped v_at v_fault v_laid v_open v_tape v_steps)) (q_Rv D (va_A (wX5_every cI cJ cZ cS a_t a_s a_keptS a_statuses a_pile a_tape a_steps a_wish a_mark a_bitsOf a_sizeOf a_number a_moved v_isKept v_taped v_at v_fault v_laid v_open v_tape v_steps) sz) ((fun k : Int32 × Int32 × Int32 × Int32 × (Nat → Int32) => (wX5_every cI cJ cZ cS a_t a_s a_keptS a_statuses a_pile a_tape a_steps a_wish a_mark a_bitsOf a_sizeOf a_number a_moved v_isKept v_taped k.1 k.2.1 k.2.2.1 k.2.2.2.1 v_tape k.2.2.2.2)) kk')) 0 0 (va_A (wX5_every cI cJ cZ cS a_t a_s a_keptS a_statuses a_pile a_tape a_steps a_wish a_mark a_bitsOf a_sizeOf a_number a_moved v_isKept v_taped v_at v_fault v_laid v_open v_tape v_steps) sz) := by
  refine q_enter (Qf := fun A => (q_Rv D A ((fun k : Int32 × Int32 × Int32 × Int32 × (Nat → Int32) => (wX5_every cI cJ cZ cS a_t a_s a_keptS a_statuses a_pile a_tape a_steps a_wish a_mark a_bitsOf a_sizeOf a_number a_moved v_isKept v_taped k.1 k.2.1 k.2.2.1 k.2.2.2.1 v_tape k.2.2.2.2)) kk'))) (by decide) rfl (Nat.le_of_ble_eq_true rfl) ?_
  intro p e s m below meth c A ls fx hname h hl
  have hx := fx.1
  have hb := fx.2.1
  have hl : lv_has ls 1 [(0, .ref a_t)] := hl
  generalize h9 : s.heap = H at h ⊢
  clear h9
  generalize h9 : ([] : List Loc) = locs at h ⊢
  clear h9
  unfold fX5_every at hf
  refine lv_aload_n hx hb dX5_every_0 rfl (lv_at hl 0 rfl) ?_
  obtain ⟨k8, hg, hf⟩ := bV_inv hf
  refine q_cv (rest := []) (ws' := (wX5_every cI cJ cZ cS a_t a_s a_keptS a_statuses a_pile a_tape a_steps a_wish a_mark a_bitsOf a_sizeOf a_number a_moved v_isKept v_taped k8.1 k8.2.1 k8.2.2.1 k8.2.2.2.1 v_tape k8.2.2.2.2)) (w1 := (wX5_unit cI cJ cZ cS a_t a_s a_keptS a_statuses a_pile a_tape a_steps a_wish a_mark a_bitsOf a_sizeOf a_number a_moved v_isKept v_taped k8.1 k8.2.1 k8.2.2.1 k8.2.2.2.1 v_tape k8.2.2.2.2)) fx h [0, 1, 2] rfl rfl rfl rfl (q_runV fx h hl.1 [0, 1, 2] rfl rfl (hgX5_unit D cI cJ cZ cS tb a_t a_s a_keptS a_statuses a_pile a_tape a_steps a_wish a_mark a_bitsOf a_sizeOf a_number a_moved H.size v_isKept v_taped v_at v_fault v_laid v_open v_tape v_steps k8 hg) mvX5_unit k_765 ⟨rfl, rfl⟩ (room_X5_every_X5_unit dd) rfl rfl rfl rfl (Nat.le_of_ble_eq_true rfl) dX5_every_1 ⟨Nat.le_of_ble_eq_true rfl, Nat.le_of_ble_eq_true rfl⟩) (fun H locs h => ?_)
  exact EX5_every_4 hgX5_unit fx qF h (lv_sub hl [0] rfl) hf
/-! X5_any -/
def fX5_any_4 (gX5_every : Int32 → Int32 → Int32 → Int32 → Int32 → (Nat → Int32) → (Nat → Int32) → Option (Int32 × Int32 × Int32 × Int32 × (Nat → Int32))) (v_taped : Int32) (v_tape : Nat → Int32) (ag4 : Int32 → Int32 → Int32 → Int32 → (Nat → Int32) → Option (Int32 × Int32 × Int32 × Int32 × (Nat → Int32))) (v_at : Int32) (v_fault : Int32) (v_laid : Int32) (v_open : Int32) (v_steps : Nat → Int32) : Option (Int32 × Int32 × Int32 × Int32 × (Nat → Int32)) :=
  (if (0 : Int32) ≤ v_fault then (
  some (v_at, v_fault, v_laid, v_open, v_steps))
  else (
  bR (fX5_look v_taped v_at v_tape) (fun r2 k2 =>
  (if r2 = 124 then (
  nm (v_at + 1) (fun u4 =>
  bV (gX5_every v_taped u4 v_fault v_laid v_open v_tape v_steps) (fun k5 =>
  gIn k5.2.2.1 64 (
  nm (k5.2.2.1 + 1) (fun u7 =>
  ag4 k5.1 k5.2.1 u7 k5.2.2.2.1 (upd k5.2.2.2.2 k5.2.2.1.toNatClampNeg 142))))))
  else (
  some (v_at, v_fault, v_laid, v_open, v_steps))))))
set_option maxRecDepth 100000 in
set_option maxHeartbeats 4000000 in
theorem LX5_any_4 {p : Program} {l : Launch} {e : Env} {s : State} {m : MethodId} {args : Array Value} {below : List Frame} {meth : Method} {c : Code} {D : va_G} {cI cJ cZ cS : ClassId} {tb : Nat} {A : Nat → Prop} {a_t a_s a_keptS a_statuses a_pile a_tape a_steps a_wish a_mark a_bitsOf a_sizeOf a_number a_moved : Nat} {v_isKept : Int32} {v_taped : Int32} {v_tape : Nat → Int32} {kk' : Int32 × Int32 × Int32 × Int32 × (Nat → Int32)} {dd : Nat} {gX5_every : Int32 → Int32 → Int32 → Int32 → Int32 → (Nat → Int32) → (Nat → Int32) → Option (Int32 × Int32 × Int32 × Int32 × (Nat → Int32))} (hgX5_every : ∀ (D : va_G) (cI cJ cZ cS : ClassId) (tb : Nat) (a_t a_s a_keptS a_statuses a_pile a_tape a_steps a_wish a_mark a_bitsOf a_sizeOf a_number a_moved : Nat) (sz : Nat) (v_isKept : Int32) (v_taped : Int32) (v_at : Int32) (v_fault : Int32) (v_laid : Int32) (v_open : Int32) (v_tape : Nat → Int32) (v_steps : Nat → Int32) (kk' : Int32 × Int32 × Int32 × Int32 × (Nat → Int32)) (hf : gX5_every v_taped v_at v_fault v_laid v_open v_tape v_steps = some kk'), Met l yX5_every (Cond.code yX5_every cX5_every 1 none :: wA) (rX5_every dd) (q_Pre D cI cJ cZ cS tb [.ref a_t] sz (wX5_every cI cJ cZ cS a_t a_s a_keptS a_statuses a_pile a_tape a_steps a_wish a_mark a_bitsOf a_sizeOf a_number a_moved v_isKept v_taped v_at v_fault v_laid v_open v_tape v_steps)) (q_Rv D (va_A (wX5_every cI cJ cZ cS a_t a_s a_keptS a_statuses a_pile a_tape a_steps a_wish a_mark a_bitsOf a_sizeOf a_number a_moved v_isKept v_taped v_at v_fault v_laid v_open v_tape v_steps) sz) ((fun k : Int32 × Int32 × Int32 × Int32 × (Nat → Int32) => (wX5_every cI cJ cZ cS a_t a_s a_keptS a_statuses a_pile a_tape a_steps a_wish a_mark a_bitsOf a_sizeOf a_number a_moved v_isKept v_taped k.1 k.2.1 k.2.2.1 k.2.2.2.1 v_tape k.2.2.2.2)) kk')) 0 0 (va_A (wX5_every cI cJ cZ cS a_t a_s a_keptS a_statuses a_pile a_tape a_steps a_wish a_mark a_bitsOf a_sizeOf a_number a_moved v_isKept v_taped v_at v_fault v_laid v_open v_tape v_steps) sz)) (fx : q_Fx p s m args meth c cX5_any 1 RX5 none D cI cJ cZ cS tb A) {ag4 : Int32 → Int32 → Int32 → Int32 → (Nat → Int32) → Option (Int32 × Int32 × Int32 × Int32 × (Nat → Int32))} (hag4 : ∀ {v_at : Int32} {v_fault : Int32} {v_laid : Int32} {v_open : Int32} {v_steps : Nat → Int32} {H : Heap} {locs : List Loc} {ls : Array Slot}, q_H D A s (wX5_any cI cJ cZ cS a_t a_s a_keptS a_statuses a_pile a_tape a_steps a_wish a_mark a_bitsOf a_sizeOf a_number a_moved v_isKept v_taped v_at v_fault v_laid v_open v_tape v_steps) H locs → lv_has ls 1 [(0, .ref a_t)] → ag4 v_at v_fault v_laid v_open v_steps = some kk' → W p l e (rX5_any dd) s m args below meth c H locs 0 0 (MQ below (q_Rv D A ((fun k : Int32 × Int32 × Int32 × Int32 × (Nat → Int32) => (wX5_any cI cJ cZ cS a_t a_s a_keptS a_statuses a_pile a_tape a_steps a_wish a_mark a_bitsOf a_sizeOf a_number a_moved v_isKept v_taped k.1 k.2.1 k.2.2.1 k.2.2.2.1 v_tape k.2.2.2.2)) kk')) args s 0 0 A) (F0 m 4 ls [])) : ∀ {v_at : Int32} {v_fault : Int32} {v_laid : Int32} {v_open : Int32} {v_steps : Nat → Int32} {H : Heap} {locs : List Loc} {ls : Array Slot}, q_H D A s (wX5_any cI cJ cZ cS a_t a_s a_keptS a_statuses a_pile a_tape a_steps a_wish a_mark a_bitsOf a_sizeOf a_number a_moved v_isKept v_taped v_at v_fault v_laid v_open v_tape v_steps) H locs → lv_has ls 1 [(0, .ref a_t)] → fX5_any_4 gX5_every v_taped v_tape ag4 v_at v_fault v_laid v_open v_steps = some kk' → W p l e (rX5_any dd) s m args below meth c H locs 0 0 (MQ below (q_Rv D A ((fun k : Int32 × Int32 × Int32 × Int32 × (Nat → Int32) => (wX5_any cI cJ cZ cS a_t a_s a_keptS a_statuses a_pile a_tape a_steps a_wish a_mark a_bitsOf a_sizeOf a_number a_moved v_isKept v_taped k.1 k.2.1 k.2.2.1 k.2.2.2.1 v_tape k.2.2.2.2)) kk')) args s 0 0 A) (F0 m 4 ls []) := by
  intro v_at v_fault v_laid v_open v_steps H locs ls h hl hf
  have hx := fx.1
  have hb := fx.2.1
  unfold fX5_any_4 at hf
  refine lv_aload_n hx hb dX5_any_4 rfl (lv_at hl 0 rfl) ?_
  refine q_get (v := .int v_fault) fx inX5 h 0 rfl rfl 9 (by decide) k_645 rfl dX5_any_5 ?_
  refine lv_if_ge (tgt := 59) hx hb dX5_any_8 (by decide) (fun c1 => ?_) (fun c1 => ?_)
  · have hf := it_t c1 hf
    exact q_retv (fun k : Int32 × Int32 × Int32 × Int32 × (Nat → Int32) => (wX5_any cI cJ cZ cS a_t a_s a_keptS a_statuses a_pile a_tape a_steps a_wish a_mark a_bitsOf a_sizeOf a_number a_moved v_isKept v_taped k.1 k.2.1 k.2.2.1 k.2.2.2.1 v_tape k.2.2.2.2)) fx hf h dX5_any_59
  have hf := it_f c1 hf
  refine lv_aload_n hx hb dX5_any_11 rfl (lv_at hl 0 rfl) ?_
  obtain ⟨r2, k2, hg, hf⟩ := bR_inv hf
  refine q_ci (rest := []) (ws' := (wX5_any cI cJ cZ cS a_t a_s a_keptS a_statuses a_pile a_tape a_steps a_wish a_mark a_bitsOf a_sizeOf a_number a_moved v_isKept v_taped v_at v_fault v_laid v_open v_tape v_steps)) (w1 := (wX5_look cI cJ cZ cS a_t a_s a_keptS a_statuses a_pile a_tape a_steps a_wish a_mark a_bitsOf a_sizeOf a_number a_moved v_isKept v_taped v_at v_fault v_laid v_open v_tape)) fx h [0, 1] rfl rfl rfl rfl (q_runV fx h hl.1 [0, 1] rfl rfl (tX5_look l D cI cJ cZ cS tb a_t a_s a_keptS a_statuses a_pile a_tape a_steps a_wish a_mark a_bitsOf a_sizeOf a_number a_moved H.size v_isKept v_taped v_at v_fault v_laid v_open v_tape r2 k2 hg) mvX5_look k_769 ⟨rfl, rfl⟩ (room_X5_any_X5_look dd) rfl rfl rfl rfl (Nat.le_of_ble_eq_true rfl) dX5_any_12 ⟨Nat.le_of_ble_eq_true rfl, Nat.le_of_ble_eq_true rfl⟩) (fun H locs h => ?_)
  refine lv_bipush (v := 124) hx hb dX5_any_15 (by decide) ?_
  refine lv_icmp_ne (tgt := 59) hx hb dX5_any_17 (by decide) (fun c3 => ?_) (fun c3 => ?_)
  · have hf := it_f c3 hf
    exact q_retv (fun k : Int32 × Int32 × Int32 × Int32 × (Nat → Int32) => (wX5_any cI cJ cZ cS a_t a_s a_keptS a_statuses a_pile a_tape a_steps a_wish a_mark a_bitsOf a_sizeOf a_number a_moved v_isKept v_taped k.1 k.2.1 k.2.2.1 k.2.2.2.1 v_tape k.2.2.2.2)) fx hf h dX5_any_59
  have hf := it_t c3 hf
  refine lv_aload_n hx hb dX5_any_20 rfl (lv_at hl 0 rfl) ?_
  refine lv_dup hx hb dX5_any_21 rfl ?_
  refine q_get (v := .int v_at) fx inX5 h 0 rfl rfl 8 (by decide) k_644 rfl dX5_any_22 ?_
  refine lv_iconst (v := 1) hx hb dX5_any_25 (by decide) ?_
  refine lv_iadd hx hb dX5_any_26 ?_
  obtain ⟨u4, eu4, hf⟩ := nm_inv hf
  refine lv_eqi eu4 ?_
  refine q_put (v := .int u4) (ws' := (wX5_any cI cJ cZ cS a_t a_s a_keptS a_statuses a_pile a_tape a_steps a_wish a_mark a_bitsOf a_sizeOf a_number a_moved v_isKept v_taped u4 v_fault v_laid v_open v_tape v_steps)) fx inX5 tyX5 tyX5_ok nmX5 h 0 rfl rfl 8 (by decide) k_644 rfl rfl rfl (Nat.le_of_ble_eq_true rfl) rfl dX5_any_27 (fun H locs h => ?_)
  refine lv_aload_n hx hb dX5_any_30 rfl (lv_at hl 0 rfl) ?_
  obtain ⟨k5, hg, hf⟩ := bV_inv hf
  refine q_cv (rest := []) (ws' := (wX5_any cI cJ cZ cS a_t a_s a_keptS a_statuses a_pile a_tape a_steps a_wish a_mark a_bitsOf a_sizeOf a_number a_moved v_isKept v_taped k5.1 k5.2.1 k5.2.2.1 k5.2.2.2.1 v_tape k5.2.2.2.2)) (w1 := (wX5_every cI cJ cZ cS a_t a_s a_keptS a_statuses a_pile a_tape a_steps a_wish a_mark a_bitsOf a_sizeOf a_number a_moved v_isKept v_taped k5.1 k5.2.1 k5.2.2.1 k5.2.2.2.1 v_tape k5.2.2.2.2)) fx h [0, 1, 2] rfl rfl rfl rfl (q_runV fx h hl.1 [0, 1, 2] rfl rfl (hgX5_every D cI cJ cZ cS tb a_t a_s a_keptS a_statuses a_pile a_tape a_steps a_wish a_mark a_bitsOf a_sizeOf a_number a_moved H.size v_isKept v_taped u4 v_fault v_laid v_open v_tape v_steps k5 hg) mvX5_every k_761 ⟨rfl, rfl⟩ (room_X5_any_X5_every dd) rfl rfl rfl rfl (Nat.le_of_ble_eq_true rfl) dX5_any_31 ⟨Nat.le_of_ble_eq_true rfl, Nat.le_of_ble_eq_true rfl⟩) (fun H locs h => ?_)
  refine lv_aload_n hx hb dX5_any_34 rfl (lv_at hl 0 rfl) ?_
  refine q_get (v := .ref a_steps) fx inX5 h 0 rfl rfl 6 (by decide) k_642 rfl dX5_any_35 ?_
  refine lv_aload_n hx hb dX5_any_38 rfl (lv_at hl 0 rfl) ?_
  refine q_get (v := .int k5.2.2.1) fx inX5 h 0 rfl rfl 10 (by decide) k_646 rfl dX5_any_39 ?_
  refine lv_sipush (v := 142) hx hb dX5_any_42 (by decide) ?_
  obtain ⟨i6, hf⟩ := gIn_inv hf
  refine q_iast (ws' := (wX5_any cI cJ cZ cS a_t a_s a_keptS a_statuses a_pile a_tape a_steps a_wish a_mark a_bitsOf a_sizeOf a_number a_moved v_isKept v_taped k5.1 k5.2.1 k5.2.2.1 k5.2.2.2.1 v_tape (upd k5.2.2.2.2 k5.2.2.1.toNatClampNeg 142))) fx h 2 rfl i6 rfl dX5_any_45 (fun H locs h => ?_)
  refine lv_aload_n hx hb dX5_any_46 rfl (lv_at hl 0 rfl) ?_
  refine lv_dup hx hb dX5_any_47 rfl ?_
  refine q_get (v := .int k5.2.2.1) fx inX5 h 0 rfl rfl 10 (by decide) k_646 rfl dX5_any_48 ?_
  refine lv_iconst (v := 1) hx hb dX5_any_51 (by decide) ?_
  refine lv_iadd hx hb dX5_any_52 ?_
  obtain ⟨u7, eu7, hf⟩ := nm_inv hf
  refine lv_eqi eu7 ?_
  refine q_put (v := .int u7) (ws' := (wX5_any cI cJ cZ cS a_t a_s a_keptS a_statuses a_pile a_tape a_steps a_wish a_mark a_bitsOf a_sizeOf a_number a_moved v_isKept v_taped k5.1 k5.2.1 u7 k5.2.2.2.1 v_tape (upd k5.2.2.2.2 k5.2.2.1.toNatClampNeg 142))) fx inX5 tyX5 tyX5_ok nmX5 h 0 rfl rfl 10 (by decide) k_646 rfl rfl rfl (Nat.le_of_ble_eq_true rfl) rfl dX5_any_53 (fun H locs h => ?_)
  refine lv_goto (tgt := 4) hx hb dX5_any_56 (by decide) ?_
  exact hag4 h (lv_sub hl [0] rfl) hf
set_option maxRecDepth 100000 in
theorem EX5_any_4 {p : Program} {l : Launch} {e : Env} {s : State} {m : MethodId} {args : Array Value} {below : List Frame} {meth : Method} {c : Code} {D : va_G} {cI cJ cZ cS : ClassId} {tb : Nat} {A : Nat → Prop} {a_t a_s a_keptS a_statuses a_pile a_tape a_steps a_wish a_mark a_bitsOf a_sizeOf a_number a_moved : Nat} {v_isKept : Int32} {v_taped : Int32} {v_tape : Nat → Int32} {kk' : Int32 × Int32 × Int32 × Int32 × (Nat → Int32)} {dd : Nat} {gX5_every : Int32 → Int32 → Int32 → Int32 → Int32 → (Nat → Int32) → (Nat → Int32) → Option (Int32 × Int32 × Int32 × Int32 × (Nat → Int32))} (hgX5_every : ∀ (D : va_G) (cI cJ cZ cS : ClassId) (tb : Nat) (a_t a_s a_keptS a_statuses a_pile a_tape a_steps a_wish a_mark a_bitsOf a_sizeOf a_number a_moved : Nat) (sz : Nat) (v_isKept : Int32) (v_taped : Int32) (v_at : Int32) (v_fault : Int32) (v_laid : Int32) (v_open : Int32) (v_tape : Nat → Int32) (v_steps : Nat → Int32) (kk' : Int32 × Int32 × Int32 × Int32 × (Nat → Int32)) (hf : gX5_every v_taped v_at v_fault v_laid v_open v_tape v_steps = some kk'), Met l yX5_every (Cond.code yX5_every cX5_every 1 none :: wA) (rX5_every dd) (q_Pre D cI cJ cZ cS tb [.ref a_t] sz (wX5_every cI cJ cZ cS a_t a_s a_keptS a_statuses a_pile a_tape a_steps a_wish a_mark a_bitsOf a_sizeOf a_number a_moved v_isKept v_taped v_at v_fault v_laid v_open v_tape v_steps)) (q_Rv D (va_A (wX5_every cI cJ cZ cS a_t a_s a_keptS a_statuses a_pile a_tape a_steps a_wish a_mark a_bitsOf a_sizeOf a_number a_moved v_isKept v_taped v_at v_fault v_laid v_open v_tape v_steps) sz) ((fun k : Int32 × Int32 × Int32 × Int32 × (Nat → Int32) => (wX5_every cI cJ cZ cS a_t a_s a_keptS a_statuses a_pile a_tape a_steps a_wish a_mark a_bitsOf a_sizeOf a_number a_moved v_isKept v_taped k.1 k.2.1 k.2.2.1 k.2.2.2.1 v_tape k.2.2.2.2)) kk')) 0 0 (va_A (wX5_every cI cJ cZ cS a_t a_s a_keptS a_statuses a_pile a_tape a_steps a_wish a_mark a_bitsOf a_sizeOf a_number a_moved v_isKept v_taped v_at v_fault v_laid v_open v_tape v_steps) sz)) (fx : q_Fx p s m args meth c cX5_any 1 RX5 none D cI cJ cZ cS tb A) : ∀ (n : Nat), ∀ {v_at : Int32} {v_fault : Int32} {v_laid : Int32} {v_open : Int32} {v_steps : Nat → Int32} {H : Heap} {locs : List Loc} {ls : Array Slot}, q_H D A s (wX5_any cI cJ cZ cS a_t a_s a_keptS a_statuses a_pile a_tape a_steps a_wish a_mark a_bitsOf a_sizeOf a_number a_moved v_isKept v_taped v_at v_fault v_laid v_open v_tape v_steps) H locs → lv_has ls 1 [(0, .ref a_t)] → ll5 (fX5_any_4 gX5_every v_taped v_tape) n v_at v_fault v_laid v_open v_steps = some kk' → W p l e (rX5_any dd) s m args below meth c H locs 0 0 (MQ below (q_Rv D A ((fun k : Int32 × Int32 × Int32 × Int32 × (Nat → Int32) => (wX5_any cI cJ cZ cS a_t a_s a_keptS a_statuses a_pile a_tape a_steps a_wish a_mark a_bitsOf a_sizeOf a_number a_moved v_isKept v_taped k.1 k.2.1 k.2.2.1 k.2.2.2.1 v_tape k.2.2.2.2)) kk')) args s 0 0 A) (F0 m 4 ls []) := by
  intro n
  induction n with
  | zero => intro v_at v_fault v_laid v_open v_steps H locs ls h hl hf; exact (ll5_z hf).elim
  | succ n ih => intro v_at v_fault v_laid v_open v_steps H locs ls h hl hf; exact LX5_any_4 hgX5_every fx ih h hl (ll5_s hf)
def fX5_any (gX5_every : Int32 → Int32 → Int32 → Int32 → Int32 → (Nat → Int32) → (Nat → Int32) → Option (Int32 × Int32 × Int32 × Int32 × (Nat → Int32))) (v_taped : Int32) (v_at : Int32) (v_fault : Int32) (v_laid : Int32) (v_open : Int32) (v_tape : Nat → Int32) (v_steps : Nat → Int32) : Option (Int32 × Int32 × Int32 × Int32 × (Nat → Int32)) :=
  bV (gX5_every v_taped v_at v_fault v_laid v_open v_tape v_steps) (fun k8 =>
  ll5 (fX5_any_4 gX5_every v_taped v_tape) qF k8.1 k8.2.1 k8.2.2.1 k8.2.2.2.1 k8.2.2.2.2)
set_option maxRecDepth 100000 in
set_option maxHeartbeats 4000000 in
theorem uX5_any (dd : Nat) (l : Launch) {gX5_every : Int32 → Int32 → Int32 → Int32 → Int32 → (Nat → Int32) → (Nat → Int32) → Option (Int32 × Int32 × Int32 × Int32 × (Nat → Int32))} (hgX5_every : ∀ (D : va_G) (cI cJ cZ cS : ClassId) (tb : Nat) (a_t a_s a_keptS a_statuses a_pile a_tape a_steps a_wish a_mark a_bitsOf a_sizeOf a_number a_moved : Nat) (sz : Nat) (v_isKept : Int32) (v_taped : Int32) (v_at : Int32) (v_fault : Int32) (v_laid : Int32) (v_open : Int32) (v_tape : Nat → Int32) (v_steps : Nat → Int32) (kk' : Int32 × Int32 × Int32 × Int32 × (Nat → Int32)) (hf : gX5_every v_taped v_at v_fault v_laid v_open v_tape v_steps = some kk'), Met l yX5_every (Cond.code yX5_every cX5_every 1 none :: wA) (rX5_every dd) (q_Pre D cI cJ cZ cS tb [.ref a_t] sz (wX5_every cI cJ cZ cS a_t a_s a_keptS a_statuses a_pile a_tape a_steps a_wish a_mark a_bitsOf a_sizeOf a_number a_moved v_isKept v_taped v_at v_fault v_laid v_open v_tape v_steps)) (q_Rv D (va_A (wX5_every cI cJ cZ cS a_t a_s a_keptS a_statuses a_pile a_tape a_steps a_wish a_mark a_bitsOf a_sizeOf a_number a_moved v_isKept v_taped v_at v_fault v_laid v_open v_tape v_steps) sz) ((fun k : Int32 × Int32 × Int32 × Int32 × (Nat → Int32) => (wX5_every cI cJ cZ cS a_t a_s a_keptS a_statuses a_pile a_tape a_steps a_wish a_mark a_bitsOf a_sizeOf a_number a_moved v_isKept v_taped k.1 k.2.1 k.2.2.1 k.2.2.2.1 v_tape k.2.2.2.2)) kk')) 0 0 (va_A (wX5_every cI cJ cZ cS a_t a_s a_keptS a_statuses a_pile a_tape a_steps a_wish a_mark a_bitsOf a_sizeOf a_number a_moved v_isKept v_taped v_at v_fault v_laid v_open v_tape v_steps) sz)) (D : va_G) (cI cJ cZ cS : ClassId) (tb : Nat) (a_t a_s a_keptS a_statuses a_pile a_tape a_steps a_wish a_mark a_bitsOf a_sizeOf a_number a_moved : Nat) (sz : Nat) (v_isKept : Int32) (v_taped : Int32) (v_at : Int32) (v_fault : Int32) (v_laid : Int32) (v_open : Int32) (v_tape : Nat → Int32) (v_steps : Nat → Int32) (kk' : Int32 × Int32 × Int32 × Int32 × (Nat → Int32)) (hf : fX5_any gX5_every v_taped v_at v_fault v_laid v_open v_tape v_steps = some kk') : Met l yX5_any (Cond.code yX5_any cX5_any 1 none :: wA) (rX5_any dd) (q_Pre D cI cJ cZ cS tb [.ref a_t] sz (wX5_any cI cJ cZ cS a_t a_s a_keptS a_statuses a_pile a_tape a_steps a_wish a_mark a_bitsOf a_sizeOf a_number a_moved v_isKept v_taped v_at v_fault v_laid v_open v_tape v_steps)) (q_Rv D (va_A (wX5_any cI cJ cZ cS a_t a_s a_keptS a_statuses a_pile a_tape a_steps a_wish a_mark a_bitsOf a_sizeOf a_number a_moved v_isKept v_taped v_at v_fault v_laid v_open v_tape v_steps) sz) ((fun k : Int32 × Int32 × Int32 × Int32 × (Nat → Int32) => (wX5_any cI cJ cZ cS a_t a_s a_keptS a_statuses a_pile a_tape a_steps a_wish a_mark a_bitsOf a_sizeOf a_number a_moved v_isKept v_taped k.1 k.2.1 k.2.2.1 k.2.2.2.1 v_tape k.2.2.2.2)) kk')) 0 0 (va_A (wX5_any cI cJ cZ cS a_t a_s a_keptS a_statuses a_pile a_tape a_steps a_wish a_mark a_bitsOf a_sizeOf a_number a_moved v_isKept v_taped v_at v_fault v_laid v_open v_tape v_steps) sz) := by
  refine q_enter (Qf := fun A => (q_Rv D A ((fun k : Int32 × Int32 × Int32 × Int32 × (Nat → Int32) => (wX5_any cI cJ cZ cS a_t a_s a_keptS a_statuses a_pile a_tape a_steps a_wish a_mark a_bitsOf a_sizeOf a_number a_moved v_isKept v_taped k.1 k.2.1 k.2.2.1 k.2.2.2.1 v_tape k.2.2.2.2)) kk'))) (by decide) rfl (Nat.le_of_ble_eq_true rfl) ?_
  intro p e s m below meth c A ls fx hname h hl
  have hx := fx.1
  have hb := fx.2.1
  have hl : lv_has ls 1 [(0, .ref a_t)] := hl
  generalize h9 : s.heap = H at h ⊢
  clear h9
  generalize h9 : ([] : List Loc) = locs at h ⊢
  clear h9
  unfold fX5_any at hf
  refine lv_aload_n hx hb dX5_any_0 rfl (lv_at hl 0 rfl) ?_
  obtain ⟨k8, hg, hf⟩ := bV_inv hf
  refine q_cv (rest := []) (ws' := (wX5_any cI cJ cZ cS a_t a_s a_keptS a_statuses a_pile a_tape a_steps a_wish a_mark a_bitsOf a_sizeOf a_number a_moved v_isKept v_taped k8.1 k8.2.1 k8.2.2.1 k8.2.2.2.1 v_tape k8.2.2.2.2)) (w1 := (wX5_every cI cJ cZ cS a_t a_s a_keptS a_statuses a_pile a_tape a_steps a_wish a_mark a_bitsOf a_sizeOf a_number a_moved v_isKept v_taped k8.1 k8.2.1 k8.2.2.1 k8.2.2.2.1 v_tape k8.2.2.2.2)) fx h [0, 1, 2] rfl rfl rfl rfl (q_runV fx h hl.1 [0, 1, 2] rfl rfl (hgX5_every D cI cJ cZ cS tb a_t a_s a_keptS a_statuses a_pile a_tape a_steps a_wish a_mark a_bitsOf a_sizeOf a_number a_moved H.size v_isKept v_taped v_at v_fault v_laid v_open v_tape v_steps k8 hg) mvX5_every k_761 ⟨rfl, rfl⟩ (room_X5_any_X5_every dd) rfl rfl rfl rfl (Nat.le_of_ble_eq_true rfl) dX5_any_1 ⟨Nat.le_of_ble_eq_true rfl, Nat.le_of_ble_eq_true rfl⟩) (fun H locs h => ?_)
  exact EX5_any_4 hgX5_every fx qF h (lv_sub hl [0] rfl) hf
def dX5_unit : Nat → Int32 → Int32 → Int32 → Int32 → Int32 → (Nat → Int32) → (Nat → Int32) → Option (Int32 × Int32 × Int32 × Int32 × (Nat → Int32))
  | 0 => fun _ _ _ _ _ _ _ => none
  | d + 1 => fX5_unit (fX5_any (fX5_every (dX5_unit d))) (dX5_unit d)
def dX5_every (d : Nat) : Int32 → Int32 → Int32 → Int32 → Int32 → (Nat → Int32) → (Nat → Int32) → Option (Int32 × Int32 × Int32 × Int32 × (Nat → Int32)) := fX5_every (dX5_unit d)
def dX5_any (d : Nat) : Int32 → Int32 → Int32 → Int32 → Int32 → (Nat → Int32) → (Nat → Int32) → Option (Int32 × Int32 × Int32 × Int32 × (Nat → Int32)) := fX5_any (dX5_every d)
theorem tX5_unit (dd : Nat) (l : Launch) : ∀ (D : va_G) (cI cJ cZ cS : ClassId) (tb : Nat) (a_t a_s a_keptS a_statuses a_pile a_tape a_steps a_wish a_mark a_bitsOf a_sizeOf a_number a_moved : Nat) (sz : Nat) (v_isKept : Int32) (v_taped : Int32) (v_at : Int32) (v_fault : Int32) (v_laid : Int32) (v_open : Int32) (v_tape : Nat → Int32) (v_steps : Nat → Int32) (kk' : Int32 × Int32 × Int32 × Int32 × (Nat → Int32)) (hf : dX5_unit dd v_taped v_at v_fault v_laid v_open v_tape v_steps = some kk'), Met l yX5_unit (Cond.code yX5_unit cX5_unit 2 none :: wA) (rX5_unit dd) (q_Pre D cI cJ cZ cS tb [.ref a_t] sz (wX5_unit cI cJ cZ cS a_t a_s a_keptS a_statuses a_pile a_tape a_steps a_wish a_mark a_bitsOf a_sizeOf a_number a_moved v_isKept v_taped v_at v_fault v_laid v_open v_tape v_steps)) (q_Rv D (va_A (wX5_unit cI cJ cZ cS a_t a_s a_keptS a_statuses a_pile a_tape a_steps a_wish a_mark a_bitsOf a_sizeOf a_number a_moved v_isKept v_taped v_at v_fault v_laid v_open v_tape v_steps) sz) ((fun k : Int32 × Int32 × Int32 × Int32 × (Nat → Int32) => (wX5_unit cI cJ cZ cS a_t a_s a_keptS a_statuses a_pile a_tape a_steps a_wish a_mark a_bitsOf a_sizeOf a_number a_moved v_isKept v_taped k.1 k.2.1 k.2.2.1 k.2.2.2.1 v_tape k.2.2.2.2)) kk')) 0 0 (va_A (wX5_unit cI cJ cZ cS a_t a_s a_keptS a_statuses a_pile a_tape a_steps a_wish a_mark a_bitsOf a_sizeOf a_number a_moved v_isKept v_taped v_at v_fault v_laid v_open v_tape v_steps) sz) := by
  induction dd with
  | zero => intro D cI cJ cZ cS tb a_t a_s a_keptS a_statuses a_pile a_tape a_steps a_wish a_mark a_bitsOf a_sizeOf a_number a_moved sz v_isKept v_taped v_at v_fault v_laid v_open v_tape v_steps kk' hf; have h2 : (none : Option (Int32 × Int32 × Int32 × Int32 × (Nat → Int32))) = some kk' := hf; cases h2
  | succ dd ih => exact uX5_unit dd l (uX5_any dd l (uX5_every dd l ih)) ih
theorem tX5_every (dd : Nat) (l : Launch) : ∀ (D : va_G) (cI cJ cZ cS : ClassId) (tb : Nat) (a_t a_s a_keptS a_statuses a_pile a_tape a_steps a_wish a_mark a_bitsOf a_sizeOf a_number a_moved : Nat) (sz : Nat) (v_isKept : Int32) (v_taped : Int32) (v_at : Int32) (v_fault : Int32) (v_laid : Int32) (v_open : Int32) (v_tape : Nat → Int32) (v_steps : Nat → Int32) (kk' : Int32 × Int32 × Int32 × Int32 × (Nat → Int32)) (hf : dX5_every dd v_taped v_at v_fault v_laid v_open v_tape v_steps = some kk'), Met l yX5_every (Cond.code yX5_every cX5_every 1 none :: wA) (rX5_every dd) (q_Pre D cI cJ cZ cS tb [.ref a_t] sz (wX5_every cI cJ cZ cS a_t a_s a_keptS a_statuses a_pile a_tape a_steps a_wish a_mark a_bitsOf a_sizeOf a_number a_moved v_isKept v_taped v_at v_fault v_laid v_open v_tape v_steps)) (q_Rv D (va_A (wX5_every cI cJ cZ cS a_t a_s a_keptS a_statuses a_pile a_tape a_steps a_wish a_mark a_bitsOf a_sizeOf a_number a_moved v_isKept v_taped v_at v_fault v_laid v_open v_tape v_steps) sz) ((fun k : Int32 × Int32 × Int32 × Int32 × (Nat → Int32) => (wX5_every cI cJ cZ cS a_t a_s a_keptS a_statuses a_pile a_tape a_steps a_wish a_mark a_bitsOf a_sizeOf a_number a_moved v_isKept v_taped k.1 k.2.1 k.2.2.1 k.2.2.2.1 v_tape k.2.2.2.2)) kk')) 0 0 (va_A (wX5_every cI cJ cZ cS a_t a_s a_keptS a_statuses a_pile a_tape a_steps a_wish a_mark a_bitsOf a_sizeOf a_number a_moved v_isKept v_taped v_at v_fault v_laid v_open v_tape v_steps) sz) := uX5_every dd l (tX5_unit dd l)
theorem tX5_any (dd : Nat) (l : Launch) : ∀ (D : va_G) (cI cJ cZ cS : ClassId) (tb : Nat) (a_t a_s a_keptS a_statuses a_pile a_tape a_steps a_wish a_mark a_bitsOf a_sizeOf a_number a_moved : Nat) (sz : Nat) (v_isKept : Int32) (v_taped : Int32) (v_at : Int32) (v_fault : Int32) (v_laid : Int32) (v_open : Int32) (v_tape : Nat → Int32) (v_steps : Nat → Int32) (kk' : Int32 × Int32 × Int32 × Int32 × (Nat → Int32)) (hf : dX5_any dd v_taped v_at v_fault v_laid v_open v_tape v_steps = some kk'), Met l yX5_any (Cond.code yX5_any cX5_any 1 none :: wA) (rX5_any dd) (q_Pre D cI cJ cZ cS tb [.ref a_t] sz (wX5_any cI cJ cZ cS a_t a_s a_keptS a_statuses a_pile a_tape a_steps a_wish a_mark a_bitsOf a_sizeOf a_number a_moved v_isKept v_taped v_at v_fault v_laid v_open v_tape v_steps)) (q_Rv D (va_A (wX5_any cI cJ cZ cS a_t a_s a_keptS a_statuses a_pile a_tape a_steps a_wish a_mark a_bitsOf a_sizeOf a_number a_moved v_isKept v_taped v_at v_fault v_laid v_open v_tape v_steps) sz) ((fun k : Int32 × Int32 × Int32 × Int32 × (Nat → Int32) => (wX5_any cI cJ cZ cS a_t a_s a_keptS a_statuses a_pile a_tape a_steps a_wish a_mark a_bitsOf a_sizeOf a_number a_moved v_isKept v_taped k.1 k.2.1 k.2.2.1 k.2.2.2.1 v_tape k.2.2.2.2)) kk')) 0 0 (va_A (wX5_any cI cJ cZ cS a_t a_s a_keptS a_statuses a_pile a_tape a_steps a_wish a_mark a_bitsOf a_sizeOf a_number a_moved v_isKept v_taped v_at v_fault v_laid v_open v_tape v_steps) sz) := uX5_any dd l (tX5_every dd l)
/-! X5_term -/
abbrev wX5_term (cI cJ cZ cS : ClassId) (a_t a_s a_keptS a_statuses a_pile a_tape a_steps a_wish a_mark a_bitsOf a_sizeOf a_number a_moved : Nat) (v_isKept : Int32) (v_taped : Int32) (v_at : Int32) (v_fault : Int32) (v_laid : Int32) (v_open : Int32) (v_s : Nat → Int32) (v_statuses : Nat → Int32) (v_tape : Nat → Int32) (v_steps : Nat → Int32) : va_W := [(a_t, .inr (5, [.ref a_s, .ref a_keptS, .ref a_statuses, .int v_isKept, .ref a_pile, .ref a_tape, .ref a_steps, .int v_taped, .int v_at, .int v_fault, .int v_laid, .int v_open, .ref a_wish, .ref a_mark, .ref a_bitsOf, .ref a_sizeOf, .ref a_number, .ref a_moved])), (a_s, .inl (cI, 538, .inl v_s)), (a_statuses, .inl (cI, 7, .inl v_statuses)), (a_tape, .inl (cI, 60, .inl v_tape)), (a_steps, .inl (cI, 64, .inl v_steps))]
abbrev rX5_term : Room := { frames := 29, cells := 0, slots := 0, locals := 860 }
def fX5_term_82 (v_tape : Nat → Int32) (ag82 : Int32 → Int32 → Int32 → Int32 → Int32 → (Nat → Int32) → (Nat → Int32) → (Nat → Int32) → Int32 → Int32 → Option (Int32 × Int32 × Int32 × Int32 × Int32 × Int32 × (Nat → Int32) × (Nat → Int32) × (Nat → Int32))) (v_taped : Int32) (v_at : Int32) (v_fault : Int32) (v_laid : Int32) (v_open : Int32) (v_s : Nat → Int32) (v_statuses : Nat → Int32) (v_steps : Nat → Int32) (y1 : Int32) (y2 : Int32) : Option (Int32 × Int32 × Int32 × Int32 × Int32 × Int32 × (Nat → Int32) × (Nat → Int32) × (Nat → Int32)) :=
  (if v_laid ≤ y2 then (
  gIn ((2 + (3 * y1)) + 2) 538 (
  some (1, (v_taped, v_at, v_fault, v_laid, v_open, (upd v_s ((2 + (3 * y1)) + 2).toNatClampNeg v_laid), v_statuses, v_steps))))
  else (
  gIn y2 64 (
  gIn ((26 + (64 * y1)) + y2) 538 (
  nm (y2 + 1) (fun u5 =>
  ag82 v_taped v_at v_fault v_laid v_open (upd v_s ((26 + (64 * y1)) + y2).toNatClampNeg (v_steps y2.toNatClampNeg)) v_statuses v_steps y1 u5)))))
set_option maxRecDepth 100000 in
set_option maxHeartbeats 4000000 in
theorem LX5_term_82 {p : Program} {l : Launch} {e : Env} {s : State} {m : MethodId} {args : Array Value} {below : List Frame} {meth : Method} {c : Code} {D : va_G} {cI cJ cZ cS : ClassId} {tb : Nat} {A : Nat → Prop} {a_t a_s a_keptS a_statuses a_pile a_tape a_steps a_wish a_mark a_bitsOf a_sizeOf a_number a_moved : Nat} {v_isKept : Int32} {v_tape : Nat → Int32} {rr : Int32} {kk' : Int32 × Int32 × Int32 × Int32 × Int32 × (Nat → Int32) × (Nat → Int32) × (Nat → Int32)} (fx : q_Fx p s m args meth c cX5_term 3 RX5 (some .int) D cI cJ cZ cS tb A) {ag82 : Int32 → Int32 → Int32 → Int32 → Int32 → (Nat → Int32) → (Nat → Int32) → (Nat → Int32) → Int32 → Int32 → Option (Int32 × Int32 × Int32 × Int32 × Int32 × Int32 × (Nat → Int32) × (Nat → Int32) × (Nat → Int32))} (hag82 : ∀ {v_taped : Int32} {v_at : Int32} {v_fault : Int32} {v_laid : Int32} {v_open : Int32} {v_s : Nat → Int32} {v_statuses : Nat → Int32} {v_steps : Nat → Int32} {y1 : Int32} {y2 : Int32} {H : Heap} {locs : List Loc} {ls : Array Slot}, q_H D A s (wX5_term cI cJ cZ cS a_t a_s a_keptS a_statuses a_pile a_tape a_steps a_wish a_mark a_bitsOf a_sizeOf a_number a_moved v_isKept v_taped v_at v_fault v_laid v_open v_s v_statuses v_tape v_steps) H locs → lv_has ls 3 [(0, .ref a_t), (1, .int y1), (2, .int y2)] → ag82 v_taped v_at v_fault v_laid v_open v_s v_statuses v_steps y1 y2 = some (rr, kk') → W p l e rX5_term s m args below meth c H locs 0 0 (MQ below (q_Ri D rr A ((fun k : Int32 × Int32 × Int32 × Int32 × Int32 × (Nat → Int32) × (Nat → Int32) × (Nat → Int32) => (wX5_term cI cJ cZ cS a_t a_s a_keptS a_statuses a_pile a_tape a_steps a_wish a_mark a_bitsOf a_sizeOf a_number a_moved v_isKept k.1 k.2.1 k.2.2.1 k.2.2.2.1 k.2.2.2.2.1 k.2.2.2.2.2.1 k.2.2.2.2.2.2.1 v_tape k.2.2.2.2.2.2.2)) kk')) args s 0 0 A) (F0 m 82 ls [])) : ∀ {v_taped : Int32} {v_at : Int32} {v_fault : Int32} {v_laid : Int32} {v_open : Int32} {v_s : Nat → Int32} {v_statuses : Nat → Int32} {v_steps : Nat → Int32} {y1 : Int32} {y2 : Int32} {H : Heap} {locs : List Loc} {ls : Array Slot}, q_H D A s (wX5_term cI cJ cZ cS a_t a_s a_keptS a_statuses a_pile a_tape a_steps a_wish a_mark a_bitsOf a_sizeOf a_number a_moved v_isKept v_taped v_at v_fault v_laid v_open v_s v_statuses v_tape v_steps) H locs → lv_has ls 3 [(0, .ref a_t), (1, .int y1), (2, .int y2)] → fX5_term_82 v_tape ag82 v_taped v_at v_fault v_laid v_open v_s v_statuses v_steps y1 y2 = some (rr, kk') → W p l e rX5_term s m args below meth c H locs 0 0 (MQ below (q_Ri D rr A ((fun k : Int32 × Int32 × Int32 × Int32 × Int32 × (Nat → Int32) × (Nat → Int32) × (Nat → Int32) => (wX5_term cI cJ cZ cS a_t a_s a_keptS a_statuses a_pile a_tape a_steps a_wish a_mark a_bitsOf a_sizeOf a_number a_moved v_isKept k.1 k.2.1 k.2.2.1 k.2.2.2.1 k.2.2.2.2.1 k.2.2.2.2.2.1 k.2.2.2.2.2.2.1 v_tape k.2.2.2.2.2.2.2)) kk')) args s 0 0 A) (F0 m 82 ls []) := by
  intro v_taped v_at v_fault v_laid v_open v_s v_statuses v_steps y1 y2 H locs ls h hl hf
  have hx := fx.1
  have hb := fx.2.1
  unfold fX5_term_82 at hf
  refine lv_iload_n hx hb dX5_term_82 rfl (lv_at hl 2 rfl) ?_
  refine lv_aload_n hx hb dX5_term_83 rfl (lv_at hl 0 rfl) ?_
  refine q_get (v := .int v_laid) fx inX5 h 0 rfl rfl 10 (by decide) k_646 rfl dX5_term_84 ?_
  refine lv_icmp_ge (tgt := 116) hx hb dX5_term_87 (by decide) (fun c1 => ?_) (fun c1 => ?_)
  · have hf := it_t c1 hf
    refine lv_aload_n hx hb dX5_term_116 rfl (lv_at hl 0 rfl) ?_
    refine q_get (v := .ref a_s) fx inX5 h 0 rfl rfl 0 (by decide) k_636 rfl dX5_term_117 ?_
    refine lv_iconst (v := 2) hx hb dX5_term_120 (by decide) ?_
    refine lv_iconst (v := 3) hx hb dX5_term_121 (by decide) ?_
    refine lv_iload_n hx hb dX5_term_122 rfl (lv_at hl 1 rfl) ?_
    refine lv_imul hx hb dX5_term_123 ?_
    refine lv_iadd hx hb dX5_term_124 ?_
    refine lv_iconst (v := 2) hx hb dX5_term_125 (by decide) ?_
    refine lv_iadd hx hb dX5_term_126 ?_
    refine lv_aload_n hx hb dX5_term_127 rfl (lv_at hl 0 rfl) ?_
    refine q_get (v := .int v_laid) fx inX5 h 0 rfl rfl 10 (by decide) k_646 rfl dX5_term_128 ?_
    obtain ⟨i2, hf⟩ := gIn_inv hf
    refine q_iast (ws' := (wX5_term cI cJ cZ cS a_t a_s a_keptS a_statuses a_pile a_tape a_steps a_wish a_mark a_bitsOf a_sizeOf a_number a_moved v_isKept v_taped v_at v_fault v_laid v_open (upd v_s ((2 + (3 * y1)) + 2).toNatClampNeg v_laid) v_statuses v_tape v_steps)) fx h 1 rfl i2 rfl dX5_term_131 (fun H locs h => ?_)
    refine lv_iconst (v := 1) hx hb dX5_term_132 (by decide) ?_
    exact q_reti (fun k : Int32 × Int32 × Int32 × Int32 × Int32 × (Nat → Int32) × (Nat → Int32) × (Nat → Int32) => (wX5_term cI cJ cZ cS a_t a_s a_keptS a_statuses a_pile a_tape a_steps a_wish a_mark a_bitsOf a_sizeOf a_number a_moved v_isKept k.1 k.2.1 k.2.2.1 k.2.2.2.1 k.2.2.2.2.1 k.2.2.2.2.2.1 k.2.2.2.2.2.2.1 v_tape k.2.2.2.2.2.2.2)) fx hf h dX5_term_133
  have hf := it_f c1 hf
  refine lv_aload_n hx hb dX5_term_90 rfl (lv_at hl 0 rfl) ?_
  refine q_get (v := .ref a_s) fx inX5 h 0 rfl rfl 0 (by decide) k_636 rfl dX5_term_91 ?_
  refine lv_bipush (v := 26) hx hb dX5_term_94 (by decide) ?_
  refine lv_bipush (v := 64) hx hb dX5_term_96 (by decide) ?_
  refine lv_iload_n hx hb dX5_term_98 rfl (lv_at hl 1 rfl) ?_
  refine lv_imul hx hb dX5_term_99 ?_
  refine lv_iadd hx hb dX5_term_100 ?_
  refine lv_iload_n hx hb dX5_term_101 rfl (lv_at hl 2 rfl) ?_
  refine lv_iadd hx hb dX5_term_102 ?_
  refine lv_aload_n hx hb dX5_term_103 rfl (lv_at hl 0 rfl) ?_
  refine q_get (v := .ref a_steps) fx inX5 h 0 rfl rfl 6 (by decide) k_642 rfl dX5_term_104 ?_
  refine lv_iload_n hx hb dX5_term_107 rfl (lv_at hl 2 rfl) ?_
  obtain ⟨i3, hf⟩ := gIn_inv hf
  refine q_iald fx h 4 rfl i3 dX5_term_108 ?_
  obtain ⟨i4, hf⟩ := gIn_inv hf
  refine q_iast (ws' := (wX5_term cI cJ cZ cS a_t a_s a_keptS a_statuses a_pile a_tape a_steps a_wish a_mark a_bitsOf a_sizeOf a_number a_moved v_isKept v_taped v_at v_fault v_laid v_open (upd v_s ((26 + (64 * y1)) + y2).toNatClampNeg (v_steps y2.toNatClampNeg)) v_statuses v_tape v_steps)) fx h 1 rfl i4 rfl dX5_term_109 (fun H locs h => ?_)
  obtain ⟨u5, eu5, hf⟩ := nm_inv hf
  refine lv_iinc (v := u5) (lv' := [(2, .int u5), (0, .ref a_t), (1, .int y1)]) hx hb dX5_term_110 hl (k := 2) rfl (by rw [eu5]; rfl) (by decide) rfl (fun ls hl => ?_)
  refine lv_goto (tgt := 82) hx hb dX5_term_113 (by decide) ?_
  exact hag82 h (lv_sub hl [1, 2, 0] rfl) hf
set_option maxRecDepth 100000 in
theorem EX5_term_82 {p : Program} {l : Launch} {e : Env} {s : State} {m : MethodId} {args : Array Value} {below : List Frame} {meth : Method} {c : Code} {D : va_G} {cI cJ cZ cS : ClassId} {tb : Nat} {A : Nat → Prop} {a_t a_s a_keptS a_statuses a_pile a_tape a_steps a_wish a_mark a_bitsOf a_sizeOf a_number a_moved : Nat} {v_isKept : Int32} {v_tape : Nat → Int32} {rr : Int32} {kk' : Int32 × Int32 × Int32 × Int32 × Int32 × (Nat → Int32) × (Nat → Int32) × (Nat → Int32)} (fx : q_Fx p s m args meth c cX5_term 3 RX5 (some .int) D cI cJ cZ cS tb A) : ∀ (n : Nat), ∀ {v_taped : Int32} {v_at : Int32} {v_fault : Int32} {v_laid : Int32} {v_open : Int32} {v_s : Nat → Int32} {v_statuses : Nat → Int32} {v_steps : Nat → Int32} {y1 : Int32} {y2 : Int32} {H : Heap} {locs : List Loc} {ls : Array Slot}, q_H D A s (wX5_term cI cJ cZ cS a_t a_s a_keptS a_statuses a_pile a_tape a_steps a_wish a_mark a_bitsOf a_sizeOf a_number a_moved v_isKept v_taped v_at v_fault v_laid v_open v_s v_statuses v_tape v_steps) H locs → lv_has ls 3 [(0, .ref a_t), (1, .int y1), (2, .int y2)] → ll10 (fX5_term_82 v_tape) n v_taped v_at v_fault v_laid v_open v_s v_statuses v_steps y1 y2 = some (rr, kk') → W p l e rX5_term s m args below meth c H locs 0 0 (MQ below (q_Ri D rr A ((fun k : Int32 × Int32 × Int32 × Int32 × Int32 × (Nat → Int32) × (Nat → Int32) × (Nat → Int32) => (wX5_term cI cJ cZ cS a_t a_s a_keptS a_statuses a_pile a_tape a_steps a_wish a_mark a_bitsOf a_sizeOf a_number a_moved v_isKept k.1 k.2.1 k.2.2.1 k.2.2.2.1 k.2.2.2.2.1 k.2.2.2.2.2.1 k.2.2.2.2.2.2.1 v_tape k.2.2.2.2.2.2.2)) kk')) args s 0 0 A) (F0 m 82 ls []) := by
  intro n
  induction n with
  | zero => intro v_taped v_at v_fault v_laid v_open v_s v_statuses v_steps y1 y2 H locs ls h hl hf; exact (ll10_z hf).elim
  | succ n ih => intro v_taped v_at v_fault v_laid v_open v_s v_statuses v_steps y1 y2 H locs ls h hl hf; exact LX5_term_82 fx ih h hl (ll10_s hf)
def fX5_term_61 (v_tape : Nat → Int32) (v_taped : Int32) (v_at : Int32) (v_fault : Int32) (v_laid : Int32) (v_open : Int32) (v_s : Nat → Int32) (v_statuses : Nat → Int32) (v_steps : Nat → Int32) (y1 : Int32) : Option (Int32 × Int32 × Int32 × Int32 × Int32 × Int32 × (Nat → Int32) × (Nat → Int32) × (Nat → Int32)) :=
  (if v_fault < 0 then (
  ll10 (fX5_term_82 v_tape) qF 0 v_at v_fault v_laid v_open v_s v_statuses v_steps y1 0)
  else (
  some ((-1) - v_fault, (0, v_at, v_fault, v_laid, v_open, v_s, v_statuses, v_steps))))
set_option maxRecDepth 100000 in
set_option maxHeartbeats 4000000 in
theorem LX5_term_61 {p : Program} {l : Launch} {e : Env} {s : State} {m : MethodId} {args : Array Value} {below : List Frame} {meth : Method} {c : Code} {D : va_G} {cI cJ cZ cS : ClassId} {tb : Nat} {A : Nat → Prop} {a_t a_s a_keptS a_statuses a_pile a_tape a_steps a_wish a_mark a_bitsOf a_sizeOf a_number a_moved : Nat} {v_isKept : Int32} {v_tape : Nat → Int32} {rr : Int32} {kk' : Int32 × Int32 × Int32 × Int32 × Int32 × (Nat → Int32) × (Nat → Int32) × (Nat → Int32)} (fx : q_Fx p s m args meth c cX5_term 3 RX5 (some .int) D cI cJ cZ cS tb A) : ∀ {v_taped : Int32} {v_at : Int32} {v_fault : Int32} {v_laid : Int32} {v_open : Int32} {v_s : Nat → Int32} {v_statuses : Nat → Int32} {v_steps : Nat → Int32} {y1 : Int32} {H : Heap} {locs : List Loc} {ls : Array Slot}, q_H D A s (wX5_term cI cJ cZ cS a_t a_s a_keptS a_statuses a_pile a_tape a_steps a_wish a_mark a_bitsOf a_sizeOf a_number a_moved v_isKept v_taped v_at v_fault v_laid v_open v_s v_statuses v_tape v_steps) H locs → lv_has ls 3 [(0, .ref a_t), (1, .int y1)] → fX5_term_61 v_tape v_taped v_at v_fault v_laid v_open v_s v_statuses v_steps y1 = some (rr, kk') → W p l e rX5_term s m args below meth c H locs 0 0 (MQ below (q_Ri D rr A ((fun k : Int32 × Int32 × Int32 × Int32 × Int32 × (Nat → Int32) × (Nat → Int32) × (Nat → Int32) => (wX5_term cI cJ cZ cS a_t a_s a_keptS a_statuses a_pile a_tape a_steps a_wish a_mark a_bitsOf a_sizeOf a_number a_moved v_isKept k.1 k.2.1 k.2.2.1 k.2.2.2.1 k.2.2.2.2.1 k.2.2.2.2.2.1 k.2.2.2.2.2.2.1 v_tape k.2.2.2.2.2.2.2)) kk')) args s 0 0 A) (F0 m 61 ls []) := by
  intro v_taped v_at v_fault v_laid v_open v_s v_statuses v_steps y1 H locs ls h hl hf
  have hx := fx.1
  have hb := fx.2.1
  unfold fX5_term_61 at hf
  refine lv_aload_n hx hb dX5_term_61 rfl (lv_at hl 0 rfl) ?_
  refine lv_iconst (v := 0) hx hb dX5_term_62 (by decide) ?_
  refine q_put (v := .int 0) (ws' := (wX5_term cI cJ cZ cS a_t a_s a_keptS a_statuses a_pile a_tape a_steps a_wish a_mark a_bitsOf a_sizeOf a_number a_moved v_isKept 0 v_at v_fault v_laid v_open v_s v_statuses v_tape v_steps)) fx inX5 tyX5 tyX5_ok nmX5 h 0 rfl rfl 7 (by decide) k_643 rfl rfl rfl (Nat.le_of_ble_eq_true rfl) rfl dX5_term_63 (fun H locs h => ?_)
  refine lv_aload_n hx hb dX5_term_66 rfl (lv_at hl 0 rfl) ?_
  refine q_get (v := .int v_fault) fx inX5 h 0 rfl rfl 9 (by decide) k_645 rfl dX5_term_67 ?_
  refine lv_if_lt (tgt := 80) hx hb dX5_term_70 (by decide) (fun c6 => ?_) (fun c6 => ?_)
  · have hf := it_t c6 hf
    refine lv_iconst (v := 0) hx hb dX5_term_80 (by decide) ?_
    refine lv_istore_n (lv' := [(2, .int 0), (0, .ref a_t), (1, .int y1)]) hx hb dX5_term_81 rfl hl (by decide) rfl (fun ls hl => ?_)
    exact EX5_term_82 fx qF h (lv_sub hl [1, 2, 0] rfl) hf
  have hf := it_f c6 hf
  refine lv_iconst (v := -1) hx hb dX5_term_73 (by decide) ?_
  refine lv_aload_n hx hb dX5_term_74 rfl (lv_at hl 0 rfl) ?_
  refine q_get (v := .int v_fault) fx inX5 h 0 rfl rfl 9 (by decide) k_645 rfl dX5_term_75 ?_
  refine lv_isub hx hb dX5_term_78 ?_
  exact q_reti (fun k : Int32 × Int32 × Int32 × Int32 × Int32 × (Nat → Int32) × (Nat → Int32) × (Nat → Int32) => (wX5_term cI cJ cZ cS a_t a_s a_keptS a_statuses a_pile a_tape a_steps a_wish a_mark a_bitsOf a_sizeOf a_number a_moved v_isKept k.1 k.2.1 k.2.2.1 k.2.2.2.1 k.2.2.2.2.1 k.2.2.2.2.2.1 k.2.2.2.2.2.2.1 v_tape k.2.2.2.2.2.2.2)) fx hf h dX5_term_79
def fX5_term (v_taped : Int32) (v_at : Int32) (v_fault : Int32) (v_laid : Int32) (v_open : Int32) (v_s : Nat → Int32) (v_statuses : Nat → Int32) (v_tape : Nat → Int32) (v_steps : Nat → Int32) (x1 : Int32) : Option (Int32 × Int32 × Int32 × Int32 × Int32 × Int32 × (Nat → Int32) × (Nat → Int32) × (Nat → Int32)) :=
  bR (fX5_isGuest v_s x1) (fun r7 k7 =>
  (if r7 = 0 then (
  bR (fX5_finds v_statuses (-1000000001)) (fun r13 k13 =>
  some (r13, (v_taped, v_at, v_fault, v_laid, v_open, v_s, k13, v_steps))))
  else (
  bV (dX5_any 8 v_taped 0 (-1) 0 0 v_tape v_steps) (fun k9 =>
  (if (0 : Int32) ≤ k9.2.1 then (
  fX5_term_61 v_tape v_taped k9.1 k9.2.1 k9.2.2.1 k9.2.2.2.1 v_s v_statuses k9.2.2.2.2 x1)
  else (
  (if v_taped ≤ k9.1 then (
  fX5_term_61 v_tape v_taped k9.1 k9.2.1 k9.2.2.1 k9.2.2.2.1 v_s v_statuses k9.2.2.2.2 x1)
  else (
  bV (fX5_faulty k9.1 k9.2.1) (fun k12 =>
  fX5_term_61 v_tape v_taped k9.1 k12 k9.2.2.1 k9.2.2.2.1 v_s v_statuses k9.2.2.2.2 x1)))))))))
set_option maxRecDepth 100000 in
set_option maxHeartbeats 4000000 in
theorem tX5_term (l : Launch) (D : va_G) (cI cJ cZ cS : ClassId) (tb : Nat) (a_t a_s a_keptS a_statuses a_pile a_tape a_steps a_wish a_mark a_bitsOf a_sizeOf a_number a_moved : Nat) (sz : Nat) (v_isKept : Int32) (v_taped : Int32) (v_at : Int32) (v_fault : Int32) (v_laid : Int32) (v_open : Int32) (v_s : Nat → Int32) (v_statuses : Nat → Int32) (v_tape : Nat → Int32) (v_steps : Nat → Int32) (x1 : Int32) (rr : Int32) (kk' : Int32 × Int32 × Int32 × Int32 × Int32 × (Nat → Int32) × (Nat → Int32) × (Nat → Int32)) (hf : fX5_term v_taped v_at v_fault v_laid v_open v_s v_statuses v_tape v_steps x1 = some (rr, kk')) : Met l yX5_term (Cond.code yX5_term cX5_term 3 (some .int) :: wA) rX5_term (q_Pre D cI cJ cZ cS tb [.ref a_t, .int x1] sz (wX5_term cI cJ cZ cS a_t a_s a_keptS a_statuses a_pile a_tape a_steps a_wish a_mark a_bitsOf a_sizeOf a_number a_moved v_isKept v_taped v_at v_fault v_laid v_open v_s v_statuses v_tape v_steps)) (q_Ri D rr (va_A (wX5_term cI cJ cZ cS a_t a_s a_keptS a_statuses a_pile a_tape a_steps a_wish a_mark a_bitsOf a_sizeOf a_number a_moved v_isKept v_taped v_at v_fault v_laid v_open v_s v_statuses v_tape v_steps) sz) ((fun k : Int32 × Int32 × Int32 × Int32 × Int32 × (Nat → Int32) × (Nat → Int32) × (Nat → Int32) => (wX5_term cI cJ cZ cS a_t a_s a_keptS a_statuses a_pile a_tape a_steps a_wish a_mark a_bitsOf a_sizeOf a_number a_moved v_isKept k.1 k.2.1 k.2.2.1 k.2.2.2.1 k.2.2.2.2.1 k.2.2.2.2.2.1 k.2.2.2.2.2.2.1 v_tape k.2.2.2.2.2.2.2)) kk')) 0 0 (va_A (wX5_term cI cJ cZ cS a_t a_s a_keptS a_statuses a_pile a_tape a_steps a_wish a_mark a_bitsOf a_sizeOf a_number a_moved v_isKept v_taped v_at v_fault v_laid v_open v_s v_statuses v_tape v_steps) sz) := by
  refine q_enter (Qf := fun A => (q_Ri D rr A ((fun k : Int32 × Int32 × Int32 × Int32 × Int32 × (Nat → Int32) × (Nat → Int32) × (Nat → Int32) => (wX5_term cI cJ cZ cS a_t a_s a_keptS a_statuses a_pile a_tape a_steps a_wish a_mark a_bitsOf a_sizeOf a_number a_moved v_isKept k.1 k.2.1 k.2.2.1 k.2.2.2.1 k.2.2.2.2.1 k.2.2.2.2.2.1 k.2.2.2.2.2.2.1 v_tape k.2.2.2.2.2.2.2)) kk'))) (by decide) rfl (Nat.le_of_ble_eq_true rfl) ?_
  intro p e s m below meth c A ls fx hname h hl
  have hx := fx.1
  have hb := fx.2.1
  have hl : lv_has ls 3 [(0, .ref a_t), (1, .int x1)] := hl
  generalize h9 : s.heap = H at h ⊢
  clear h9
  generalize h9 : ([] : List Loc) = locs at h ⊢
  clear h9
  unfold fX5_term at hf
  refine lv_aload_n hx hb dX5_term_0 rfl (lv_at hl 0 rfl) ?_
  refine lv_iload_n hx hb dX5_term_1 rfl (lv_at hl 1 rfl) ?_
  obtain ⟨r7, k7, hg, hf⟩ := bR_inv hf
  refine q_ci (rest := []) (ws' := (wX5_term cI cJ cZ cS a_t a_s a_keptS a_statuses a_pile a_tape a_steps a_wish a_mark a_bitsOf a_sizeOf a_number a_moved v_isKept v_taped v_at v_fault v_laid v_open v_s v_statuses v_tape v_steps)) (w1 := (wX5_isGuest cI cJ cZ cS a_t a_s a_keptS a_statuses a_pile a_tape a_steps a_wish a_mark a_bitsOf a_sizeOf a_number a_moved v_isKept v_taped v_at v_fault v_laid v_open v_s)) fx h [0, 1] rfl rfl rfl rfl (q_runV fx h hl.1 [0, 1] rfl rfl (tX5_isGuest l D cI cJ cZ cS tb a_t a_s a_keptS a_statuses a_pile a_tape a_steps a_wish a_mark a_bitsOf a_sizeOf a_number a_moved H.size v_isKept v_taped v_at v_fault v_laid v_open v_s x1 r7 k7 hg) mvX5_isGuest k_711 ⟨rfl, rfl⟩ ⟨Nat.le_of_ble_eq_true rfl, Nat.le_of_ble_eq_true rfl⟩ rfl rfl rfl rfl (Nat.le_of_ble_eq_true rfl) dX5_term_2 ⟨Nat.le_of_ble_eq_true rfl, Nat.le_of_ble_eq_true rfl⟩) (fun H locs h => ?_)
  refine lv_if_ne (tgt := 15) hx hb dX5_term_5 (by decide) (fun c8 => ?_) (fun c8 => ?_)
  · have hf := it_f c8 hf
    refine lv_aload_n hx hb dX5_term_15 rfl (lv_at hl 0 rfl) ?_
    refine lv_iconst (v := 0) hx hb dX5_term_16 (by decide) ?_
    refine q_put (v := .int 0) (ws' := (wX5_term cI cJ cZ cS a_t a_s a_keptS a_statuses a_pile a_tape a_steps a_wish a_mark a_bitsOf a_sizeOf a_number a_moved v_isKept v_taped 0 v_fault v_laid v_open v_s v_statuses v_tape v_steps)) fx inX5 tyX5 tyX5_ok nmX5 h 0 rfl rfl 8 (by decide) k_644 rfl rfl rfl (Nat.le_of_ble_eq_true rfl) rfl dX5_term_17 (fun H locs h => ?_)
    refine lv_aload_n hx hb dX5_term_20 rfl (lv_at hl 0 rfl) ?_
    refine lv_iconst (v := -1) hx hb dX5_term_21 (by decide) ?_
    refine q_put (v := .int (-1)) (ws' := (wX5_term cI cJ cZ cS a_t a_s a_keptS a_statuses a_pile a_tape a_steps a_wish a_mark a_bitsOf a_sizeOf a_number a_moved v_isKept v_taped 0 (-1) v_laid v_open v_s v_statuses v_tape v_steps)) fx inX5 tyX5 tyX5_ok nmX5 h 0 rfl rfl 9 (by decide) k_645 rfl rfl rfl (Nat.le_of_ble_eq_true rfl) rfl dX5_term_22 (fun H locs h => ?_)
    refine lv_aload_n hx hb dX5_term_25 rfl (lv_at hl 0 rfl) ?_
    refine lv_iconst (v := 0) hx hb dX5_term_26 (by decide) ?_
    refine q_put (v := .int 0) (ws' := (wX5_term cI cJ cZ cS a_t a_s a_keptS a_statuses a_pile a_tape a_steps a_wish a_mark a_bitsOf a_sizeOf a_number a_moved v_isKept v_taped 0 (-1) 0 v_open v_s v_statuses v_tape v_steps)) fx inX5 tyX5 tyX5_ok nmX5 h 0 rfl rfl 10 (by decide) k_646 rfl rfl rfl (Nat.le_of_ble_eq_true rfl) rfl dX5_term_27 (fun H locs h => ?_)
    refine lv_aload_n hx hb dX5_term_30 rfl (lv_at hl 0 rfl) ?_
    refine lv_iconst (v := 0) hx hb dX5_term_31 (by decide) ?_
    refine q_put (v := .int 0) (ws' := (wX5_term cI cJ cZ cS a_t a_s a_keptS a_statuses a_pile a_tape a_steps a_wish a_mark a_bitsOf a_sizeOf a_number a_moved v_isKept v_taped 0 (-1) 0 0 v_s v_statuses v_tape v_steps)) fx inX5 tyX5 tyX5_ok nmX5 h 0 rfl rfl 11 (by decide) k_647 rfl rfl rfl (Nat.le_of_ble_eq_true rfl) rfl dX5_term_32 (fun H locs h => ?_)
    refine lv_aload_n hx hb dX5_term_35 rfl (lv_at hl 0 rfl) ?_
    obtain ⟨k9, hg, hf⟩ := bV_inv hf
    refine q_cv (rest := []) (ws' := (wX5_term cI cJ cZ cS a_t a_s a_keptS a_statuses a_pile a_tape a_steps a_wish a_mark a_bitsOf a_sizeOf a_number a_moved v_isKept v_taped k9.1 k9.2.1 k9.2.2.1 k9.2.2.2.1 v_s v_statuses v_tape k9.2.2.2.2)) (w1 := (wX5_any cI cJ cZ cS a_t a_s a_keptS a_statuses a_pile a_tape a_steps a_wish a_mark a_bitsOf a_sizeOf a_number a_moved v_isKept v_taped k9.1 k9.2.1 k9.2.2.1 k9.2.2.2.1 v_tape k9.2.2.2.2)) fx h [0, 3, 4] rfl rfl rfl rfl (q_runV fx h hl.1 [0, 3, 4] rfl rfl (tX5_any 8 l D cI cJ cZ cS tb a_t a_s a_keptS a_statuses a_pile a_tape a_steps a_wish a_mark a_bitsOf a_sizeOf a_number a_moved H.size v_isKept v_taped 0 (-1) 0 0 v_tape v_steps k9 hg) mvX5_any k_757 ⟨rfl, rfl⟩ ⟨Nat.le_of_ble_eq_true rfl, Nat.le_of_ble_eq_true rfl⟩ rfl rfl rfl rfl (Nat.le_of_ble_eq_true rfl) dX5_term_36 ⟨Nat.le_of_ble_eq_true rfl, Nat.le_of_ble_eq_true rfl⟩) (fun H locs h => ?_)
    refine lv_aload_n hx hb dX5_term_39 rfl (lv_at hl 0 rfl) ?_
    refine q_get (v := .int k9.2.1) fx inX5 h 0 rfl rfl 9 (by decide) k_645 rfl dX5_term_40 ?_
    refine lv_if_ge (tgt := 61) hx hb dX5_term_43 (by decide) (fun c10 => ?_) (fun c10 => ?_)
    · have hf := it_t c10 hf
      exact LX5_term_61 fx h (lv_sub hl [0, 1] rfl) hf
    have hf := it_f c10 hf
    refine lv_aload_n hx hb dX5_term_46 rfl (lv_at hl 0 rfl) ?_
    refine q_get (v := .int k9.1) fx inX5 h 0 rfl rfl 8 (by decide) k_644 rfl dX5_term_47 ?_
    refine lv_aload_n hx hb dX5_term_50 rfl (lv_at hl 0 rfl) ?_
    refine q_get (v := .int v_taped) fx inX5 h 0 rfl rfl 7 (by decide) k_643 rfl dX5_term_51 ?_
    refine lv_icmp_ge (tgt := 61) hx hb dX5_term_54 (by decide) (fun c11 => ?_) (fun c11 => ?_)
    · have hf := it_t c11 hf
      exact LX5_term_61 fx h (lv_sub hl [0, 1] rfl) hf
    have hf := it_f c11 hf
    refine lv_aload_n hx hb dX5_term_57 rfl (lv_at hl 0 rfl) ?_
    obtain ⟨k12, hg, hf⟩ := bV_inv hf
    refine q_cv (rest := []) (ws' := (wX5_term cI cJ cZ cS a_t a_s a_keptS a_statuses a_pile a_tape a_steps a_wish a_mark a_bitsOf a_sizeOf a_number a_moved v_isKept v_taped k9.1 k12 k9.2.2.1 k9.2.2.2.1 v_s v_statuses v_tape k9.2.2.2.2)) (w1 := (wX5_faulty cI cJ cZ cS a_t a_s a_keptS a_statuses a_pile a_tape a_steps a_wish a_mark a_bitsOf a_sizeOf a_number a_moved v_isKept v_taped k9.1 k12 k9.2.2.1 k9.2.2.2.1)) fx h [0] rfl rfl rfl rfl (q_runV fx h hl.1 [0] rfl rfl (tX5_faulty l D cI cJ cZ cS tb a_t a_s a_keptS a_statuses a_pile a_tape a_steps a_wish a_mark a_bitsOf a_sizeOf a_number a_moved H.size v_isKept v_taped k9.1 k9.2.1 k9.2.2.1 k9.2.2.2.1 k12 hg) mvX5_faulty k_783 ⟨rfl, rfl⟩ ⟨Nat.le_of_ble_eq_true rfl, Nat.le_of_ble_eq_true rfl⟩ rfl rfl rfl rfl (Nat.le_of_ble_eq_true rfl) dX5_term_58 ⟨Nat.le_of_ble_eq_true rfl, Nat.le_of_ble_eq_true rfl⟩) (fun H locs h => ?_)
    exact LX5_term_61 fx h (lv_sub hl [0, 1] rfl) hf
  have hf := it_t c8 hf
  refine lv_aload_n hx hb dX5_term_8 rfl (lv_at hl 0 rfl) ?_
  refine q_ldc fx k_701 dX5_term_9 ?_
  obtain ⟨r13, k13, hg, hf⟩ := bR_inv hf
  refine q_ci (rest := []) (ws' := (wX5_term cI cJ cZ cS a_t a_s a_keptS a_statuses a_pile a_tape a_steps a_wish a_mark a_bitsOf a_sizeOf a_number a_moved v_isKept v_taped v_at v_fault v_laid v_open v_s k13 v_tape v_steps)) (w1 := (wX5_finds cI cJ cZ cS a_t a_s a_keptS a_statuses a_pile a_tape a_steps a_wish a_mark a_bitsOf a_sizeOf a_number a_moved v_isKept v_taped v_at v_fault v_laid v_open k13)) fx h [0, 2] rfl rfl rfl rfl (q_runV fx h hl.1 [0, 2] rfl rfl (tX5_finds l D cI cJ cZ cS tb a_t a_s a_keptS a_statuses a_pile a_tape a_steps a_wish a_mark a_bitsOf a_sizeOf a_number a_moved H.size v_isKept v_taped v_at v_fault v_laid v_open v_statuses (-1000000001) r13 k13 hg) mvX5_finds k_702 ⟨rfl, rfl⟩ ⟨Nat.le_of_ble_eq_true rfl, Nat.le_of_ble_eq_true rfl⟩ rfl rfl rfl rfl (Nat.le_of_ble_eq_true rfl) dX5_term_11 ⟨Nat.le_of_ble_eq_true rfl, Nat.le_of_ble_eq_true rfl⟩) (fun H locs h => ?_)
  exact q_reti (fun k : Int32 × Int32 × Int32 × Int32 × Int32 × (Nat → Int32) × (Nat → Int32) × (Nat → Int32) => (wX5_term cI cJ cZ cS a_t a_s a_keptS a_statuses a_pile a_tape a_steps a_wish a_mark a_bitsOf a_sizeOf a_number a_moved v_isKept k.1 k.2.1 k.2.2.1 k.2.2.2.1 k.2.2.2.2.1 k.2.2.2.2.2.1 k.2.2.2.2.2.2.1 v_tape k.2.2.2.2.2.2.2)) fx hf h dX5_term_14
/-! X5_feed -/
abbrev wX5_feed (cI cJ cZ cS : ClassId) (a_t a_s a_keptS a_statuses a_pile a_tape a_steps a_wish a_mark a_bitsOf a_sizeOf a_number a_moved : Nat) (v_isKept : Int32) (v_taped : Int32) (v_at : Int32) (v_fault : Int32) (v_laid : Int32) (v_open : Int32) (v_statuses : Nat → Int32) (v_tape : Nat → Int32) : va_W := [(a_t, .inr (5, [.ref a_s, .ref a_keptS, .ref a_statuses, .int v_isKept, .ref a_pile, .ref a_tape, .ref a_steps, .int v_taped, .int v_at, .int v_fault, .int v_laid, .int v_open, .ref a_wish, .ref a_mark, .ref a_bitsOf, .ref a_sizeOf, .ref a_number, .ref a_moved])), (a_statuses, .inl (cI, 7, .inl v_statuses)), (a_tape, .inl (cI, 60, .inl v_tape))]
abbrev rX5_feed : Room := { frames := 1, cells := 0, slots := 0, locals := 25 }
def fX5_feed_41 (ag41 : Int32 → (Nat → Int32) → (Nat → Int32) → Int32 → Int32 → Option (Int32 × Int32 × (Nat → Int32) × (Nat → Int32))) (v_taped : Int32) (v_statuses : Nat → Int32) (v_tape : Nat → Int32) (y1 : Int32) (y3 : Int32) : Option (Int32 × Int32 × (Nat → Int32) × (Nat → Int32)) :=
  (if y3 < 0 then (
  some (v_taped, (v_taped, v_statuses, v_tape)))
  else (
  gIn v_taped 60 (
  nm (v_taped + 1) (fun u3 =>
  nm (y3 + (-1)) (fun u4 =>
  ag41 u3 v_statuses (upd v_tape v_taped.toNatClampNeg ((jshr y1 (8 * y3)) &&& 255)) y1 u4)))))
set_option maxRecDepth 100000 in
set_option maxHeartbeats 4000000 in
theorem LX5_feed_41 {p : Program} {l : Launch} {e : Env} {s : State} {m : MethodId} {args : Array Value} {below : List Frame} {meth : Method} {c : Code} {D : va_G} {cI cJ cZ cS : ClassId} {tb : Nat} {A : Nat → Prop} {a_t a_s a_keptS a_statuses a_pile a_tape a_steps a_wish a_mark a_bitsOf a_sizeOf a_number a_moved : Nat} {v_isKept : Int32} {v_at : Int32} {v_fault : Int32} {v_laid : Int32} {v_open : Int32} {rr : Int32} {kk' : Int32 × (Nat → Int32) × (Nat → Int32)} (fx : q_Fx p s m args meth c cX5_feed 4 RX5 (some .int) D cI cJ cZ cS tb A) {ag41 : Int32 → (Nat → Int32) → (Nat → Int32) → Int32 → Int32 → Option (Int32 × Int32 × (Nat → Int32) × (Nat → Int32))} (hag41 : ∀ {v_taped : Int32} {v_statuses : Nat → Int32} {v_tape : Nat → Int32} {y1 : Int32} {y3 : Int32} {H : Heap} {locs : List Loc} {ls : Array Slot}, q_H D A s (wX5_feed cI cJ cZ cS a_t a_s a_keptS a_statuses a_pile a_tape a_steps a_wish a_mark a_bitsOf a_sizeOf a_number a_moved v_isKept v_taped v_at v_fault v_laid v_open v_statuses v_tape) H locs → lv_has ls 4 [(0, .ref a_t), (1, .int y1), (3, .int y3)] → ag41 v_taped v_statuses v_tape y1 y3 = some (rr, kk') → W p l e rX5_feed s m args below meth c H locs 0 0 (MQ below (q_Ri D rr A ((fun k : Int32 × (Nat → Int32) × (Nat → Int32) => (wX5_feed cI cJ cZ cS a_t a_s a_keptS a_statuses a_pile a_tape a_steps a_wish a_mark a_bitsOf a_sizeOf a_number a_moved v_isKept k.1 v_at v_fault v_laid v_open k.2.1 k.2.2)) kk')) args s 0 0 A) (F0 m 41 ls [])) : ∀ {v_taped : Int32} {v_statuses : Nat → Int32} {v_tape : Nat → Int32} {y1 : Int32} {y3 : Int32} {H : Heap} {locs : List Loc} {ls : Array Slot}, q_H D A s (wX5_feed cI cJ cZ cS a_t a_s a_keptS a_statuses a_pile a_tape a_steps a_wish a_mark a_bitsOf a_sizeOf a_number a_moved v_isKept v_taped v_at v_fault v_laid v_open v_statuses v_tape) H locs → lv_has ls 4 [(0, .ref a_t), (1, .int y1), (3, .int y3)] → fX5_feed_41 ag41 v_taped v_statuses v_tape y1 y3 = some (rr, kk') → W p l e rX5_feed s m args below meth c H locs 0 0 (MQ below (q_Ri D rr A ((fun k : Int32 × (Nat → Int32) × (Nat → Int32) => (wX5_feed cI cJ cZ cS a_t a_s a_keptS a_statuses a_pile a_tape a_steps a_wish a_mark a_bitsOf a_sizeOf a_number a_moved v_isKept k.1 v_at v_fault v_laid v_open k.2.1 k.2.2)) kk')) args s 0 0 A) (F0 m 41 ls []) := by
  intro v_taped v_statuses v_tape y1 y3 H locs ls h hl hf
  have hx := fx.1
  have hb := fx.2.1
  unfold fX5_feed_41 at hf
  refine lv_iload_n hx hb dX5_feed_41 rfl (lv_at hl 2 rfl) ?_
  refine lv_if_lt (tgt := 80) hx hb dX5_feed_42 (by decide) (fun c1 => ?_) (fun c1 => ?_)
  · have hf := it_t c1 hf
    refine lv_aload_n hx hb dX5_feed_80 rfl (lv_at hl 0 rfl) ?_
    refine q_get (v := .int v_taped) fx inX5 h 0 rfl rfl 7 (by decide) k_643 rfl dX5_feed_81 ?_
    exact q_reti (fun k : Int32 × (Nat → Int32) × (Nat → Int32) => (wX5_feed cI cJ cZ cS a_t a_s a_keptS a_statuses a_pile a_tape a_steps a_wish a_mark a_bitsOf a_sizeOf a_number a_moved v_isKept k.1 v_at v_fault v_laid v_open k.2.1 k.2.2)) fx hf h dX5_feed_84
  have hf := it_f c1 hf
  refine lv_aload_n hx hb dX5_feed_45 rfl (lv_at hl 0 rfl) ?_
  refine q_get (v := .ref a_tape) fx inX5 h 0 rfl rfl 5 (by decide) k_641 rfl dX5_feed_46 ?_
  refine lv_aload_n hx hb dX5_feed_49 rfl (lv_at hl 0 rfl) ?_
  refine q_get (v := .int v_taped) fx inX5 h 0 rfl rfl 7 (by decide) k_643 rfl dX5_feed_50 ?_
  refine lv_iload_n hx hb dX5_feed_53 rfl (lv_at hl 1 rfl) ?_
  refine lv_bipush (v := 8) hx hb dX5_feed_54 (by decide) ?_
  refine lv_iload_n hx hb dX5_feed_56 rfl (lv_at hl 2 rfl) ?_
  refine lv_imul hx hb dX5_feed_57 ?_
  refine lv_ishr hx hb dX5_feed_58 ?_
  refine lv_sipush (v := 255) hx hb dX5_feed_59 (by decide) ?_
  refine lv_iand hx hb dX5_feed_62 ?_
  obtain ⟨i2, hf⟩ := gIn_inv hf
  refine q_iast (ws' := (wX5_feed cI cJ cZ cS a_t a_s a_keptS a_statuses a_pile a_tape a_steps a_wish a_mark a_bitsOf a_sizeOf a_number a_moved v_isKept v_taped v_at v_fault v_laid v_open v_statuses (upd v_tape v_taped.toNatClampNeg ((jshr y1 (8 * y3)) &&& 255)))) fx h 2 rfl i2 rfl dX5_feed_63 (fun H locs h => ?_)
  refine lv_aload_n hx hb dX5_feed_64 rfl (lv_at hl 0 rfl) ?_
  refine lv_dup hx hb dX5_feed_65 rfl ?_
  refine q_get (v := .int v_taped) fx inX5 h 0 rfl rfl 7 (by decide) k_643 rfl dX5_feed_66 ?_
  refine lv_iconst (v := 1) hx hb dX5_feed_69 (by decide) ?_
  refine lv_iadd hx hb dX5_feed_70 ?_
  obtain ⟨u3, eu3, hf⟩ := nm_inv hf
  refine lv_eqi eu3 ?_
  refine q_put (v := .int u3) (ws' := (wX5_feed cI cJ cZ cS a_t a_s a_keptS a_statuses a_pile a_tape a_steps a_wish a_mark a_bitsOf a_sizeOf a_number a_moved v_isKept u3 v_at v_fault v_laid v_open v_statuses (upd v_tape v_taped.toNatClampNeg ((jshr y1 (8 * y3)) &&& 255)))) fx inX5 tyX5 tyX5_ok nmX5 h 0 rfl rfl 7 (by decide) k_643 rfl rfl rfl (Nat.le_of_ble_eq_true rfl) rfl dX5_feed_71 (fun H locs h => ?_)
  obtain ⟨u4, eu4, hf⟩ := nm_inv hf
  refine lv_iinc (v := u4) (lv' := [(3, .int u4), (0, .ref a_t), (1, .int y1)]) hx hb dX5_feed_74 hl (k := 2) rfl (by rw [eu4]; rfl) (by decide) rfl (fun ls hl => ?_)
  refine lv_goto (tgt := 41) hx hb dX5_feed_77 (by decide) ?_
  exact hag41 h (lv_sub hl [1, 2, 0] rfl) hf
set_option maxRecDepth 100000 in
theorem EX5_feed_41 {p : Program} {l : Launch} {e : Env} {s : State} {m : MethodId} {args : Array Value} {below : List Frame} {meth : Method} {c : Code} {D : va_G} {cI cJ cZ cS : ClassId} {tb : Nat} {A : Nat → Prop} {a_t a_s a_keptS a_statuses a_pile a_tape a_steps a_wish a_mark a_bitsOf a_sizeOf a_number a_moved : Nat} {v_isKept : Int32} {v_at : Int32} {v_fault : Int32} {v_laid : Int32} {v_open : Int32} {rr : Int32} {kk' : Int32 × (Nat → Int32) × (Nat → Int32)} (fx : q_Fx p s m args meth c cX5_feed 4 RX5 (some .int) D cI cJ cZ cS tb A) : ∀ (n : Nat), ∀ {v_taped : Int32} {v_statuses : Nat → Int32} {v_tape : Nat → Int32} {y1 : Int32} {y3 : Int32} {H : Heap} {locs : List Loc} {ls : Array Slot}, q_H D A s (wX5_feed cI cJ cZ cS a_t a_s a_keptS a_statuses a_pile a_tape a_steps a_wish a_mark a_bitsOf a_sizeOf a_number a_moved v_isKept v_taped v_at v_fault v_laid v_open v_statuses v_tape) H locs → lv_has ls 4 [(0, .ref a_t), (1, .int y1), (3, .int y3)] → ll5 (fX5_feed_41 ) n v_taped v_statuses v_tape y1 y3 = some (rr, kk') → W p l e rX5_feed s m args below meth c H locs 0 0 (MQ below (q_Ri D rr A ((fun k : Int32 × (Nat → Int32) × (Nat → Int32) => (wX5_feed cI cJ cZ cS a_t a_s a_keptS a_statuses a_pile a_tape a_steps a_wish a_mark a_bitsOf a_sizeOf a_number a_moved v_isKept k.1 v_at v_fault v_laid v_open k.2.1 k.2.2)) kk')) args s 0 0 A) (F0 m 41 ls []) := by
  intro n
  induction n with
  | zero => intro v_taped v_statuses v_tape y1 y3 H locs ls h hl hf; exact (ll5_z hf).elim
  | succ n ih => intro v_taped v_statuses v_tape y1 y3 H locs ls h hl hf; exact LX5_feed_41 fx ih h hl (ll5_s hf)
def fX5_feed (v_taped : Int32) (v_statuses : Nat → Int32) (v_tape : Nat → Int32) (x1 : Int32) (x2 : Int32) : Option (Int32 × Int32 × (Nat → Int32) × (Nat → Int32)) :=
  bR (fX5_in (x2.toInt64) 1 4) (fun r5 k5 =>
  (if r5 = 0 then (
  bR (fX5_finds v_statuses (-1000000001)) (fun r10 k10 =>
  some (r10, (v_taped, k10, v_tape))))
  else (
  (if (v_taped + x2) ≤ 60 then (
  nm (x2 - 1) (fun u8 =>
  ll5 (fX5_feed_41 ) qF v_taped v_statuses v_tape x1 u8))
  else (
  bR (fX5_finds v_statuses (-1000000002)) (fun r9 k9 =>
  some (r9, (v_taped, k9, v_tape))))))))
set_option maxRecDepth 100000 in
set_option maxHeartbeats 4000000 in
theorem tX5_feed (l : Launch) (D : va_G) (cI cJ cZ cS : ClassId) (tb : Nat) (a_t a_s a_keptS a_statuses a_pile a_tape a_steps a_wish a_mark a_bitsOf a_sizeOf a_number a_moved : Nat) (sz : Nat) (v_isKept : Int32) (v_taped : Int32) (v_at : Int32) (v_fault : Int32) (v_laid : Int32) (v_open : Int32) (v_statuses : Nat → Int32) (v_tape : Nat → Int32) (x1 : Int32) (x2 : Int32) (rr : Int32) (kk' : Int32 × (Nat → Int32) × (Nat → Int32)) (hf : fX5_feed v_taped v_statuses v_tape x1 x2 = some (rr, kk')) : Met l yX5_feed (Cond.code yX5_feed cX5_feed 4 (some .int) :: wA) rX5_feed (q_Pre D cI cJ cZ cS tb [.ref a_t, .int x1, .int x2] sz (wX5_feed cI cJ cZ cS a_t a_s a_keptS a_statuses a_pile a_tape a_steps a_wish a_mark a_bitsOf a_sizeOf a_number a_moved v_isKept v_taped v_at v_fault v_laid v_open v_statuses v_tape)) (q_Ri D rr (va_A (wX5_feed cI cJ cZ cS a_t a_s a_keptS a_statuses a_pile a_tape a_steps a_wish a_mark a_bitsOf a_sizeOf a_number a_moved v_isKept v_taped v_at v_fault v_laid v_open v_statuses v_tape) sz) ((fun k : Int32 × (Nat → Int32) × (Nat → Int32) => (wX5_feed cI cJ cZ cS a_t a_s a_keptS a_statuses a_pile a_tape a_steps a_wish a_mark a_bitsOf a_sizeOf a_number a_moved v_isKept k.1 v_at v_fault v_laid v_open k.2.1 k.2.2)) kk')) 0 0 (va_A (wX5_feed cI cJ cZ cS a_t a_s a_keptS a_statuses a_pile a_tape a_steps a_wish a_mark a_bitsOf a_sizeOf a_number a_moved v_isKept v_taped v_at v_fault v_laid v_open v_statuses v_tape) sz) := by
  refine q_enter (Qf := fun A => (q_Ri D rr A ((fun k : Int32 × (Nat → Int32) × (Nat → Int32) => (wX5_feed cI cJ cZ cS a_t a_s a_keptS a_statuses a_pile a_tape a_steps a_wish a_mark a_bitsOf a_sizeOf a_number a_moved v_isKept k.1 v_at v_fault v_laid v_open k.2.1 k.2.2)) kk'))) (by decide) rfl (Nat.le_of_ble_eq_true rfl) ?_
  intro p e s m below meth c A ls fx hname h hl
  have hx := fx.1
  have hb := fx.2.1
  have hl : lv_has ls 4 [(0, .ref a_t), (1, .int x1), (2, .int x2)] := hl
  generalize h9 : s.heap = H at h ⊢
  clear h9
  generalize h9 : ([] : List Loc) = locs at h ⊢
  clear h9
  unfold fX5_feed at hf
  refine lv_iload_n hx hb dX5_feed_0 rfl (lv_at hl 2 rfl) ?_
  refine lv_i2l hx hb dX5_feed_1 rfl ?_
  refine lv_lconst (v := 1) hx hb dX5_feed_2 (by decide) ?_
  refine q_ldc2 fx k_797 dX5_feed_3 ?_
  obtain ⟨r5, k5, hg, hf⟩ := bR_inv hf
  refine q_ci (rest := []) (ws' := (wX5_feed cI cJ cZ cS a_t a_s a_keptS a_statuses a_pile a_tape a_steps a_wish a_mark a_bitsOf a_sizeOf a_number a_moved v_isKept v_taped v_at v_fault v_laid v_open v_statuses v_tape)) (w1 := (wX5_in cI cJ cZ cS)) fx h [] rfl rfl rfl rfl (q_runS fx h hl.1 [] rfl rfl (tX5_in l D cI cJ cZ cS tb H.size (x2.toInt64) 1 4 r5 k5 hg) msX5_in k_697 ⟨rfl, rfl⟩ ⟨Nat.le_of_ble_eq_true rfl, Nat.le_of_ble_eq_true rfl⟩ rfl rfl (Nat.le_of_ble_eq_true rfl) dX5_feed_6 ⟨Nat.le_of_ble_eq_true rfl, Nat.le_of_ble_eq_true rfl⟩) (fun H locs h => ?_)
  refine lv_if_ne (tgt := 19) hx hb dX5_feed_9 (by decide) (fun c6 => ?_) (fun c6 => ?_)
  · have hf := it_f c6 hf
    refine lv_aload_n hx hb dX5_feed_19 rfl (lv_at hl 0 rfl) ?_
    refine q_get (v := .int v_taped) fx inX5 h 0 rfl rfl 7 (by decide) k_643 rfl dX5_feed_20 ?_
    refine lv_iload_n hx hb dX5_feed_23 rfl (lv_at hl 2 rfl) ?_
    refine lv_iadd hx hb dX5_feed_24 ?_
    refine lv_bipush (v := 60) hx hb dX5_feed_25 (by decide) ?_
    refine lv_icmp_le (tgt := 37) hx hb dX5_feed_27 (by decide) (fun c7 => ?_) (fun c7 => ?_)
    · have hf := it_t c7 hf
      refine lv_iload_n hx hb dX5_feed_37 rfl (lv_at hl 2 rfl) ?_
      refine lv_iconst (v := 1) hx hb dX5_feed_38 (by decide) ?_
      refine lv_isub hx hb dX5_feed_39 ?_
      obtain ⟨u8, eu8, hf⟩ := nm_inv hf
      refine lv_eqi eu8 ?_
      refine lv_istore_n (lv' := [(3, .int u8), (0, .ref a_t), (1, .int x1), (2, .int x2)]) hx hb dX5_feed_40 rfl hl (by decide) rfl (fun ls hl => ?_)
      exact EX5_feed_41 fx qF h (lv_sub hl [1, 2, 0] rfl) hf
    have hf := it_f c7 hf
    refine lv_aload_n hx hb dX5_feed_30 rfl (lv_at hl 0 rfl) ?_
    refine q_ldc fx k_706 dX5_feed_31 ?_
    obtain ⟨r9, k9, hg, hf⟩ := bR_inv hf
    refine q_ci (rest := []) (ws' := (wX5_feed cI cJ cZ cS a_t a_s a_keptS a_statuses a_pile a_tape a_steps a_wish a_mark a_bitsOf a_sizeOf a_number a_moved v_isKept v_taped v_at v_fault v_laid v_open k9 v_tape)) (w1 := (wX5_finds cI cJ cZ cS a_t a_s a_keptS a_statuses a_pile a_tape a_steps a_wish a_mark a_bitsOf a_sizeOf a_number a_moved v_isKept v_taped v_at v_fault v_laid v_open k9)) fx h [0, 1] rfl rfl rfl rfl (q_runV fx h hl.1 [0, 1] rfl rfl (tX5_finds l D cI cJ cZ cS tb a_t a_s a_keptS a_statuses a_pile a_tape a_steps a_wish a_mark a_bitsOf a_sizeOf a_number a_moved H.size v_isKept v_taped v_at v_fault v_laid v_open v_statuses (-1000000002) r9 k9 hg) mvX5_finds k_702 ⟨rfl, rfl⟩ ⟨Nat.le_of_ble_eq_true rfl, Nat.le_of_ble_eq_true rfl⟩ rfl rfl rfl rfl (Nat.le_of_ble_eq_true rfl) dX5_feed_33 ⟨Nat.le_of_ble_eq_true rfl, Nat.le_of_ble_eq_true rfl⟩) (fun H locs h => ?_)
    exact q_reti (fun k : Int32 × (Nat → Int32) × (Nat → Int32) => (wX5_feed cI cJ cZ cS a_t a_s a_keptS a_statuses a_pile a_tape a_steps a_wish a_mark a_bitsOf a_sizeOf a_number a_moved v_isKept k.1 v_at v_fault v_laid v_open k.2.1 k.2.2)) fx hf h dX5_feed_36
  have hf := it_t c6 hf
  refine lv_aload_n hx hb dX5_feed_12 rfl (lv_at hl 0 rfl) ?_
  refine q_ldc fx k_701 dX5_feed_13 ?_
  obtain ⟨r10, k10, hg, hf⟩ := bR_inv hf
  refine q_ci (rest := []) (ws' := (wX5_feed cI cJ cZ cS a_t a_s a_keptS a_statuses a_pile a_tape a_steps a_wish a_mark a_bitsOf a_sizeOf a_number a_moved v_isKept v_taped v_at v_fault v_laid v_open k10 v_tape)) (w1 := (wX5_finds cI cJ cZ cS a_t a_s a_keptS a_statuses a_pile a_tape a_steps a_wish a_mark a_bitsOf a_sizeOf a_number a_moved v_isKept v_taped v_at v_fault v_laid v_open k10)) fx h [0, 1] rfl rfl rfl rfl (q_runV fx h hl.1 [0, 1] rfl rfl (tX5_finds l D cI cJ cZ cS tb a_t a_s a_keptS a_statuses a_pile a_tape a_steps a_wish a_mark a_bitsOf a_sizeOf a_number a_moved H.size v_isKept v_taped v_at v_fault v_laid v_open v_statuses (-1000000001) r10 k10 hg) mvX5_finds k_702 ⟨rfl, rfl⟩ ⟨Nat.le_of_ble_eq_true rfl, Nat.le_of_ble_eq_true rfl⟩ rfl rfl rfl rfl (Nat.le_of_ble_eq_true rfl) dX5_feed_15 ⟨Nat.le_of_ble_eq_true rfl, Nat.le_of_ble_eq_true rfl⟩) (fun H locs h => ?_)
  exact q_reti (fun k : Int32 × (Nat → Int32) × (Nat → Int32) => (wX5_feed cI cJ cZ cS a_t a_s a_keptS a_statuses a_pile a_tape a_steps a_wish a_mark a_bitsOf a_sizeOf a_number a_moved v_isKept k.1 v_at v_fault v_laid v_open k.2.1 k.2.2)) fx hf h dX5_feed_18
/-! X5_wipe -/
abbrev wX5_wipe (cI cJ cZ cS : ClassId) (a_t a_s a_keptS a_statuses a_pile a_tape a_steps a_wish a_mark a_bitsOf a_sizeOf a_number a_moved : Nat) (v_isKept : Int32) (v_taped : Int32) (v_at : Int32) (v_fault : Int32) (v_laid : Int32) (v_open : Int32) : va_W := [(a_t, .inr (5, [.ref a_s, .ref a_keptS, .ref a_statuses, .int v_isKept, .ref a_pile, .ref a_tape, .ref a_steps, .int v_taped, .int v_at, .int v_fault, .int v_laid, .int v_open, .ref a_wish, .ref a_mark, .ref a_bitsOf, .ref a_sizeOf, .ref a_number, .ref a_moved]))]
abbrev rX5_wipe : Room := { frames := 0, cells := 0, slots := 0, locals := 0 }
def fX5_wipe (v_taped : Int32) : Option (Int32 × Int32) :=
  some (v_taped, 0)
set_option maxRecDepth 100000 in
set_option maxHeartbeats 4000000 in
theorem tX5_wipe (l : Launch) (D : va_G) (cI cJ cZ cS : ClassId) (tb : Nat) (a_t a_s a_keptS a_statuses a_pile a_tape a_steps a_wish a_mark a_bitsOf a_sizeOf a_number a_moved : Nat) (sz : Nat) (v_isKept : Int32) (v_taped : Int32) (v_at : Int32) (v_fault : Int32) (v_laid : Int32) (v_open : Int32) (rr : Int32) (kk' : Int32) (hf : fX5_wipe v_taped = some (rr, kk')) : Met l yX5_wipe (Cond.code yX5_wipe cX5_wipe 2 (some .int) :: wA) rX5_wipe (q_Pre D cI cJ cZ cS tb [.ref a_t] sz (wX5_wipe cI cJ cZ cS a_t a_s a_keptS a_statuses a_pile a_tape a_steps a_wish a_mark a_bitsOf a_sizeOf a_number a_moved v_isKept v_taped v_at v_fault v_laid v_open)) (q_Ri D rr (va_A (wX5_wipe cI cJ cZ cS a_t a_s a_keptS a_statuses a_pile a_tape a_steps a_wish a_mark a_bitsOf a_sizeOf a_number a_moved v_isKept v_taped v_at v_fault v_laid v_open) sz) ((fun k : Int32 => (wX5_wipe cI cJ cZ cS a_t a_s a_keptS a_statuses a_pile a_tape a_steps a_wish a_mark a_bitsOf a_sizeOf a_number a_moved v_isKept k v_at v_fault v_laid v_open)) kk')) 0 0 (va_A (wX5_wipe cI cJ cZ cS a_t a_s a_keptS a_statuses a_pile a_tape a_steps a_wish a_mark a_bitsOf a_sizeOf a_number a_moved v_isKept v_taped v_at v_fault v_laid v_open) sz) := by
  refine q_enter (Qf := fun A => (q_Ri D rr A ((fun k : Int32 => (wX5_wipe cI cJ cZ cS a_t a_s a_keptS a_statuses a_pile a_tape a_steps a_wish a_mark a_bitsOf a_sizeOf a_number a_moved v_isKept k v_at v_fault v_laid v_open)) kk'))) (by decide) rfl (Nat.le_of_ble_eq_true rfl) ?_
  intro p e s m below meth c A ls fx hname h hl
  have hx := fx.1
  have hb := fx.2.1
  have hl : lv_has ls 2 [(0, .ref a_t)] := hl
  generalize h9 : s.heap = H at h ⊢
  clear h9
  generalize h9 : ([] : List Loc) = locs at h ⊢
  clear h9
  unfold fX5_wipe at hf
  refine lv_aload_n hx hb dX5_wipe_0 rfl (lv_at hl 0 rfl) ?_
  refine q_get (v := .int v_taped) fx inX5 h 0 rfl rfl 7 (by decide) k_643 rfl dX5_wipe_1 ?_
  refine lv_istore_n (lv' := [(1, .int v_taped), (0, .ref a_t)]) hx hb dX5_wipe_4 rfl hl (by decide) rfl (fun ls hl => ?_)
  refine lv_aload_n hx hb dX5_wipe_5 rfl (lv_at hl 1 rfl) ?_
  refine lv_iconst (v := 0) hx hb dX5_wipe_6 (by decide) ?_
  refine q_put (v := .int 0) (ws' := (wX5_wipe cI cJ cZ cS a_t a_s a_keptS a_statuses a_pile a_tape a_steps a_wish a_mark a_bitsOf a_sizeOf a_number a_moved v_isKept 0 v_at v_fault v_laid v_open)) fx inX5 tyX5 tyX5_ok nmX5 h 0 rfl rfl 7 (by decide) k_643 rfl rfl rfl (Nat.le_of_ble_eq_true rfl) rfl dX5_wipe_7 (fun H locs h => ?_)
  refine lv_iload_n hx hb dX5_wipe_10 rfl (lv_at hl 0 rfl) ?_
  exact q_reti (fun k : Int32 => (wX5_wipe cI cJ cZ cS a_t a_s a_keptS a_statuses a_pile a_tape a_steps a_wish a_mark a_bitsOf a_sizeOf a_number a_moved v_isKept k v_at v_fault v_laid v_open)) fx hf h dX5_wipe_11
end
section
/-! X5_list -/
abbrev wX5_list (cI cJ cZ cS : ClassId) (a_t a_s a_keptS a_statuses a_pile a_tape a_steps a_wish a_mark a_bitsOf a_sizeOf a_number a_moved : Nat) (v_isKept : Int32) (v_taped : Int32) (v_at : Int32) (v_fault : Int32) (v_laid : Int32) (v_open : Int32) (v_s : Nat → Int32) (v_statuses : Nat → Int32) : va_W := [(a_t, .inr (5, [.ref a_s, .ref a_keptS, .ref a_statuses, .int v_isKept, .ref a_pile, .ref a_tape, .ref a_steps, .int v_taped, .int v_at, .int v_fault, .int v_laid, .int v_open, .ref a_wish, .ref a_mark, .ref a_bitsOf, .ref a_sizeOf, .ref a_number, .ref a_moved])), (a_s, .inl (cI, 538, .inl v_s)), (a_statuses, .inl (cI, 7, .inl v_statuses))]
abbrev rX5_list : Room := { frames := 2, cells := 0, slots := 0, locals := 47 }
def fX5_list (v_s : Nat → Int32) (v_statuses : Nat → Int32) (x1 : Int32) : Option (Int32 × (Nat → Int32) × (Nat → Int32)) :=
  bR (fX5_isList v_s (x1.toInt64)) (fun r1 k1 =>
  (if r1 = 0 then (
  bR (fX5_finds v_statuses (-1000000001)) (fun r3 k3 =>
  some (r3, (v_s, k3))))
  else (
  bR (fX5_becomes v_s 1 x1) (fun r4 k4 =>
  some (r4, (k4, v_statuses))))))
set_option maxRecDepth 100000 in
set_option maxHeartbeats 4000000 in
theorem tX5_list (l : Launch) (D : va_G) (cI cJ cZ cS : ClassId) (tb : Nat) (a_t a_s a_keptS a_statuses a_pile a_tape a_steps a_wish a_mark a_bitsOf a_sizeOf a_number a_moved : Nat) (sz : Nat) (v_isKept : Int32) (v_taped : Int32) (v_at : Int32) (v_fault : Int32) (v_laid : Int32) (v_open : Int32) (v_s : Nat → Int32) (v_statuses : Nat → Int32) (x1 : Int32) (rr : Int32) (kk' : (Nat → Int32) × (Nat → Int32)) (hf : fX5_list v_s v_statuses x1 = some (rr, kk')) : Met l yX5_list (Cond.code yX5_list cX5_list 2 (some .int) :: wA) rX5_list (q_Pre D cI cJ cZ cS tb [.ref a_t, .int x1] sz (wX5_list cI cJ cZ cS a_t a_s a_keptS a_statuses a_pile a_tape a_steps a_wish a_mark a_bitsOf a_sizeOf a_number a_moved v_isKept v_taped v_at v_fault v_laid v_open v_s v_statuses)) (q_Ri D rr (va_A (wX5_list cI cJ cZ cS a_t a_s a_keptS a_statuses a_pile a_tape a_steps a_wish a_mark a_bitsOf a_sizeOf a_number a_moved v_isKept v_taped v_at v_fault v_laid v_open v_s v_statuses) sz) ((fun k : (Nat → Int32) × (Nat → Int32) => (wX5_list cI cJ cZ cS a_t a_s a_keptS a_statuses a_pile a_tape a_steps a_wish a_mark a_bitsOf a_sizeOf a_number a_moved v_isKept v_taped v_at v_fault v_laid v_open k.1 k.2)) kk')) 0 0 (va_A (wX5_list cI cJ cZ cS a_t a_s a_keptS a_statuses a_pile a_tape a_steps a_wish a_mark a_bitsOf a_sizeOf a_number a_moved v_isKept v_taped v_at v_fault v_laid v_open v_s v_statuses) sz) := by
  refine q_enter (Qf := fun A => (q_Ri D rr A ((fun k : (Nat → Int32) × (Nat → Int32) => (wX5_list cI cJ cZ cS a_t a_s a_keptS a_statuses a_pile a_tape a_steps a_wish a_mark a_bitsOf a_sizeOf a_number a_moved v_isKept v_taped v_at v_fault v_laid v_open k.1 k.2)) kk'))) (by decide) rfl (Nat.le_of_ble_eq_true rfl) ?_
  intro p e s m below meth c A ls fx hname h hl
  have hx := fx.1
  have hb := fx.2.1
  have hl : lv_has ls 2 [(0, .ref a_t), (1, .int x1)] := hl
  generalize h9 : s.heap = H at h ⊢
  clear h9
  generalize h9 : ([] : List Loc) = locs at h ⊢
  clear h9
  unfold fX5_list at hf
  refine lv_aload_n hx hb dX5_list_0 rfl (lv_at hl 0 rfl) ?_
  refine lv_iload_n hx hb dX5_list_1 rfl (lv_at hl 1 rfl) ?_
  refine lv_i2l hx hb dX5_list_2 rfl ?_
  obtain ⟨r1, k1, hg, hf⟩ := bR_inv hf
  refine q_ci (rest := []) (ws' := (wX5_list cI cJ cZ cS a_t a_s a_keptS a_statuses a_pile a_tape a_steps a_wish a_mark a_bitsOf a_sizeOf a_number a_moved v_isKept v_taped v_at v_fault v_laid v_open v_s v_statuses)) (w1 := (wX5_isList cI cJ cZ cS a_t a_s a_keptS a_statuses a_pile a_tape a_steps a_wish a_mark a_bitsOf a_sizeOf a_number a_moved v_isKept v_taped v_at v_fault v_laid v_open v_s)) fx h [0, 1] rfl rfl rfl rfl (q_runV fx h hl.1 [0, 1] rfl rfl (tX5_isList l D cI cJ cZ cS tb a_t a_s a_keptS a_statuses a_pile a_tape a_steps a_wish a_mark a_bitsOf a_sizeOf a_number a_moved H.size v_isKept v_taped v_at v_fault v_laid v_open v_s (x1.toInt64) r1 k1 hg) mvX5_isList k_806 ⟨rfl, rfl⟩ ⟨Nat.le_of_ble_eq_true rfl, Nat.le_of_ble_eq_true rfl⟩ rfl rfl rfl rfl (Nat.le_of_ble_eq_true rfl) dX5_list_3 ⟨Nat.le_of_ble_eq_true rfl, Nat.le_of_ble_eq_true rfl⟩) (fun H locs h => ?_)
  refine lv_if_eq (tgt := 18) hx hb dX5_list_6 (by decide) (fun c2 => ?_) (fun c2 => ?_)
  · have hf := it_t c2 hf
    refine lv_aload_n hx hb dX5_list_18 rfl (lv_at hl 0 rfl) ?_
    refine q_ldc fx k_701 dX5_list_19 ?_
    obtain ⟨r3, k3, hg, hf⟩ := bR_inv hf
    refine q_ci (rest := []) (ws' := (wX5_list cI cJ cZ cS a_t a_s a_keptS a_statuses a_pile a_tape a_steps a_wish a_mark a_bitsOf a_sizeOf a_number a_moved v_isKept v_taped v_at v_fault v_laid v_open v_s k3)) (w1 := (wX5_finds cI cJ cZ cS a_t a_s a_keptS a_statuses a_pile a_tape a_steps a_wish a_mark a_bitsOf a_sizeOf a_number a_moved v_isKept v_taped v_at v_fault v_laid v_open k3)) fx h [0, 2] rfl rfl rfl rfl (q_runV fx h hl.1 [0, 2] rfl rfl (tX5_finds l D cI cJ cZ cS tb a_t a_s a_keptS a_statuses a_pile a_tape a_steps a_wish a_mark a_bitsOf a_sizeOf a_number a_moved H.size v_isKept v_taped v_at v_fault v_laid v_open v_statuses (-1000000001) r3 k3 hg) mvX5_finds k_702 ⟨rfl, rfl⟩ ⟨Nat.le_of_ble_eq_true rfl, Nat.le_of_ble_eq_true rfl⟩ rfl rfl rfl rfl (Nat.le_of_ble_eq_true rfl) dX5_list_21 ⟨Nat.le_of_ble_eq_true rfl, Nat.le_of_ble_eq_true rfl⟩) (fun H locs h => ?_)
    exact q_reti (fun k : (Nat → Int32) × (Nat → Int32) => (wX5_list cI cJ cZ cS a_t a_s a_keptS a_statuses a_pile a_tape a_steps a_wish a_mark a_bitsOf a_sizeOf a_number a_moved v_isKept v_taped v_at v_fault v_laid v_open k.1 k.2)) fx hf h dX5_list_24
  have hf := it_f c2 hf
  refine lv_aload_n hx hb dX5_list_9 rfl (lv_at hl 0 rfl) ?_
  refine lv_iconst (v := 1) hx hb dX5_list_10 (by decide) ?_
  refine lv_iload_n hx hb dX5_list_11 rfl (lv_at hl 1 rfl) ?_
  obtain ⟨r4, k4, hg, hf⟩ := bR_inv hf
  refine q_ci (rest := []) (ws' := (wX5_list cI cJ cZ cS a_t a_s a_keptS a_statuses a_pile a_tape a_steps a_wish a_mark a_bitsOf a_sizeOf a_number a_moved v_isKept v_taped v_at v_fault v_laid v_open k4 v_statuses)) (w1 := (wX5_becomes cI cJ cZ cS a_t a_s a_keptS a_statuses a_pile a_tape a_steps a_wish a_mark a_bitsOf a_sizeOf a_number a_moved v_isKept v_taped v_at v_fault v_laid v_open k4)) fx h [0, 1] rfl rfl rfl rfl (q_runV fx h hl.1 [0, 1] rfl rfl (tX5_becomes l D cI cJ cZ cS tb a_t a_s a_keptS a_statuses a_pile a_tape a_steps a_wish a_mark a_bitsOf a_sizeOf a_number a_moved H.size v_isKept v_taped v_at v_fault v_laid v_open v_s 1 x1 r4 k4 hg) mvX5_becomes k_740 ⟨rfl, rfl⟩ ⟨Nat.le_of_ble_eq_true rfl, Nat.le_of_ble_eq_true rfl⟩ rfl rfl rfl rfl (Nat.le_of_ble_eq_true rfl) dX5_list_12 ⟨Nat.le_of_ble_eq_true rfl, Nat.le_of_ble_eq_true rfl⟩) (fun H locs h => ?_)
  refine lv_goto (tgt := 24) hx hb dX5_list_15 (by decide) ?_
  exact q_reti (fun k : (Nat → Int32) × (Nat → Int32) => (wX5_list cI cJ cZ cS a_t a_s a_keptS a_statuses a_pile a_tape a_steps a_wish a_mark a_bitsOf a_sizeOf a_number a_moved v_isKept v_taped v_at v_fault v_laid v_open k.1 k.2)) fx hf h dX5_list_24
/-! X5_costOf -/
abbrev wX5_costOf (cI cJ cZ cS : ClassId) (a_t a_s a_keptS a_statuses a_pile a_tape a_steps a_wish a_mark a_bitsOf a_sizeOf a_number a_moved : Nat) (v_isKept : Int32) (v_taped : Int32) (v_at : Int32) (v_fault : Int32) (v_laid : Int32) (v_open : Int32) (v_s : Nat → Int32) : va_W := [(a_t, .inr (5, [.ref a_s, .ref a_keptS, .ref a_statuses, .int v_isKept, .ref a_pile, .ref a_tape, .ref a_steps, .int v_taped, .int v_at, .int v_fault, .int v_laid, .int v_open, .ref a_wish, .ref a_mark, .ref a_bitsOf, .ref a_sizeOf, .ref a_number, .ref a_moved])), (a_s, .inl (cI, 538, .inl v_s))]
abbrev rX5_costOf : Room := { frames := 1, cells := 0, slots := 0, locals := 22 }
def fX5_costOf_33 (v_s : Nat → Int32) (ag4 : Int32 → Int32 → Int32 → Option (Int32 × Unit)) (s0 : Int32) (s1 : Int32) (y1 : Int32) (y3 : Int32) : Option (Int32 × Unit) :=
  nm (s0 + s1) (fun u1 =>
  nm (y3 + 1) (fun u2 =>
  ag4 y1 u1 u2))
set_option maxRecDepth 100000 in
set_option maxHeartbeats 4000000 in
theorem LX5_costOf_33 {p : Program} {l : Launch} {e : Env} {s : State} {m : MethodId} {args : Array Value} {below : List Frame} {meth : Method} {c : Code} {D : va_G} {cI cJ cZ cS : ClassId} {tb : Nat} {A : Nat → Prop} {a_t a_s a_keptS a_statuses a_pile a_tape a_steps a_wish a_mark a_bitsOf a_sizeOf a_number a_moved : Nat} {v_isKept : Int32} {v_taped : Int32} {v_at : Int32} {v_fault : Int32} {v_laid : Int32} {v_open : Int32} {v_s : Nat → Int32} {rr : Int32} {kk' : Unit} (fx : q_Fx p s m args meth c cX5_costOf 4 RX5 (some .int) D cI cJ cZ cS tb A) {ag4 : Int32 → Int32 → Int32 → Option (Int32 × Unit)} (hag4 : ∀ {y1 : Int32} {y2 : Int32} {y3 : Int32} {H : Heap} {locs : List Loc} {ls : Array Slot}, q_H D A s (wX5_costOf cI cJ cZ cS a_t a_s a_keptS a_statuses a_pile a_tape a_steps a_wish a_mark a_bitsOf a_sizeOf a_number a_moved v_isKept v_taped v_at v_fault v_laid v_open v_s) H locs → lv_has ls 4 [(0, .ref a_t), (1, .int y1), (2, .int y2), (3, .int y3)] → ag4 y1 y2 y3 = some (rr, kk') → W p l e rX5_costOf s m args below meth c H locs 0 0 (MQ below (q_Ri D rr A ((fun k : Unit => (wX5_costOf cI cJ cZ cS a_t a_s a_keptS a_statuses a_pile a_tape a_steps a_wish a_mark a_bitsOf a_sizeOf a_number a_moved v_isKept v_taped v_at v_fault v_laid v_open v_s)) kk')) args s 0 0 A) (F0 m 4 ls [])) : ∀ {s0 : Int32} {s1 : Int32} {y1 : Int32} {y3 : Int32} {H : Heap} {locs : List Loc} {ls : Array Slot}, q_H D A s (wX5_costOf cI cJ cZ cS a_t a_s a_keptS a_statuses a_pile a_tape a_steps a_wish a_mark a_bitsOf a_sizeOf a_number a_moved v_isKept v_taped v_at v_fault v_laid v_open v_s) H locs → lv_has ls 4 [(0, .ref a_t), (1, .int y1), (3, .int y3)] → fX5_costOf_33 v_s ag4 s0 s1 y1 y3 = some (rr, kk') → W p l e rX5_costOf s m args below meth c H locs 0 0 (MQ below (q_Ri D rr A ((fun k : Unit => (wX5_costOf cI cJ cZ cS a_t a_s a_keptS a_statuses a_pile a_tape a_steps a_wish a_mark a_bitsOf a_sizeOf a_number a_moved v_isKept v_taped v_at v_fault v_laid v_open v_s)) kk')) args s 0 0 A) (F0 m 33 ls [.int s1, .int s0]) := by
  intro s0 s1 y1 y3 H locs ls h hl hf
  have hx := fx.1
  have hb := fx.2.1
  unfold fX5_costOf_33 at hf
  refine lv_iadd hx hb dX5_costOf_33 ?_
  obtain ⟨u1, eu1, hf⟩ := nm_inv hf
  refine lv_eqi eu1 ?_
  refine lv_istore_n (lv' := [(2, .int u1), (0, .ref a_t), (1, .int y1), (3, .int y3)]) hx hb dX5_costOf_34 rfl hl (by decide) rfl (fun ls hl => ?_)
  obtain ⟨u2, eu2, hf⟩ := nm_inv hf
  refine lv_iinc (v := u2) (lv' := [(3, .int u2), (2, .int u1), (0, .ref a_t), (1, .int y1)]) hx hb dX5_costOf_35 hl (k := 3) rfl (by rw [eu2]; rfl) (by decide) rfl (fun ls hl => ?_)
  refine lv_goto (tgt := 4) hx hb dX5_costOf_38 (by decide) ?_
  exact hag4 h (lv_sub hl [2, 3, 1, 0] rfl) hf
def fX5_costOf_4 (v_s : Nat → Int32) (ag4 : Int32 → Int32 → Int32 → Option (Int32 × Unit)) (y1 : Int32) (y2 : Int32) (y3 : Int32) : Option (Int32 × Unit) :=
  (if (v_s 0) ≤ y3 then (
  some (y2, ()))
  else (
  bR (fX5_has y1 y3) (fun r4 k4 =>
  (if r4 = 0 then (
  fX5_costOf_33 v_s ag4 y2 0 y1 y3)
  else (
  bR (fX5_its v_s y3 1) (fun r6 k6 =>
  fX5_costOf_33 v_s ag4 y2 r6 y1 y3))))))
set_option maxRecDepth 100000 in
set_option maxHeartbeats 4000000 in
theorem LX5_costOf_4 {p : Program} {l : Launch} {e : Env} {s : State} {m : MethodId} {args : Array Value} {below : List Frame} {meth : Method} {c : Code} {D : va_G} {cI cJ cZ cS : ClassId} {tb : Nat} {A : Nat → Prop} {a_t a_s a_keptS a_statuses a_pile a_tape a_steps a_wish a_mark a_bitsOf a_sizeOf a_number a_moved : Nat} {v_isKept : Int32} {v_taped : Int32} {v_at : Int32} {v_fault : Int32} {v_laid : Int32} {v_open : Int32} {v_s : Nat → Int32} {rr : Int32} {kk' : Unit} (fx : q_Fx p s m args meth c cX5_costOf 4 RX5 (some .int) D cI cJ cZ cS tb A) {ag4 : Int32 → Int32 → Int32 → Option (Int32 × Unit)} (hag4 : ∀ {y1 : Int32} {y2 : Int32} {y3 : Int32} {H : Heap} {locs : List Loc} {ls : Array Slot}, q_H D A s (wX5_costOf cI cJ cZ cS a_t a_s a_keptS a_statuses a_pile a_tape a_steps a_wish a_mark a_bitsOf a_sizeOf a_number a_moved v_isKept v_taped v_at v_fault v_laid v_open v_s) H locs → lv_has ls 4 [(0, .ref a_t), (1, .int y1), (2, .int y2), (3, .int y3)] → ag4 y1 y2 y3 = some (rr, kk') → W p l e rX5_costOf s m args below meth c H locs 0 0 (MQ below (q_Ri D rr A ((fun k : Unit => (wX5_costOf cI cJ cZ cS a_t a_s a_keptS a_statuses a_pile a_tape a_steps a_wish a_mark a_bitsOf a_sizeOf a_number a_moved v_isKept v_taped v_at v_fault v_laid v_open v_s)) kk')) args s 0 0 A) (F0 m 4 ls [])) : ∀ {y1 : Int32} {y2 : Int32} {y3 : Int32} {H : Heap} {locs : List Loc} {ls : Array Slot}, q_H D A s (wX5_costOf cI cJ cZ cS a_t a_s a_keptS a_statuses a_pile a_tape a_steps a_wish a_mark a_bitsOf a_sizeOf a_number a_moved v_isKept v_taped v_at v_fault v_laid v_open v_s) H locs → lv_has ls 4 [(0, .ref a_t), (1, .int y1), (2, .int y2), (3, .int y3)] → fX5_costOf_4 v_s ag4 y1 y2 y3 = some (rr, kk') → W p l e rX5_costOf s m args below meth c H locs 0 0 (MQ below (q_Ri D rr A ((fun k : Unit => (wX5_costOf cI cJ cZ cS a_t a_s a_keptS a_statuses a_pile a_tape a_steps a_wish a_mark a_bitsOf a_sizeOf a_number a_moved v_isKept v_taped v_at v_fault v_laid v_open v_s)) kk')) args s 0 0 A) (F0 m 4 ls []) := by
  intro y1 y2 y3 H locs ls h hl hf
  have hx := fx.1
  have hb := fx.2.1
  unfold fX5_costOf_4 at hf
  refine lv_iload_n hx hb dX5_costOf_4 rfl (lv_at hl 3 rfl) ?_
  refine lv_aload_n hx hb dX5_costOf_5 rfl (lv_at hl 0 rfl) ?_
  refine q_get (v := .ref a_s) fx inX5 h 0 rfl rfl 0 (by decide) k_636 rfl dX5_costOf_6 ?_
  refine lv_iconst (v := 0) hx hb dX5_costOf_9 (by decide) ?_
  refine q_ialdK fx h 1 rfl 0 (vinK (by decide)) (by decide) dX5_costOf_10 ?_
  refine lv_icmp_ge (tgt := 41) hx hb dX5_costOf_11 (by decide) (fun c3 => ?_) (fun c3 => ?_)
  · have hf := it_t c3 hf
    refine lv_iload_n hx hb dX5_costOf_41 rfl (lv_at hl 2 rfl) ?_
    exact q_reti (fun k : Unit => (wX5_costOf cI cJ cZ cS a_t a_s a_keptS a_statuses a_pile a_tape a_steps a_wish a_mark a_bitsOf a_sizeOf a_number a_moved v_isKept v_taped v_at v_fault v_laid v_open v_s)) fx hf h dX5_costOf_42
  have hf := it_f c3 hf
  refine lv_iload_n hx hb dX5_costOf_14 rfl (lv_at hl 2 rfl) ?_
  refine lv_iload_n hx hb dX5_costOf_15 rfl (lv_at hl 1 rfl) ?_
  refine lv_iload_n hx hb dX5_costOf_16 rfl (lv_at hl 3 rfl) ?_
  obtain ⟨r4, k4, hg, hf⟩ := bR_inv hf
  refine q_ci (rest := [.int y2]) (ws' := (wX5_costOf cI cJ cZ cS a_t a_s a_keptS a_statuses a_pile a_tape a_steps a_wish a_mark a_bitsOf a_sizeOf a_number a_moved v_isKept v_taped v_at v_fault v_laid v_open v_s)) (w1 := (wX5_has cI cJ cZ cS)) fx h [] rfl rfl rfl rfl (q_runS fx h hl.1 [] rfl rfl (tX5_has l D cI cJ cZ cS tb H.size y1 y3 r4 k4 hg) msX5_has k_733 ⟨rfl, rfl⟩ ⟨Nat.le_of_ble_eq_true rfl, Nat.le_of_ble_eq_true rfl⟩ rfl rfl (Nat.le_of_ble_eq_true rfl) dX5_costOf_17 ⟨Nat.le_of_ble_eq_true rfl, Nat.le_of_ble_eq_true rfl⟩) (fun H locs h => ?_)
  refine lv_if_eq (tgt := 32) hx hb dX5_costOf_20 (by decide) (fun c5 => ?_) (fun c5 => ?_)
  · have hf := it_t c5 hf
    refine lv_iconst (v := 0) hx hb dX5_costOf_32 (by decide) ?_
    exact LX5_costOf_33 fx hag4 h (lv_sub hl [0, 1, 3] rfl) hf
  have hf := it_f c5 hf
  refine lv_aload_n hx hb dX5_costOf_23 rfl (lv_at hl 0 rfl) ?_
  refine lv_iload_n hx hb dX5_costOf_24 rfl (lv_at hl 3 rfl) ?_
  refine lv_iconst (v := 1) hx hb dX5_costOf_25 (by decide) ?_
  obtain ⟨r6, k6, hg, hf⟩ := bR_inv hf
  refine q_ci (rest := [.int y2]) (ws' := (wX5_costOf cI cJ cZ cS a_t a_s a_keptS a_statuses a_pile a_tape a_steps a_wish a_mark a_bitsOf a_sizeOf a_number a_moved v_isKept v_taped v_at v_fault v_laid v_open v_s)) (w1 := (wX5_its cI cJ cZ cS a_t a_s a_keptS a_statuses a_pile a_tape a_steps a_wish a_mark a_bitsOf a_sizeOf a_number a_moved v_isKept v_taped v_at v_fault v_laid v_open v_s)) fx h [0, 1] rfl rfl rfl rfl (q_runV fx h hl.1 [0, 1] rfl rfl (tX5_its l D cI cJ cZ cS tb a_t a_s a_keptS a_statuses a_pile a_tape a_steps a_wish a_mark a_bitsOf a_sizeOf a_number a_moved H.size v_isKept v_taped v_at v_fault v_laid v_open v_s y3 1 r6 k6 hg) mvX5_its k_725 ⟨rfl, rfl⟩ ⟨Nat.le_of_ble_eq_true rfl, Nat.le_of_ble_eq_true rfl⟩ rfl rfl rfl rfl (Nat.le_of_ble_eq_true rfl) dX5_costOf_26 ⟨Nat.le_of_ble_eq_true rfl, Nat.le_of_ble_eq_true rfl⟩) (fun H locs h => ?_)
  refine lv_goto (tgt := 33) hx hb dX5_costOf_29 (by decide) ?_
  exact LX5_costOf_33 fx hag4 h (lv_sub hl [0, 1, 3] rfl) hf
set_option maxRecDepth 100000 in
theorem EX5_costOf_4 {p : Program} {l : Launch} {e : Env} {s : State} {m : MethodId} {args : Array Value} {below : List Frame} {meth : Method} {c : Code} {D : va_G} {cI cJ cZ cS : ClassId} {tb : Nat} {A : Nat → Prop} {a_t a_s a_keptS a_statuses a_pile a_tape a_steps a_wish a_mark a_bitsOf a_sizeOf a_number a_moved : Nat} {v_isKept : Int32} {v_taped : Int32} {v_at : Int32} {v_fault : Int32} {v_laid : Int32} {v_open : Int32} {v_s : Nat → Int32} {rr : Int32} {kk' : Unit} (fx : q_Fx p s m args meth c cX5_costOf 4 RX5 (some .int) D cI cJ cZ cS tb A) : ∀ (n : Nat), ∀ {y1 : Int32} {y2 : Int32} {y3 : Int32} {H : Heap} {locs : List Loc} {ls : Array Slot}, q_H D A s (wX5_costOf cI cJ cZ cS a_t a_s a_keptS a_statuses a_pile a_tape a_steps a_wish a_mark a_bitsOf a_sizeOf a_number a_moved v_isKept v_taped v_at v_fault v_laid v_open v_s) H locs → lv_has ls 4 [(0, .ref a_t), (1, .int y1), (2, .int y2), (3, .int y3)] → ll3 (fX5_costOf_4 v_s) n y1 y2 y3 = some (rr, kk') → W p l e rX5_costOf s m args below meth c H locs 0 0 (MQ below (q_Ri D rr A ((fun k : Unit => (wX5_costOf cI cJ cZ cS a_t a_s a_keptS a_statuses a_pile a_tape a_steps a_wish a_mark a_bitsOf a_sizeOf a_number a_moved v_isKept v_taped v_at v_fault v_laid v_open v_s)) kk')) args s 0 0 A) (F0 m 4 ls []) := by
  intro n
  induction n with
  | zero => intro y1 y2 y3 H locs ls h hl hf; exact (ll3_z hf).elim
  | succ n ih => intro y1 y2 y3 H locs ls h hl hf; exact LX5_costOf_4 fx ih h hl (ll3_s hf)
def fX5_costOf (v_s : Nat → Int32) (x1 : Int32) : Option (Int32 × Unit) :=
  ll3 (fX5_costOf_4 v_s) qF x1 0 0
set_option maxRecDepth 100000 in
set_option maxHeartbeats 4000000 in
theorem tX5_costOf (l : Launch) (D : va_G) (cI cJ cZ cS : ClassId) (tb : Nat) (a_t a_s a_keptS a_statuses a_pile a_tape a_steps a_wish a_mark a_bitsOf a_sizeOf a_number a_moved : Nat) (sz : Nat) (v_isKept : Int32) (v_taped : Int32) (v_at : Int32) (v_fault : Int32) (v_laid : Int32) (v_open : Int32) (v_s : Nat → Int32) (x1 : Int32) (rr : Int32) (kk' : Unit) (hf : fX5_costOf v_s x1 = some (rr, kk')) : Met l yX5_costOf (Cond.code yX5_costOf cX5_costOf 4 (some .int) :: wA) rX5_costOf (q_Pre D cI cJ cZ cS tb [.ref a_t, .int x1] sz (wX5_costOf cI cJ cZ cS a_t a_s a_keptS a_statuses a_pile a_tape a_steps a_wish a_mark a_bitsOf a_sizeOf a_number a_moved v_isKept v_taped v_at v_fault v_laid v_open v_s)) (q_Ri D rr (va_A (wX5_costOf cI cJ cZ cS a_t a_s a_keptS a_statuses a_pile a_tape a_steps a_wish a_mark a_bitsOf a_sizeOf a_number a_moved v_isKept v_taped v_at v_fault v_laid v_open v_s) sz) ((fun k : Unit => (wX5_costOf cI cJ cZ cS a_t a_s a_keptS a_statuses a_pile a_tape a_steps a_wish a_mark a_bitsOf a_sizeOf a_number a_moved v_isKept v_taped v_at v_fault v_laid v_open v_s)) kk')) 0 0 (va_A (wX5_costOf cI cJ cZ cS a_t a_s a_keptS a_statuses a_pile a_tape a_steps a_wish a_mark a_bitsOf a_sizeOf a_number a_moved v_isKept v_taped v_at v_fault v_laid v_open v_s) sz) := by
  refine q_enter (Qf := fun A => (q_Ri D rr A ((fun k : Unit => (wX5_costOf cI cJ cZ cS a_t a_s a_keptS a_statuses a_pile a_tape a_steps a_wish a_mark a_bitsOf a_sizeOf a_number a_moved v_isKept v_taped v_at v_fault v_laid v_open v_s)) kk'))) (by decide) rfl (Nat.le_of_ble_eq_true rfl) ?_
  intro p e s m below meth c A ls fx hname h hl
  have hx := fx.1
  have hb := fx.2.1
  have hl : lv_has ls 4 [(0, .ref a_t), (1, .int x1)] := hl
  generalize h9 : s.heap = H at h ⊢
  clear h9
  generalize h9 : ([] : List Loc) = locs at h ⊢
  clear h9
  unfold fX5_costOf at hf
  refine lv_iconst (v := 0) hx hb dX5_costOf_0 (by decide) ?_
  refine lv_istore_n (lv' := [(2, .int 0), (0, .ref a_t), (1, .int x1)]) hx hb dX5_costOf_1 rfl hl (by decide) rfl (fun ls hl => ?_)
  refine lv_iconst (v := 0) hx hb dX5_costOf_2 (by decide) ?_
  refine lv_istore_n (lv' := [(3, .int 0), (2, .int 0), (0, .ref a_t), (1, .int x1)]) hx hb dX5_costOf_3 rfl hl (by decide) rfl (fun ls hl => ?_)
  exact EX5_costOf_4 fx qF h (lv_sub hl [2, 3, 1, 0] rfl) hf
/-! X5_now -/
abbrev wX5_now (cI cJ cZ cS : ClassId) (a_t a_s a_keptS a_statuses a_pile a_tape a_steps a_wish a_mark a_bitsOf a_sizeOf a_number a_moved : Nat) (v_isKept : Int32) (v_taped : Int32) (v_at : Int32) (v_fault : Int32) (v_laid : Int32) (v_open : Int32) (v_s : Nat → Int32) (v_statuses : Nat → Int32) (v_pile : Nat → Int32) : va_W := [(a_t, .inr (5, [.ref a_s, .ref a_keptS, .ref a_statuses, .int v_isKept, .ref a_pile, .ref a_tape, .ref a_steps, .int v_taped, .int v_at, .int v_fault, .int v_laid, .int v_open, .ref a_wish, .ref a_mark, .ref a_bitsOf, .ref a_sizeOf, .ref a_number, .ref a_moved])), (a_s, .inl (cI, 538, .inl v_s)), (a_statuses, .inl (cI, 7, .inl v_statuses)), (a_pile, .inl (cZ, 64, .inl v_pile))]
abbrev rX5_now : Room := { frames := 5, cells := 0, slots := 0, locals := 116 }
def fX5_now (v_s : Nat → Int32) (v_statuses : Nat → Int32) (v_pile : Nat → Int32) (x1 : Int32) : Option (Int32 × (Nat → Int32) × (Nat → Int32)) :=
  (if (x1).toInt < 0 ∨ 4 < (x1).toInt then (
  bR (fX5_finds v_statuses (-1000000001)) (fun r2 k2 =>
  some (r2, (k2, v_pile))))
  else (if x1 = 0 then (
  some (v_s 1, (v_statuses, v_pile)))
  else (if x1 = 1 then (
  bR (fX5_ones (v_s 1)) (fun r5 k5 =>
  some (r5, (v_statuses, v_pile))))
  else (if x1 = 2 then (
  bR (fX5_would v_s v_pile (v_s 1)) (fun r7 k7 =>
  some (r7, (v_statuses, k7))))
  else (if x1 = 3 then (
  bR (fX5_would v_s v_pile (v_s 1)) (fun r9 k9 =>
  (if r9 = (v_s 1) then (
  some (1, (v_statuses, k9)))
  else (
  some (0, (v_statuses, k9))))))
  else (if x1 = 4 then (
  bR (fX5_costOf v_s (v_s 1)) (fun r12 k12 =>
  some (r12, (v_statuses, v_pile))))
  else none))))))
set_option maxRecDepth 100000 in
set_option maxHeartbeats 4000000 in
theorem tX5_now (l : Launch) (D : va_G) (cI cJ cZ cS : ClassId) (tb : Nat) (a_t a_s a_keptS a_statuses a_pile a_tape a_steps a_wish a_mark a_bitsOf a_sizeOf a_number a_moved : Nat) (sz : Nat) (v_isKept : Int32) (v_taped : Int32) (v_at : Int32) (v_fault : Int32) (v_laid : Int32) (v_open : Int32) (v_s : Nat → Int32) (v_statuses : Nat → Int32) (v_pile : Nat → Int32) (x1 : Int32) (rr : Int32) (kk' : (Nat → Int32) × (Nat → Int32)) (hf : fX5_now v_s v_statuses v_pile x1 = some (rr, kk')) : Met l yX5_now (Cond.code yX5_now cX5_now 2 (some .int) :: wA) rX5_now (q_Pre D cI cJ cZ cS tb [.ref a_t, .int x1] sz (wX5_now cI cJ cZ cS a_t a_s a_keptS a_statuses a_pile a_tape a_steps a_wish a_mark a_bitsOf a_sizeOf a_number a_moved v_isKept v_taped v_at v_fault v_laid v_open v_s v_statuses v_pile)) (q_Ri D rr (va_A (wX5_now cI cJ cZ cS a_t a_s a_keptS a_statuses a_pile a_tape a_steps a_wish a_mark a_bitsOf a_sizeOf a_number a_moved v_isKept v_taped v_at v_fault v_laid v_open v_s v_statuses v_pile) sz) ((fun k : (Nat → Int32) × (Nat → Int32) => (wX5_now cI cJ cZ cS a_t a_s a_keptS a_statuses a_pile a_tape a_steps a_wish a_mark a_bitsOf a_sizeOf a_number a_moved v_isKept v_taped v_at v_fault v_laid v_open v_s k.1 k.2)) kk')) 0 0 (va_A (wX5_now cI cJ cZ cS a_t a_s a_keptS a_statuses a_pile a_tape a_steps a_wish a_mark a_bitsOf a_sizeOf a_number a_moved v_isKept v_taped v_at v_fault v_laid v_open v_s v_statuses v_pile) sz) := by
  refine q_enter (Qf := fun A => (q_Ri D rr A ((fun k : (Nat → Int32) × (Nat → Int32) => (wX5_now cI cJ cZ cS a_t a_s a_keptS a_statuses a_pile a_tape a_steps a_wish a_mark a_bitsOf a_sizeOf a_number a_moved v_isKept v_taped v_at v_fault v_laid v_open v_s k.1 k.2)) kk'))) (by decide) rfl (Nat.le_of_ble_eq_true rfl) ?_
  intro p e s m below meth c A ls fx hname h hl
  have hx := fx.1
  have hb := fx.2.1
  have hl : lv_has ls 2 [(0, .ref a_t), (1, .int x1)] := hl
  generalize h9 : s.heap = H at h ⊢
  clear h9
  generalize h9 : ([] : List Loc) = locs at h ⊢
  clear h9
  unfold fX5_now at hf
  refine lv_iload_n hx hb dX5_now_0 rfl (lv_at hl 1 rfl) ?_
  rcases it_or hf with ⟨c1, hf⟩ | ⟨c1, hf⟩
  · refine lv_tableOut (tgt := 100) hx hb dX5_now_1 c1 (by decide) ?_
    refine lv_aload_n hx hb dX5_now_100 rfl (lv_at hl 0 rfl) ?_
    refine q_ldc fx k_701 dX5_now_101 ?_
    obtain ⟨r2, k2, hg, hf⟩ := bR_inv hf
    refine q_ci (rest := []) (ws' := (wX5_now cI cJ cZ cS a_t a_s a_keptS a_statuses a_pile a_tape a_steps a_wish a_mark a_bitsOf a_sizeOf a_number a_moved v_isKept v_taped v_at v_fault v_laid v_open v_s k2 v_pile)) (w1 := (wX5_finds cI cJ cZ cS a_t a_s a_keptS a_statuses a_pile a_tape a_steps a_wish a_mark a_bitsOf a_sizeOf a_number a_moved v_isKept v_taped v_at v_fault v_laid v_open k2)) fx h [0, 2] rfl rfl rfl rfl (q_runV fx h hl.1 [0, 2] rfl rfl (tX5_finds l D cI cJ cZ cS tb a_t a_s a_keptS a_statuses a_pile a_tape a_steps a_wish a_mark a_bitsOf a_sizeOf a_number a_moved H.size v_isKept v_taped v_at v_fault v_laid v_open v_statuses (-1000000001) r2 k2 hg) mvX5_finds k_702 ⟨rfl, rfl⟩ ⟨Nat.le_of_ble_eq_true rfl, Nat.le_of_ble_eq_true rfl⟩ rfl rfl rfl rfl (Nat.le_of_ble_eq_true rfl) dX5_now_103 ⟨Nat.le_of_ble_eq_true rfl, Nat.le_of_ble_eq_true rfl⟩) (fun H locs h => ?_)
    exact q_reti (fun k : (Nat → Int32) × (Nat → Int32) => (wX5_now cI cJ cZ cS a_t a_s a_keptS a_statuses a_pile a_tape a_steps a_wish a_mark a_bitsOf a_sizeOf a_number a_moved v_isKept v_taped v_at v_fault v_laid v_open v_s k.1 k.2)) fx hf h dX5_now_106
  have c1 := not_or.mp c1
  rcases it_or hf with ⟨c3, hf⟩ | ⟨c3, hf⟩
  · refine lv_tableIn (off := 35) (tgt := 36) hx hb dX5_now_1 c1.1 c1.2 (by rw [c3]; rfl) (by decide) ?_
    refine lv_aload_n hx hb dX5_now_36 rfl (lv_at hl 0 rfl) ?_
    refine q_get (v := .ref a_s) fx inX5 h 0 rfl rfl 0 (by decide) k_636 rfl dX5_now_37 ?_
    refine lv_iconst (v := 1) hx hb dX5_now_40 (by decide) ?_
    refine q_ialdK fx h 1 rfl 1 (vinK (by decide)) (by decide) dX5_now_41 ?_
    exact q_reti (fun k : (Nat → Int32) × (Nat → Int32) => (wX5_now cI cJ cZ cS a_t a_s a_keptS a_statuses a_pile a_tape a_steps a_wish a_mark a_bitsOf a_sizeOf a_number a_moved v_isKept v_taped v_at v_fault v_laid v_open v_s k.1 k.2)) fx hf h dX5_now_42
  rcases it_or hf with ⟨c4, hf⟩ | ⟨c4, hf⟩
  · refine lv_tableIn (off := 42) (tgt := 43) hx hb dX5_now_1 c1.1 c1.2 (by rw [c4]; rfl) (by decide) ?_
    refine lv_aload_n hx hb dX5_now_43 rfl (lv_at hl 0 rfl) ?_
    refine q_get (v := .ref a_s) fx inX5 h 0 rfl rfl 0 (by decide) k_636 rfl dX5_now_44 ?_
    refine lv_iconst (v := 1) hx hb dX5_now_47 (by decide) ?_
    refine q_ialdK fx h 1 rfl 1 (vinK (by decide)) (by decide) dX5_now_48 ?_
    obtain ⟨r5, k5, hg, hf⟩ := bR_inv hf
    refine q_ci (rest := []) (ws' := (wX5_now cI cJ cZ cS a_t a_s a_keptS a_statuses a_pile a_tape a_steps a_wish a_mark a_bitsOf a_sizeOf a_number a_moved v_isKept v_taped v_at v_fault v_laid v_open v_s v_statuses v_pile)) (w1 := (wX5_ones cI cJ cZ cS)) fx h [] rfl rfl rfl rfl (q_runS fx h hl.1 [] rfl rfl (tX5_ones l D cI cJ cZ cS tb H.size (v_s 1) r5 k5 hg) msX5_ones k_722 ⟨rfl, rfl⟩ ⟨Nat.le_of_ble_eq_true rfl, Nat.le_of_ble_eq_true rfl⟩ rfl rfl (Nat.le_of_ble_eq_true rfl) dX5_now_49 ⟨Nat.le_of_ble_eq_true rfl, Nat.le_of_ble_eq_true rfl⟩) (fun H locs h => ?_)
    exact q_reti (fun k : (Nat → Int32) × (Nat → Int32) => (wX5_now cI cJ cZ cS a_t a_s a_keptS a_statuses a_pile a_tape a_steps a_wish a_mark a_bitsOf a_sizeOf a_number a_moved v_isKept v_taped v_at v_fault v_laid v_open v_s k.1 k.2)) fx hf h dX5_now_52
  rcases it_or hf with ⟨c6, hf⟩ | ⟨c6, hf⟩
  · refine lv_tableIn (off := 52) (tgt := 53) hx hb dX5_now_1 c1.1 c1.2 (by rw [c6]; rfl) (by decide) ?_
    refine lv_aload_n hx hb dX5_now_53 rfl (lv_at hl 0 rfl) ?_
    refine lv_aload_n hx hb dX5_now_54 rfl (lv_at hl 0 rfl) ?_
    refine q_get (v := .ref a_s) fx inX5 h 0 rfl rfl 0 (by decide) k_636 rfl dX5_now_55 ?_
    refine lv_iconst (v := 1) hx hb dX5_now_58 (by decide) ?_
    refine q_ialdK fx h 1 rfl 1 (vinK (by decide)) (by decide) dX5_now_59 ?_
    obtain ⟨r7, k7, hg, hf⟩ := bR_inv hf
    refine q_ci (rest := []) (ws' := (wX5_now cI cJ cZ cS a_t a_s a_keptS a_statuses a_pile a_tape a_steps a_wish a_mark a_bitsOf a_sizeOf a_number a_moved v_isKept v_taped v_at v_fault v_laid v_open v_s v_statuses k7)) (w1 := (wX5_would cI cJ cZ cS a_t a_s a_keptS a_statuses a_pile a_tape a_steps a_wish a_mark a_bitsOf a_sizeOf a_number a_moved v_isKept v_taped v_at v_fault v_laid v_open v_s k7)) fx h [0, 1, 3] rfl rfl rfl rfl (q_runV fx h hl.1 [0, 1, 3] rfl rfl (tX5_would l D cI cJ cZ cS tb a_t a_s a_keptS a_statuses a_pile a_tape a_steps a_wish a_mark a_bitsOf a_sizeOf a_number a_moved H.size v_isKept v_taped v_at v_fault v_laid v_open v_s v_pile (v_s 1) r7 k7 hg) mvX5_would k_818 ⟨rfl, rfl⟩ ⟨Nat.le_of_ble_eq_true rfl, Nat.le_of_ble_eq_true rfl⟩ rfl rfl rfl rfl (Nat.le_of_ble_eq_true rfl) dX5_now_60 ⟨Nat.le_of_ble_eq_true rfl, Nat.le_of_ble_eq_true rfl⟩) (fun H locs h => ?_)
    exact q_reti (fun k : (Nat → Int32) × (Nat → Int32) => (wX5_now cI cJ cZ cS a_t a_s a_keptS a_statuses a_pile a_tape a_steps a_wish a_mark a_bitsOf a_sizeOf a_number a_moved v_isKept v_taped v_at v_fault v_laid v_open v_s k.1 k.2)) fx hf h dX5_now_63
  rcases it_or hf with ⟨c8, hf⟩ | ⟨c8, hf⟩
  · refine lv_tableIn (off := 63) (tgt := 64) hx hb dX5_now_1 c1.1 c1.2 (by rw [c8]; rfl) (by decide) ?_
    refine lv_aload_n hx hb dX5_now_64 rfl (lv_at hl 0 rfl) ?_
    refine lv_aload_n hx hb dX5_now_65 rfl (lv_at hl 0 rfl) ?_
    refine q_get (v := .ref a_s) fx inX5 h 0 rfl rfl 0 (by decide) k_636 rfl dX5_now_66 ?_
    refine lv_iconst (v := 1) hx hb dX5_now_69 (by decide) ?_
    refine q_ialdK fx h 1 rfl 1 (vinK (by decide)) (by decide) dX5_now_70 ?_
    obtain ⟨r9, k9, hg, hf⟩ := bR_inv hf
    refine q_ci (rest := []) (ws' := (wX5_now cI cJ cZ cS a_t a_s a_keptS a_statuses a_pile a_tape a_steps a_wish a_mark a_bitsOf a_sizeOf a_number a_moved v_isKept v_taped v_at v_fault v_laid v_open v_s v_statuses k9)) (w1 := (wX5_would cI cJ cZ cS a_t a_s a_keptS a_statuses a_pile a_tape a_steps a_wish a_mark a_bitsOf a_sizeOf a_number a_moved v_isKept v_taped v_at v_fault v_laid v_open v_s k9)) fx h [0, 1, 3] rfl rfl rfl rfl (q_runV fx h hl.1 [0, 1, 3] rfl rfl (tX5_would l D cI cJ cZ cS tb a_t a_s a_keptS a_statuses a_pile a_tape a_steps a_wish a_mark a_bitsOf a_sizeOf a_number a_moved H.size v_isKept v_taped v_at v_fault v_laid v_open v_s v_pile (v_s 1) r9 k9 hg) mvX5_would k_818 ⟨rfl, rfl⟩ ⟨Nat.le_of_ble_eq_true rfl, Nat.le_of_ble_eq_true rfl⟩ rfl rfl rfl rfl (Nat.le_of_ble_eq_true rfl) dX5_now_71 ⟨Nat.le_of_ble_eq_true rfl, Nat.le_of_ble_eq_true rfl⟩) (fun H locs h => ?_)
    refine lv_aload_n hx hb dX5_now_74 rfl (lv_at hl 0 rfl) ?_
    refine q_get (v := .ref a_s) fx inX5 h 0 rfl rfl 0 (by decide) k_636 rfl dX5_now_75 ?_
    refine lv_iconst (v := 1) hx hb dX5_now_78 (by decide) ?_
    refine q_ialdK fx h 1 rfl 1 (vinK (by decide)) (by decide) dX5_now_79 ?_
    refine lv_icmp_ne (tgt := 87) hx hb dX5_now_80 (by decide) (fun c10 => ?_) (fun c10 => ?_)
    · have hf := it_f c10 hf
      refine lv_iconst (v := 0) hx hb dX5_now_87 (by decide) ?_
      exact q_reti (fun k : (Nat → Int32) × (Nat → Int32) => (wX5_now cI cJ cZ cS a_t a_s a_keptS a_statuses a_pile a_tape a_steps a_wish a_mark a_bitsOf a_sizeOf a_number a_moved v_isKept v_taped v_at v_fault v_laid v_open v_s k.1 k.2)) fx hf h dX5_now_88
    have hf := it_t c10 hf
    refine lv_iconst (v := 1) hx hb dX5_now_83 (by decide) ?_
    refine lv_goto (tgt := 88) hx hb dX5_now_84 (by decide) ?_
    exact q_reti (fun k : (Nat → Int32) × (Nat → Int32) => (wX5_now cI cJ cZ cS a_t a_s a_keptS a_statuses a_pile a_tape a_steps a_wish a_mark a_bitsOf a_sizeOf a_number a_moved v_isKept v_taped v_at v_fault v_laid v_open v_s k.1 k.2)) fx hf h dX5_now_88
  rcases it_or hf with ⟨c11, hf⟩ | ⟨c11, hf⟩
  · refine lv_tableIn (off := 88) (tgt := 89) hx hb dX5_now_1 c1.1 c1.2 (by rw [c11]; rfl) (by decide) ?_
    refine lv_aload_n hx hb dX5_now_89 rfl (lv_at hl 0 rfl) ?_
    refine lv_aload_n hx hb dX5_now_90 rfl (lv_at hl 0 rfl) ?_
    refine q_get (v := .ref a_s) fx inX5 h 0 rfl rfl 0 (by decide) k_636 rfl dX5_now_91 ?_
    refine lv_iconst (v := 1) hx hb dX5_now_94 (by decide) ?_
    refine q_ialdK fx h 1 rfl 1 (vinK (by decide)) (by decide) dX5_now_95 ?_
    obtain ⟨r12, k12, hg, hf⟩ := bR_inv hf
    refine q_ci (rest := []) (ws' := (wX5_now cI cJ cZ cS a_t a_s a_keptS a_statuses a_pile a_tape a_steps a_wish a_mark a_bitsOf a_sizeOf a_number a_moved v_isKept v_taped v_at v_fault v_laid v_open v_s v_statuses v_pile)) (w1 := (wX5_costOf cI cJ cZ cS a_t a_s a_keptS a_statuses a_pile a_tape a_steps a_wish a_mark a_bitsOf a_sizeOf a_number a_moved v_isKept v_taped v_at v_fault v_laid v_open v_s)) fx h [0, 1] rfl rfl rfl rfl (q_runV fx h hl.1 [0, 1] rfl rfl (tX5_costOf l D cI cJ cZ cS tb a_t a_s a_keptS a_statuses a_pile a_tape a_steps a_wish a_mark a_bitsOf a_sizeOf a_number a_moved H.size v_isKept v_taped v_at v_fault v_laid v_open v_s (v_s 1) r12 k12 hg) mvX5_costOf k_822 ⟨rfl, rfl⟩ ⟨Nat.le_of_ble_eq_true rfl, Nat.le_of_ble_eq_true rfl⟩ rfl rfl rfl rfl (Nat.le_of_ble_eq_true rfl) dX5_now_96 ⟨Nat.le_of_ble_eq_true rfl, Nat.le_of_ble_eq_true rfl⟩) (fun H locs h => ?_)
    exact q_reti (fun k : (Nat → Int32) × (Nat → Int32) => (wX5_now cI cJ cZ cS a_t a_s a_keptS a_statuses a_pile a_tape a_steps a_wish a_mark a_bitsOf a_sizeOf a_number a_moved v_isKept v_taped v_at v_fault v_laid v_open v_s k.1 k.2)) fx hf h dX5_now_99
  cases hf
/-! X5_called -/
abbrev wX5_called (cI cJ cZ cS : ClassId) (a_t a_s a_keptS a_statuses a_pile a_tape a_steps a_wish a_mark a_bitsOf a_sizeOf a_number a_moved : Nat) (v_isKept : Int32) (v_taped : Int32) (v_at : Int32) (v_fault : Int32) (v_laid : Int32) (v_open : Int32) (v_s : Nat → Int32) (v_pile : Nat → Int32) : va_W := [(a_t, .inr (5, [.ref a_s, .ref a_keptS, .ref a_statuses, .int v_isKept, .ref a_pile, .ref a_tape, .ref a_steps, .int v_taped, .int v_at, .int v_fault, .int v_laid, .int v_open, .ref a_wish, .ref a_mark, .ref a_bitsOf, .ref a_sizeOf, .ref a_number, .ref a_moved])), (a_s, .inl (cI, 538, .inl v_s)), (a_pile, .inl (cZ, 64, .inl v_pile))]
abbrev rX5_called : Room := { frames := 4, cells := 0, slots := 0, locals := 93 }
def fX5_called_23 (v_s : Nat → Int32) (v_pile : Nat → Int32) (s0 : Int32) (s1 : Int32) : Option (Int32 × (Nat → Int32)) :=
  some (s0 ||| s1, v_pile)
set_option maxRecDepth 100000 in
set_option maxHeartbeats 4000000 in
theorem LX5_called_23 {p : Program} {l : Launch} {e : Env} {s : State} {m : MethodId} {args : Array Value} {below : List Frame} {meth : Method} {c : Code} {D : va_G} {cI cJ cZ cS : ClassId} {tb : Nat} {A : Nat → Prop} {a_t a_s a_keptS a_statuses a_pile a_tape a_steps a_wish a_mark a_bitsOf a_sizeOf a_number a_moved : Nat} {v_isKept : Int32} {v_taped : Int32} {v_at : Int32} {v_fault : Int32} {v_laid : Int32} {v_open : Int32} {v_s : Nat → Int32} {rr : Int32} {kk' : (Nat → Int32)} (fx : q_Fx p s m args meth c cX5_called 3 RX5 (some .int) D cI cJ cZ cS tb A) : ∀ {v_pile : Nat → Int32} {s0 : Int32} {s1 : Int32} {H : Heap} {locs : List Loc} {ls : Array Slot}, q_H D A s (wX5_called cI cJ cZ cS a_t a_s a_keptS a_statuses a_pile a_tape a_steps a_wish a_mark a_bitsOf a_sizeOf a_number a_moved v_isKept v_taped v_at v_fault v_laid v_open v_s v_pile) H locs → lv_has ls 3 [] → fX5_called_23 v_s v_pile s0 s1 = some (rr, kk') → W p l e rX5_called s m args below meth c H locs 0 0 (MQ below (q_Ri D rr A ((fun k : (Nat → Int32) => (wX5_called cI cJ cZ cS a_t a_s a_keptS a_statuses a_pile a_tape a_steps a_wish a_mark a_bitsOf a_sizeOf a_number a_moved v_isKept v_taped v_at v_fault v_laid v_open v_s k)) kk')) args s 0 0 A) (F0 m 23 ls [.int s1, .int s0]) := by
  intro v_pile s0 s1 H locs ls h hl hf
  have hx := fx.1
  have hb := fx.2.1
  unfold fX5_called_23 at hf
  refine lv_ior hx hb dX5_called_23 ?_
  exact q_reti (fun k : (Nat → Int32) => (wX5_called cI cJ cZ cS a_t a_s a_keptS a_statuses a_pile a_tape a_steps a_wish a_mark a_bitsOf a_sizeOf a_number a_moved v_isKept v_taped v_at v_fault v_laid v_open v_s k)) fx hf h dX5_called_24
def fX5_called (v_s : Nat → Int32) (v_pile : Nat → Int32) (x1 : Int32) (x2 : Int32) : Option (Int32 × (Nat → Int32)) :=
  bR (fX5_comesBy v_s v_pile x2 x1) (fun r1 k1 =>
  (if r1 = 0 then (
  fX5_called_23 v_s k1 (x1 &&& ((jshl 1 x2) ^^^ (-1))) 0)
  else (
  fX5_called_23 v_s k1 (x1 &&& ((jshl 1 x2) ^^^ (-1))) (jshl 1 x2))))
set_option maxRecDepth 100000 in
set_option maxHeartbeats 4000000 in
theorem tX5_called (l : Launch) (D : va_G) (cI cJ cZ cS : ClassId) (tb : Nat) (a_t a_s a_keptS a_statuses a_pile a_tape a_steps a_wish a_mark a_bitsOf a_sizeOf a_number a_moved : Nat) (sz : Nat) (v_isKept : Int32) (v_taped : Int32) (v_at : Int32) (v_fault : Int32) (v_laid : Int32) (v_open : Int32) (v_s : Nat → Int32) (v_pile : Nat → Int32) (x1 : Int32) (x2 : Int32) (rr : Int32) (kk' : (Nat → Int32)) (hf : fX5_called v_s v_pile x1 x2 = some (rr, kk')) : Met l yX5_called (Cond.code yX5_called cX5_called 3 (some .int) :: wA) rX5_called (q_Pre D cI cJ cZ cS tb [.ref a_t, .int x1, .int x2] sz (wX5_called cI cJ cZ cS a_t a_s a_keptS a_statuses a_pile a_tape a_steps a_wish a_mark a_bitsOf a_sizeOf a_number a_moved v_isKept v_taped v_at v_fault v_laid v_open v_s v_pile)) (q_Ri D rr (va_A (wX5_called cI cJ cZ cS a_t a_s a_keptS a_statuses a_pile a_tape a_steps a_wish a_mark a_bitsOf a_sizeOf a_number a_moved v_isKept v_taped v_at v_fault v_laid v_open v_s v_pile) sz) ((fun k : (Nat → Int32) => (wX5_called cI cJ cZ cS a_t a_s a_keptS a_statuses a_pile a_tape a_steps a_wish a_mark a_bitsOf a_sizeOf a_number a_moved v_isKept v_taped v_at v_fault v_laid v_open v_s k)) kk')) 0 0 (va_A (wX5_called cI cJ cZ cS a_t a_s a_keptS a_statuses a_pile a_tape a_steps a_wish a_mark a_bitsOf a_sizeOf a_number a_moved v_isKept v_taped v_at v_fault v_laid v_open v_s v_pile) sz) := by
  refine q_enter (Qf := fun A => (q_Ri D rr A ((fun k : (Nat → Int32) => (wX5_called cI cJ cZ cS a_t a_s a_keptS a_statuses a_pile a_tape a_steps a_wish a_mark a_bitsOf a_sizeOf a_number a_moved v_isKept v_taped v_at v_fault v_laid v_open v_s k)) kk'))) (by decide) rfl (Nat.le_of_ble_eq_true rfl) ?_
  intro p e s m below meth c A ls fx hname h hl
  have hx := fx.1
  have hb := fx.2.1
  have hl : lv_has ls 3 [(0, .ref a_t), (1, .int x1), (2, .int x2)] := hl
  generalize h9 : s.heap = H at h ⊢
  clear h9
  generalize h9 : ([] : List Loc) = locs at h ⊢
  clear h9
  unfold fX5_called at hf
  refine lv_iload_n hx hb dX5_called_0 rfl (lv_at hl 1 rfl) ?_
  refine lv_iconst (v := 1) hx hb dX5_called_1 (by decide) ?_
  refine lv_iload_n hx hb dX5_called_2 rfl (lv_at hl 2 rfl) ?_
  refine lv_ishl hx hb dX5_called_3 ?_
  refine lv_iconst (v := -1) hx hb dX5_called_4 (by decide) ?_
  refine lv_ixor hx hb dX5_called_5 ?_
  refine lv_iand hx hb dX5_called_6 ?_
  refine lv_aload_n hx hb dX5_called_7 rfl (lv_at hl 0 rfl) ?_
  refine lv_iload_n hx hb dX5_called_8 rfl (lv_at hl 2 rfl) ?_
  refine lv_iload_n hx hb dX5_called_9 rfl (lv_at hl 1 rfl) ?_
  obtain ⟨r1, k1, hg, hf⟩ := bR_inv hf
  refine q_ci (rest := [.int (x1 &&& ((jshl 1 x2) ^^^ (-1)))]) (ws' := (wX5_called cI cJ cZ cS a_t a_s a_keptS a_statuses a_pile a_tape a_steps a_wish a_mark a_bitsOf a_sizeOf a_number a_moved v_isKept v_taped v_at v_fault v_laid v_open v_s k1)) (w1 := (wX5_comesBy cI cJ cZ cS a_t a_s a_keptS a_statuses a_pile a_tape a_steps a_wish a_mark a_bitsOf a_sizeOf a_number a_moved v_isKept v_taped v_at v_fault v_laid v_open v_s k1)) fx h [0, 1, 2] rfl rfl rfl rfl (q_runV fx h hl.1 [0, 1, 2] rfl rfl (tX5_comesBy l D cI cJ cZ cS tb a_t a_s a_keptS a_statuses a_pile a_tape a_steps a_wish a_mark a_bitsOf a_sizeOf a_number a_moved H.size v_isKept v_taped v_at v_fault v_laid v_open v_s v_pile x2 x1 r1 k1 hg) mvX5_comesBy k_715 ⟨rfl, rfl⟩ ⟨Nat.le_of_ble_eq_true rfl, Nat.le_of_ble_eq_true rfl⟩ rfl rfl rfl rfl (Nat.le_of_ble_eq_true rfl) dX5_called_10 ⟨Nat.le_of_ble_eq_true rfl, Nat.le_of_ble_eq_true rfl⟩) (fun H locs h => ?_)
  refine lv_if_eq (tgt := 22) hx hb dX5_called_13 (by decide) (fun c2 => ?_) (fun c2 => ?_)
  · have hf := it_t c2 hf
    refine lv_iconst (v := 0) hx hb dX5_called_22 (by decide) ?_
    exact LX5_called_23 fx h (lv_sub hl [] rfl) hf
  have hf := it_f c2 hf
  refine lv_iconst (v := 1) hx hb dX5_called_16 (by decide) ?_
  refine lv_iload_n hx hb dX5_called_17 rfl (lv_at hl 2 rfl) ?_
  refine lv_ishl hx hb dX5_called_18 ?_
  refine lv_goto (tgt := 23) hx hb dX5_called_19 (by decide) ?_
  exact LX5_called_23 fx h (lv_sub hl [] rfl) hf
/-! X5_calling -/
abbrev wX5_calling (cI cJ cZ cS : ClassId) (a_t a_s a_keptS a_statuses a_pile a_tape a_steps a_wish a_mark a_bitsOf a_sizeOf a_number a_moved : Nat) (v_isKept : Int32) (v_taped : Int32) (v_at : Int32) (v_fault : Int32) (v_laid : Int32) (v_open : Int32) (v_s : Nat → Int32) (v_pile : Nat → Int32) : va_W := [(a_t, .inr (5, [.ref a_s, .ref a_keptS, .ref a_statuses, .int v_isKept, .ref a_pile, .ref a_tape, .ref a_steps, .int v_taped, .int v_at, .int v_fault, .int v_laid, .int v_open, .ref a_wish, .ref a_mark, .ref a_bitsOf, .ref a_sizeOf, .ref a_number, .ref a_moved])), (a_s, .inl (cI, 538, .inl v_s)), (a_pile, .inl (cZ, 64, .inl v_pile))]
abbrev rX5_calling : Room := { frames := 5, cells := 0, slots := 0, locals := 115 }
def fX5_calling (v_s : Nat → Int32) (v_pile : Nat → Int32) (x1 : Int32) : Option (Int32 × (Nat → Int32) × (Nat → Int32)) :=
  nm (v_s 1) (fun u1 =>
  bR (fX5_called v_s v_pile u1 x1) (fun r2 k2 =>
  (if ((upd v_s 1 r2) 1) = u1 then (
  some (0, ((upd v_s 1 r2), k2)))
  else (
  some (1, ((upd v_s 1 r2), k2))))))
set_option maxRecDepth 100000 in
set_option maxHeartbeats 4000000 in
theorem tX5_calling (l : Launch) (D : va_G) (cI cJ cZ cS : ClassId) (tb : Nat) (a_t a_s a_keptS a_statuses a_pile a_tape a_steps a_wish a_mark a_bitsOf a_sizeOf a_number a_moved : Nat) (sz : Nat) (v_isKept : Int32) (v_taped : Int32) (v_at : Int32) (v_fault : Int32) (v_laid : Int32) (v_open : Int32) (v_s : Nat → Int32) (v_pile : Nat → Int32) (x1 : Int32) (rr : Int32) (kk' : (Nat → Int32) × (Nat → Int32)) (hf : fX5_calling v_s v_pile x1 = some (rr, kk')) : Met l yX5_calling (Cond.code yX5_calling cX5_calling 3 (some .int) :: wA) rX5_calling (q_Pre D cI cJ cZ cS tb [.ref a_t, .int x1] sz (wX5_calling cI cJ cZ cS a_t a_s a_keptS a_statuses a_pile a_tape a_steps a_wish a_mark a_bitsOf a_sizeOf a_number a_moved v_isKept v_taped v_at v_fault v_laid v_open v_s v_pile)) (q_Ri D rr (va_A (wX5_calling cI cJ cZ cS a_t a_s a_keptS a_statuses a_pile a_tape a_steps a_wish a_mark a_bitsOf a_sizeOf a_number a_moved v_isKept v_taped v_at v_fault v_laid v_open v_s v_pile) sz) ((fun k : (Nat → Int32) × (Nat → Int32) => (wX5_calling cI cJ cZ cS a_t a_s a_keptS a_statuses a_pile a_tape a_steps a_wish a_mark a_bitsOf a_sizeOf a_number a_moved v_isKept v_taped v_at v_fault v_laid v_open k.1 k.2)) kk')) 0 0 (va_A (wX5_calling cI cJ cZ cS a_t a_s a_keptS a_statuses a_pile a_tape a_steps a_wish a_mark a_bitsOf a_sizeOf a_number a_moved v_isKept v_taped v_at v_fault v_laid v_open v_s v_pile) sz) := by
  refine q_enter (Qf := fun A => (q_Ri D rr A ((fun k : (Nat → Int32) × (Nat → Int32) => (wX5_calling cI cJ cZ cS a_t a_s a_keptS a_statuses a_pile a_tape a_steps a_wish a_mark a_bitsOf a_sizeOf a_number a_moved v_isKept v_taped v_at v_fault v_laid v_open k.1 k.2)) kk'))) (by decide) rfl (Nat.le_of_ble_eq_true rfl) ?_
  intro p e s m below meth c A ls fx hname h hl
  have hx := fx.1
  have hb := fx.2.1
  have hl : lv_has ls 3 [(0, .ref a_t), (1, .int x1)] := hl
  generalize h9 : s.heap = H at h ⊢
  clear h9
  generalize h9 : ([] : List Loc) = locs at h ⊢
  clear h9
  unfold fX5_calling at hf
  refine lv_aload_n hx hb dX5_calling_0 rfl (lv_at hl 0 rfl) ?_
  refine q_get (v := .ref a_s) fx inX5 h 0 rfl rfl 0 (by decide) k_636 rfl dX5_calling_1 ?_
  refine lv_iconst (v := 1) hx hb dX5_calling_4 (by decide) ?_
  refine q_ialdK fx h 1 rfl 1 (vinK (by decide)) (by decide) dX5_calling_5 ?_
  obtain ⟨u1, eu1, hf⟩ := nm_inv hf
  refine lv_eqi eu1 ?_
  refine lv_istore_n (lv' := [(2, .int u1), (0, .ref a_t), (1, .int x1)]) hx hb dX5_calling_6 rfl hl (by decide) rfl (fun ls hl => ?_)
  refine lv_aload_n hx hb dX5_calling_7 rfl (lv_at hl 1 rfl) ?_
  refine q_get (v := .ref a_s) fx inX5 h 0 rfl rfl 0 (by decide) k_636 rfl dX5_calling_8 ?_
  refine lv_iconst (v := 1) hx hb dX5_calling_11 (by decide) ?_
  refine lv_aload_n hx hb dX5_calling_12 rfl (lv_at hl 1 rfl) ?_
  refine lv_iload_n hx hb dX5_calling_13 rfl (lv_at hl 0 rfl) ?_
  refine lv_iload_n hx hb dX5_calling_14 rfl (lv_at hl 2 rfl) ?_
  obtain ⟨r2, k2, hg, hf⟩ := bR_inv hf
  refine q_ci (rest := [.int 1, .ref a_s]) (ws' := (wX5_calling cI cJ cZ cS a_t a_s a_keptS a_statuses a_pile a_tape a_steps a_wish a_mark a_bitsOf a_sizeOf a_number a_moved v_isKept v_taped v_at v_fault v_laid v_open v_s k2)) (w1 := (wX5_called cI cJ cZ cS a_t a_s a_keptS a_statuses a_pile a_tape a_steps a_wish a_mark a_bitsOf a_sizeOf a_number a_moved v_isKept v_taped v_at v_fault v_laid v_open v_s k2)) fx h [0, 1, 2] rfl rfl rfl rfl (q_runV fx h hl.1 [0, 1, 2] rfl rfl (tX5_called l D cI cJ cZ cS tb a_t a_s a_keptS a_statuses a_pile a_tape a_steps a_wish a_mark a_bitsOf a_sizeOf a_number a_moved H.size v_isKept v_taped v_at v_fault v_laid v_open v_s v_pile u1 x1 r2 k2 hg) mvX5_called k_834 ⟨rfl, rfl⟩ ⟨Nat.le_of_ble_eq_true rfl, Nat.le_of_ble_eq_true rfl⟩ rfl rfl rfl rfl (Nat.le_of_ble_eq_true rfl) dX5_calling_15 ⟨Nat.le_of_ble_eq_true rfl, Nat.le_of_ble_eq_true rfl⟩) (fun H locs h => ?_)
  refine q_iastK (ws' := (wX5_calling cI cJ cZ cS a_t a_s a_keptS a_statuses a_pile a_tape a_steps a_wish a_mark a_bitsOf a_sizeOf a_number a_moved v_isKept v_taped v_at v_fault v_laid v_open (upd v_s 1 r2) k2)) fx h 1 rfl 1 (vinK (by decide)) (by decide) rfl dX5_calling_18 (fun H locs h => ?_)
  refine lv_aload_n hx hb dX5_calling_19 rfl (lv_at hl 1 rfl) ?_
  refine q_get (v := .ref a_s) fx inX5 h 0 rfl rfl 0 (by decide) k_636 rfl dX5_calling_20 ?_
  refine lv_iconst (v := 1) hx hb dX5_calling_23 (by decide) ?_
  refine q_ialdK fx h 1 rfl 1 (vinK (by decide)) (by decide) dX5_calling_24 ?_
  refine lv_iload_n hx hb dX5_calling_25 rfl (lv_at hl 0 rfl) ?_
  refine lv_icmp_ne (tgt := 33) hx hb dX5_calling_26 (by decide) (fun c3 => ?_) (fun c3 => ?_)
  · have hf := it_f c3 hf
    refine lv_iconst (v := 1) hx hb dX5_calling_33 (by decide) ?_
    exact q_reti (fun k : (Nat → Int32) × (Nat → Int32) => (wX5_calling cI cJ cZ cS a_t a_s a_keptS a_statuses a_pile a_tape a_steps a_wish a_mark a_bitsOf a_sizeOf a_number a_moved v_isKept v_taped v_at v_fault v_laid v_open k.1 k.2)) fx hf h dX5_calling_34
  have hf := it_t c3 hf
  refine lv_iconst (v := 0) hx hb dX5_calling_29 (by decide) ?_
  refine lv_goto (tgt := 34) hx hb dX5_calling_30 (by decide) ?_
  exact q_reti (fun k : (Nat → Int32) × (Nat → Int32) => (wX5_calling cI cJ cZ cS a_t a_s a_keptS a_statuses a_pile a_tape a_steps a_wish a_mark a_bitsOf a_sizeOf a_number a_moved v_isKept v_taped v_at v_fault v_laid v_open k.1 k.2)) fx hf h dX5_calling_34
/-! X5_call -/
abbrev wX5_call (cI cJ cZ cS : ClassId) (a_t a_s a_keptS a_statuses a_pile a_tape a_steps a_wish a_mark a_bitsOf a_sizeOf a_number a_moved : Nat) (v_isKept : Int32) (v_taped : Int32) (v_at : Int32) (v_fault : Int32) (v_laid : Int32) (v_open : Int32) (v_s : Nat → Int32) (v_statuses : Nat → Int32) (v_pile : Nat → Int32) : va_W := [(a_t, .inr (5, [.ref a_s, .ref a_keptS, .ref a_statuses, .int v_isKept, .ref a_pile, .ref a_tape, .ref a_steps, .int v_taped, .int v_at, .int v_fault, .int v_laid, .int v_open, .ref a_wish, .ref a_mark, .ref a_bitsOf, .ref a_sizeOf, .ref a_number, .ref a_moved])), (a_s, .inl (cI, 538, .inl v_s)), (a_statuses, .inl (cI, 7, .inl v_statuses)), (a_pile, .inl (cZ, 64, .inl v_pile))]
abbrev rX5_call : Room := { frames := 6, cells := 0, slots := 0, locals := 137 }
def fX5_call (v_s : Nat → Int32) (v_statuses : Nat → Int32) (v_pile : Nat → Int32) (x1 : Int32) : Option (Int32 × (Nat → Int32) × (Nat → Int32) × (Nat → Int32)) :=
  bR (fX5_isGuest v_s x1) (fun r1 k1 =>
  (if r1 = 0 then (
  bR (fX5_finds v_statuses (-1000000001)) (fun r3 k3 =>
  some (r3, (v_s, k3, v_pile))))
  else (
  bR (fX5_calling v_s v_pile x1) (fun r4 k4 =>
  some (r4, (k4.1, v_statuses, k4.2))))))
set_option maxRecDepth 100000 in
set_option maxHeartbeats 4000000 in
theorem tX5_call (l : Launch) (D : va_G) (cI cJ cZ cS : ClassId) (tb : Nat) (a_t a_s a_keptS a_statuses a_pile a_tape a_steps a_wish a_mark a_bitsOf a_sizeOf a_number a_moved : Nat) (sz : Nat) (v_isKept : Int32) (v_taped : Int32) (v_at : Int32) (v_fault : Int32) (v_laid : Int32) (v_open : Int32) (v_s : Nat → Int32) (v_statuses : Nat → Int32) (v_pile : Nat → Int32) (x1 : Int32) (rr : Int32) (kk' : (Nat → Int32) × (Nat → Int32) × (Nat → Int32)) (hf : fX5_call v_s v_statuses v_pile x1 = some (rr, kk')) : Met l yX5_call (Cond.code yX5_call cX5_call 2 (some .int) :: wA) rX5_call (q_Pre D cI cJ cZ cS tb [.ref a_t, .int x1] sz (wX5_call cI cJ cZ cS a_t a_s a_keptS a_statuses a_pile a_tape a_steps a_wish a_mark a_bitsOf a_sizeOf a_number a_moved v_isKept v_taped v_at v_fault v_laid v_open v_s v_statuses v_pile)) (q_Ri D rr (va_A (wX5_call cI cJ cZ cS a_t a_s a_keptS a_statuses a_pile a_tape a_steps a_wish a_mark a_bitsOf a_sizeOf a_number a_moved v_isKept v_taped v_at v_fault v_laid v_open v_s v_statuses v_pile) sz) ((fun k : (Nat → Int32) × (Nat → Int32) × (Nat → Int32) => (wX5_call cI cJ cZ cS a_t a_s a_keptS a_statuses a_pile a_tape a_steps a_wish a_mark a_bitsOf a_sizeOf a_number a_moved v_isKept v_taped v_at v_fault v_laid v_open k.1 k.2.1 k.2.2)) kk')) 0 0 (va_A (wX5_call cI cJ cZ cS a_t a_s a_keptS a_statuses a_pile a_tape a_steps a_wish a_mark a_bitsOf a_sizeOf a_number a_moved v_isKept v_taped v_at v_fault v_laid v_open v_s v_statuses v_pile) sz) := by
  refine q_enter (Qf := fun A => (q_Ri D rr A ((fun k : (Nat → Int32) × (Nat → Int32) × (Nat → Int32) => (wX5_call cI cJ cZ cS a_t a_s a_keptS a_statuses a_pile a_tape a_steps a_wish a_mark a_bitsOf a_sizeOf a_number a_moved v_isKept v_taped v_at v_fault v_laid v_open k.1 k.2.1 k.2.2)) kk'))) (by decide) rfl (Nat.le_of_ble_eq_true rfl) ?_
  intro p e s m below meth c A ls fx hname h hl
  have hx := fx.1
  have hb := fx.2.1
  have hl : lv_has ls 2 [(0, .ref a_t), (1, .int x1)] := hl
  generalize h9 : s.heap = H at h ⊢
  clear h9
  generalize h9 : ([] : List Loc) = locs at h ⊢
  clear h9
  unfold fX5_call at hf
  refine lv_aload_n hx hb dX5_call_0 rfl (lv_at hl 0 rfl) ?_
  refine lv_iload_n hx hb dX5_call_1 rfl (lv_at hl 1 rfl) ?_
  obtain ⟨r1, k1, hg, hf⟩ := bR_inv hf
  refine q_ci (rest := []) (ws' := (wX5_call cI cJ cZ cS a_t a_s a_keptS a_statuses a_pile a_tape a_steps a_wish a_mark a_bitsOf a_sizeOf a_number a_moved v_isKept v_taped v_at v_fault v_laid v_open v_s v_statuses v_pile)) (w1 := (wX5_isGuest cI cJ cZ cS a_t a_s a_keptS a_statuses a_pile a_tape a_steps a_wish a_mark a_bitsOf a_sizeOf a_number a_moved v_isKept v_taped v_at v_fault v_laid v_open v_s)) fx h [0, 1] rfl rfl rfl rfl (q_runV fx h hl.1 [0, 1] rfl rfl (tX5_isGuest l D cI cJ cZ cS tb a_t a_s a_keptS a_statuses a_pile a_tape a_steps a_wish a_mark a_bitsOf a_sizeOf a_number a_moved H.size v_isKept v_taped v_at v_fault v_laid v_open v_s x1 r1 k1 hg) mvX5_isGuest k_711 ⟨rfl, rfl⟩ ⟨Nat.le_of_ble_eq_true rfl, Nat.le_of_ble_eq_true rfl⟩ rfl rfl rfl rfl (Nat.le_of_ble_eq_true rfl) dX5_call_2 ⟨Nat.le_of_ble_eq_true rfl, Nat.le_of_ble_eq_true rfl⟩) (fun H locs h => ?_)
  refine lv_if_eq (tgt := 16) hx hb dX5_call_5 (by decide) (fun c2 => ?_) (fun c2 => ?_)
  · have hf := it_t c2 hf
    refine lv_aload_n hx hb dX5_call_16 rfl (lv_at hl 0 rfl) ?_
    refine q_ldc fx k_701 dX5_call_17 ?_
    obtain ⟨r3, k3, hg, hf⟩ := bR_inv hf
    refine q_ci (rest := []) (ws' := (wX5_call cI cJ cZ cS a_t a_s a_keptS a_statuses a_pile a_tape a_steps a_wish a_mark a_bitsOf a_sizeOf a_number a_moved v_isKept v_taped v_at v_fault v_laid v_open v_s k3 v_pile)) (w1 := (wX5_finds cI cJ cZ cS a_t a_s a_keptS a_statuses a_pile a_tape a_steps a_wish a_mark a_bitsOf a_sizeOf a_number a_moved v_isKept v_taped v_at v_fault v_laid v_open k3)) fx h [0, 2] rfl rfl rfl rfl (q_runV fx h hl.1 [0, 2] rfl rfl (tX5_finds l D cI cJ cZ cS tb a_t a_s a_keptS a_statuses a_pile a_tape a_steps a_wish a_mark a_bitsOf a_sizeOf a_number a_moved H.size v_isKept v_taped v_at v_fault v_laid v_open v_statuses (-1000000001) r3 k3 hg) mvX5_finds k_702 ⟨rfl, rfl⟩ ⟨Nat.le_of_ble_eq_true rfl, Nat.le_of_ble_eq_true rfl⟩ rfl rfl rfl rfl (Nat.le_of_ble_eq_true rfl) dX5_call_19 ⟨Nat.le_of_ble_eq_true rfl, Nat.le_of_ble_eq_true rfl⟩) (fun H locs h => ?_)
    exact q_reti (fun k : (Nat → Int32) × (Nat → Int32) × (Nat → Int32) => (wX5_call cI cJ cZ cS a_t a_s a_keptS a_statuses a_pile a_tape a_steps a_wish a_mark a_bitsOf a_sizeOf a_number a_moved v_isKept v_taped v_at v_fault v_laid v_open k.1 k.2.1 k.2.2)) fx hf h dX5_call_22
  have hf := it_f c2 hf
  refine lv_aload_n hx hb dX5_call_8 rfl (lv_at hl 0 rfl) ?_
  refine lv_iload_n hx hb dX5_call_9 rfl (lv_at hl 1 rfl) ?_
  obtain ⟨r4, k4, hg, hf⟩ := bR_inv hf
  refine q_ci (rest := []) (ws' := (wX5_call cI cJ cZ cS a_t a_s a_keptS a_statuses a_pile a_tape a_steps a_wish a_mark a_bitsOf a_sizeOf a_number a_moved v_isKept v_taped v_at v_fault v_laid v_open k4.1 v_statuses k4.2)) (w1 := (wX5_calling cI cJ cZ cS a_t a_s a_keptS a_statuses a_pile a_tape a_steps a_wish a_mark a_bitsOf a_sizeOf a_number a_moved v_isKept v_taped v_at v_fault v_laid v_open k4.1 k4.2)) fx h [0, 1, 3] rfl rfl rfl rfl (q_runV fx h hl.1 [0, 1, 3] rfl rfl (tX5_calling l D cI cJ cZ cS tb a_t a_s a_keptS a_statuses a_pile a_tape a_steps a_wish a_mark a_bitsOf a_sizeOf a_number a_moved H.size v_isKept v_taped v_at v_fault v_laid v_open v_s v_pile x1 r4 k4 hg) mvX5_calling k_830 ⟨rfl, rfl⟩ ⟨Nat.le_of_ble_eq_true rfl, Nat.le_of_ble_eq_true rfl⟩ rfl rfl rfl rfl (Nat.le_of_ble_eq_true rfl) dX5_call_10 ⟨Nat.le_of_ble_eq_true rfl, Nat.le_of_ble_eq_true rfl⟩) (fun H locs h => ?_)
  refine lv_goto (tgt := 22) hx hb dX5_call_13 (by decide) ?_
  exact q_reti (fun k : (Nat → Int32) × (Nat → Int32) × (Nat → Int32) => (wX5_call cI cJ cZ cS a_t a_s a_keptS a_statuses a_pile a_tape a_steps a_wish a_mark a_bitsOf a_sizeOf a_number a_moved v_isKept v_taped v_at v_fault v_laid v_open k.1 k.2.1 k.2.2)) fx hf h dX5_call_22
/-! X5_calls -/
abbrev wX5_calls (cI cJ cZ cS : ClassId) (a_t a_s a_keptS a_statuses a_pile a_tape a_steps a_wish a_mark a_bitsOf a_sizeOf a_number a_moved : Nat) (v_isKept : Int32) (v_taped : Int32) (v_at : Int32) (v_fault : Int32) (v_laid : Int32) (v_open : Int32) (v_s : Nat → Int32) (v_statuses : Nat → Int32) (v_pile : Nat → Int32) : va_W := [(a_t, .inr (5, [.ref a_s, .ref a_keptS, .ref a_statuses, .int v_isKept, .ref a_pile, .ref a_tape, .ref a_steps, .int v_taped, .int v_at, .int v_fault, .int v_laid, .int v_open, .ref a_wish, .ref a_mark, .ref a_bitsOf, .ref a_sizeOf, .ref a_number, .ref a_moved])), (a_s, .inl (cI, 538, .inl v_s)), (a_statuses, .inl (cI, 7, .inl v_statuses)), (a_pile, .inl (cZ, 64, .inl v_pile))]
abbrev rX5_calls : Room := { frames := 6, cells := 0, slots := 0, locals := 137 }
def fX5_calls_31 (ag23 : (Nat → Int32) → (Nat → Int32) → (Nat → Int32) → Int32 → Int32 → Int32 → Option (Int32 × (Nat → Int32) × (Nat → Int32) × (Nat → Int32))) (ag31 : (Nat → Int32) → (Nat → Int32) → (Nat → Int32) → Int32 → Int32 → Int32 → Int32 → Option (Int32 × (Nat → Int32) × (Nat → Int32) × (Nat → Int32))) (v_s : Nat → Int32) (v_statuses : Nat → Int32) (v_pile : Nat → Int32) (y1 : Int32) (y2 : Int32) (y3 : Int32) (y4 : Int32) : Option (Int32 × (Nat → Int32) × (Nat → Int32) × (Nat → Int32)) :=
  (if (v_s 0) ≤ y4 then (
  nm (y3 + 1) (fun u2 =>
  ag23 v_s v_statuses v_pile y1 y2 u2))
  else (
  bR (fX5_calling v_s v_pile y4) (fun r3 k3 =>
  nm (y2 + r3) (fun u4 =>
  nm (y4 + 1) (fun u5 =>
  ag31 k3.1 v_statuses k3.2 y1 u4 y3 u5)))))
set_option maxRecDepth 100000 in
set_option maxHeartbeats 4000000 in
theorem LX5_calls_31 {p : Program} {l : Launch} {e : Env} {s : State} {m : MethodId} {args : Array Value} {below : List Frame} {meth : Method} {c : Code} {D : va_G} {cI cJ cZ cS : ClassId} {tb : Nat} {A : Nat → Prop} {a_t a_s a_keptS a_statuses a_pile a_tape a_steps a_wish a_mark a_bitsOf a_sizeOf a_number a_moved : Nat} {v_isKept : Int32} {v_taped : Int32} {v_at : Int32} {v_fault : Int32} {v_laid : Int32} {v_open : Int32} {rr : Int32} {kk' : (Nat → Int32) × (Nat → Int32) × (Nat → Int32)} (fx : q_Fx p s m args meth c cX5_calls 5 RX5 (some .int) D cI cJ cZ cS tb A) {ag23 : (Nat → Int32) → (Nat → Int32) → (Nat → Int32) → Int32 → Int32 → Int32 → Option (Int32 × (Nat → Int32) × (Nat → Int32) × (Nat → Int32))} (hag23 : ∀ {v_s : Nat → Int32} {v_statuses : Nat → Int32} {v_pile : Nat → Int32} {y1 : Int32} {y2 : Int32} {y3 : Int32} {H : Heap} {locs : List Loc} {ls : Array Slot}, q_H D A s (wX5_calls cI cJ cZ cS a_t a_s a_keptS a_statuses a_pile a_tape a_steps a_wish a_mark a_bitsOf a_sizeOf a_number a_moved v_isKept v_taped v_at v_fault v_laid v_open v_s v_statuses v_pile) H locs → lv_has ls 5 [(0, .ref a_t), (1, .int y1), (2, .int y2), (3, .int y3)] → ag23 v_s v_statuses v_pile y1 y2 y3 = some (rr, kk') → W p l e rX5_calls s m args below meth c H locs 0 0 (MQ below (q_Ri D rr A ((fun k : (Nat → Int32) × (Nat → Int32) × (Nat → Int32) => (wX5_calls cI cJ cZ cS a_t a_s a_keptS a_statuses a_pile a_tape a_steps a_wish a_mark a_bitsOf a_sizeOf a_number a_moved v_isKept v_taped v_at v_fault v_laid v_open k.1 k.2.1 k.2.2)) kk')) args s 0 0 A) (F0 m 23 ls [])) {ag31 : (Nat → Int32) → (Nat → Int32) → (Nat → Int32) → Int32 → Int32 → Int32 → Int32 → Option (Int32 × (Nat → Int32) × (Nat → Int32) × (Nat → Int32))} (hag31 : ∀ {v_s : Nat → Int32} {v_statuses : Nat → Int32} {v_pile : Nat → Int32} {y1 : Int32} {y2 : Int32} {y3 : Int32} {y4 : Int32} {H : Heap} {locs : List Loc} {ls : Array Slot}, q_H D A s (wX5_calls cI cJ cZ cS a_t a_s a_keptS a_statuses a_pile a_tape a_steps a_wish a_mark a_bitsOf a_sizeOf a_number a_moved v_isKept v_taped v_at v_fault v_laid v_open v_s v_statuses v_pile) H locs → lv_has ls 5 [(0, .ref a_t), (1, .int y1), (2, .int y2), (3, .int y3), (4, .int y4)] → ag31 v_s v_statuses v_pile y1 y2 y3 y4 = some (rr, kk') → W p l e rX5_calls s m args below meth c H locs 0 0 (MQ below (q_Ri D rr A ((fun k : (Nat → Int32) × (Nat → Int32) × (Nat → Int32) => (wX5_calls cI cJ cZ cS a_t a_s a_keptS a_statuses a_pile a_tape a_steps a_wish a_mark a_bitsOf a_sizeOf a_number a_moved v_isKept v_taped v_at v_fault v_laid v_open k.1 k.2.1 k.2.2)) kk')) args s 0 0 A) (F0 m 31 ls [])) : ∀ {v_s : Nat → Int32} {v_statuses : Nat → Int32} {v_pile : Nat → Int32} {y1 : Int32} {y2 : Int32} {y3 : Int32} {y4 : Int32} {H : Heap} {locs : List Loc} {ls : Array Slot}, q_H D A s (wX5_calls cI cJ cZ cS a_t a_s a_keptS a_statuses a_pile a_tape a_steps a_wish a_mark a_bitsOf a_sizeOf a_number a_moved v_isKept v_taped v_at v_fault v_laid v_open v_s v_statuses v_pile) H locs → lv_has ls 5 [(0, .ref a_t), (1, .int y1), (2, .int y2), (3, .int y3), (4, .int y4)] → fX5_calls_31 ag23 ag31 v_s v_statuses v_pile y1 y2 y3 y4 = some (rr, kk') → W p l e rX5_calls s m args below meth c H locs 0 0 (MQ below (q_Ri D rr A ((fun k : (Nat → Int32) × (Nat → Int32) × (Nat → Int32) => (wX5_calls cI cJ cZ cS a_t a_s a_keptS a_statuses a_pile a_tape a_steps a_wish a_mark a_bitsOf a_sizeOf a_number a_moved v_isKept v_taped v_at v_fault v_laid v_open k.1 k.2.1 k.2.2)) kk')) args s 0 0 A) (F0 m 31 ls []) := by
  intro v_s v_statuses v_pile y1 y2 y3 y4 H locs ls h hl hf
  have hx := fx.1
  have hb := fx.2.1
  unfold fX5_calls_31 at hf
  refine lv_iload hx hb dX5_calls_31 (lv_at hl 4 rfl) ?_
  refine lv_aload_n hx hb dX5_calls_33 rfl (lv_at hl 0 rfl) ?_
  refine q_get (v := .ref a_s) fx inX5 h 0 rfl rfl 0 (by decide) k_636 rfl dX5_calls_34 ?_
  refine lv_iconst (v := 0) hx hb dX5_calls_37 (by decide) ?_
  refine q_ialdK fx h 1 rfl 0 (vinK (by decide)) (by decide) dX5_calls_38 ?_
  refine lv_icmp_ge (tgt := 57) hx hb dX5_calls_39 (by decide) (fun c1 => ?_) (fun c1 => ?_)
  · have hf := it_t c1 hf
    obtain ⟨u2, eu2, hf⟩ := nm_inv hf
    refine lv_iinc (v := u2) (lv' := [(3, .int u2), (0, .ref a_t), (1, .int y1), (2, .int y2), (4, .int y4)]) hx hb dX5_calls_57 hl (k := 3) rfl (by rw [eu2]; rfl) (by decide) rfl (fun ls hl => ?_)
    refine lv_goto (tgt := 23) hx hb dX5_calls_60 (by decide) ?_
    exact hag23 h (lv_sub hl [1, 2, 3, 0] rfl) hf
  have hf := it_f c1 hf
  refine lv_iload_n hx hb dX5_calls_42 rfl (lv_at hl 2 rfl) ?_
  refine lv_aload_n hx hb dX5_calls_43 rfl (lv_at hl 0 rfl) ?_
  refine lv_iload hx hb dX5_calls_44 (lv_at hl 4 rfl) ?_
  obtain ⟨r3, k3, hg, hf⟩ := bR_inv hf
  refine q_ci (rest := [.int y2]) (ws' := (wX5_calls cI cJ cZ cS a_t a_s a_keptS a_statuses a_pile a_tape a_steps a_wish a_mark a_bitsOf a_sizeOf a_number a_moved v_isKept v_taped v_at v_fault v_laid v_open k3.1 v_statuses k3.2)) (w1 := (wX5_calling cI cJ cZ cS a_t a_s a_keptS a_statuses a_pile a_tape a_steps a_wish a_mark a_bitsOf a_sizeOf a_number a_moved v_isKept v_taped v_at v_fault v_laid v_open k3.1 k3.2)) fx h [0, 1, 3] rfl rfl rfl rfl (q_runV fx h hl.1 [0, 1, 3] rfl rfl (tX5_calling l D cI cJ cZ cS tb a_t a_s a_keptS a_statuses a_pile a_tape a_steps a_wish a_mark a_bitsOf a_sizeOf a_number a_moved H.size v_isKept v_taped v_at v_fault v_laid v_open v_s v_pile y4 r3 k3 hg) mvX5_calling k_830 ⟨rfl, rfl⟩ ⟨Nat.le_of_ble_eq_true rfl, Nat.le_of_ble_eq_true rfl⟩ rfl rfl rfl rfl (Nat.le_of_ble_eq_true rfl) dX5_calls_46 ⟨Nat.le_of_ble_eq_true rfl, Nat.le_of_ble_eq_true rfl⟩) (fun H locs h => ?_)
  refine lv_iadd hx hb dX5_calls_49 ?_
  obtain ⟨u4, eu4, hf⟩ := nm_inv hf
  refine lv_eqi eu4 ?_
  refine lv_istore_n (lv' := [(2, .int u4), (0, .ref a_t), (1, .int y1), (3, .int y3), (4, .int y4)]) hx hb dX5_calls_50 rfl hl (by decide) rfl (fun ls hl => ?_)
  obtain ⟨u5, eu5, hf⟩ := nm_inv hf
  refine lv_iinc (v := u5) (lv' := [(4, .int u5), (2, .int u4), (0, .ref a_t), (1, .int y1), (3, .int y3)]) hx hb dX5_calls_51 hl (k := 4) rfl (by rw [eu5]; rfl) (by decide) rfl (fun ls hl => ?_)
  refine lv_goto (tgt := 31) hx hb dX5_calls_54 (by decide) ?_
  exact hag31 h (lv_sub hl [2, 3, 1, 4, 0] rfl) hf
set_option maxRecDepth 100000 in
theorem EX5_calls_31 {p : Program} {l : Launch} {e : Env} {s : State} {m : MethodId} {args : Array Value} {below : List Frame} {meth : Method} {c : Code} {D : va_G} {cI cJ cZ cS : ClassId} {tb : Nat} {A : Nat → Prop} {a_t a_s a_keptS a_statuses a_pile a_tape a_steps a_wish a_mark a_bitsOf a_sizeOf a_number a_moved : Nat} {v_isKept : Int32} {v_taped : Int32} {v_at : Int32} {v_fault : Int32} {v_laid : Int32} {v_open : Int32} {rr : Int32} {kk' : (Nat → Int32) × (Nat → Int32) × (Nat → Int32)} (fx : q_Fx p s m args meth c cX5_calls 5 RX5 (some .int) D cI cJ cZ cS tb A) {ag23 : (Nat → Int32) → (Nat → Int32) → (Nat → Int32) → Int32 → Int32 → Int32 → Option (Int32 × (Nat → Int32) × (Nat → Int32) × (Nat → Int32))} (hag23 : ∀ {v_s : Nat → Int32} {v_statuses : Nat → Int32} {v_pile : Nat → Int32} {y1 : Int32} {y2 : Int32} {y3 : Int32} {H : Heap} {locs : List Loc} {ls : Array Slot}, q_H D A s (wX5_calls cI cJ cZ cS a_t a_s a_keptS a_statuses a_pile a_tape a_steps a_wish a_mark a_bitsOf a_sizeOf a_number a_moved v_isKept v_taped v_at v_fault v_laid v_open v_s v_statuses v_pile) H locs → lv_has ls 5 [(0, .ref a_t), (1, .int y1), (2, .int y2), (3, .int y3)] → ag23 v_s v_statuses v_pile y1 y2 y3 = some (rr, kk') → W p l e rX5_calls s m args below meth c H locs 0 0 (MQ below (q_Ri D rr A ((fun k : (Nat → Int32) × (Nat → Int32) × (Nat → Int32) => (wX5_calls cI cJ cZ cS a_t a_s a_keptS a_statuses a_pile a_tape a_steps a_wish a_mark a_bitsOf a_sizeOf a_number a_moved v_isKept v_taped v_at v_fault v_laid v_open k.1 k.2.1 k.2.2)) kk')) args s 0 0 A) (F0 m 23 ls [])) : ∀ (n : Nat), ∀ {v_s : Nat → Int32} {v_statuses : Nat → Int32} {v_pile : Nat → Int32} {y1 : Int32} {y2 : Int32} {y3 : Int32} {y4 : Int32} {H : Heap} {locs : List Loc} {ls : Array Slot}, q_H D A s (wX5_calls cI cJ cZ cS a_t a_s a_keptS a_statuses a_pile a_tape a_steps a_wish a_mark a_bitsOf a_sizeOf a_number a_moved v_isKept v_taped v_at v_fault v_laid v_open v_s v_statuses v_pile) H locs → lv_has ls 5 [(0, .ref a_t), (1, .int y1), (2, .int y2), (3, .int y3), (4, .int y4)] → ll7 (fX5_calls_31 ag23) n v_s v_statuses v_pile y1 y2 y3 y4 = some (rr, kk') → W p l e rX5_calls s m args below meth c H locs 0 0 (MQ below (q_Ri D rr A ((fun k : (Nat → Int32) × (Nat → Int32) × (Nat → Int32) => (wX5_calls cI cJ cZ cS a_t a_s a_keptS a_statuses a_pile a_tape a_steps a_wish a_mark a_bitsOf a_sizeOf a_number a_moved v_isKept v_taped v_at v_fault v_laid v_open k.1 k.2.1 k.2.2)) kk')) args s 0 0 A) (F0 m 31 ls []) := by
  intro n
  induction n with
  | zero => intro v_s v_statuses v_pile y1 y2 y3 y4 H locs ls h hl hf; exact (ll7_z hf).elim
  | succ n ih => intro v_s v_statuses v_pile y1 y2 y3 y4 H locs ls h hl hf; exact LX5_calls_31 fx hag23 ih h hl (ll7_s hf)
def fX5_calls_23 (ag23 : (Nat → Int32) → (Nat → Int32) → (Nat → Int32) → Int32 → Int32 → Int32 → Option (Int32 × (Nat → Int32) × (Nat → Int32) × (Nat → Int32))) (v_s : Nat → Int32) (v_statuses : Nat → Int32) (v_pile : Nat → Int32) (y1 : Int32) (y2 : Int32) (y3 : Int32) : Option (Int32 × (Nat → Int32) × (Nat → Int32) × (Nat → Int32)) :=
  (if y1 ≤ y3 then (
  some (y2, (v_s, v_statuses, v_pile)))
  else (
  ll7 (fX5_calls_31 ag23) qF v_s v_statuses v_pile y1 y2 y3 0))
set_option maxRecDepth 100000 in
set_option maxHeartbeats 4000000 in
theorem LX5_calls_23 {p : Program} {l : Launch} {e : Env} {s : State} {m : MethodId} {args : Array Value} {below : List Frame} {meth : Method} {c : Code} {D : va_G} {cI cJ cZ cS : ClassId} {tb : Nat} {A : Nat → Prop} {a_t a_s a_keptS a_statuses a_pile a_tape a_steps a_wish a_mark a_bitsOf a_sizeOf a_number a_moved : Nat} {v_isKept : Int32} {v_taped : Int32} {v_at : Int32} {v_fault : Int32} {v_laid : Int32} {v_open : Int32} {rr : Int32} {kk' : (Nat → Int32) × (Nat → Int32) × (Nat → Int32)} (fx : q_Fx p s m args meth c cX5_calls 5 RX5 (some .int) D cI cJ cZ cS tb A) {ag23 : (Nat → Int32) → (Nat → Int32) → (Nat → Int32) → Int32 → Int32 → Int32 → Option (Int32 × (Nat → Int32) × (Nat → Int32) × (Nat → Int32))} (hag23 : ∀ {v_s : Nat → Int32} {v_statuses : Nat → Int32} {v_pile : Nat → Int32} {y1 : Int32} {y2 : Int32} {y3 : Int32} {H : Heap} {locs : List Loc} {ls : Array Slot}, q_H D A s (wX5_calls cI cJ cZ cS a_t a_s a_keptS a_statuses a_pile a_tape a_steps a_wish a_mark a_bitsOf a_sizeOf a_number a_moved v_isKept v_taped v_at v_fault v_laid v_open v_s v_statuses v_pile) H locs → lv_has ls 5 [(0, .ref a_t), (1, .int y1), (2, .int y2), (3, .int y3)] → ag23 v_s v_statuses v_pile y1 y2 y3 = some (rr, kk') → W p l e rX5_calls s m args below meth c H locs 0 0 (MQ below (q_Ri D rr A ((fun k : (Nat → Int32) × (Nat → Int32) × (Nat → Int32) => (wX5_calls cI cJ cZ cS a_t a_s a_keptS a_statuses a_pile a_tape a_steps a_wish a_mark a_bitsOf a_sizeOf a_number a_moved v_isKept v_taped v_at v_fault v_laid v_open k.1 k.2.1 k.2.2)) kk')) args s 0 0 A) (F0 m 23 ls [])) : ∀ {v_s : Nat → Int32} {v_statuses : Nat → Int32} {v_pile : Nat → Int32} {y1 : Int32} {y2 : Int32} {y3 : Int32} {H : Heap} {locs : List Loc} {ls : Array Slot}, q_H D A s (wX5_calls cI cJ cZ cS a_t a_s a_keptS a_statuses a_pile a_tape a_steps a_wish a_mark a_bitsOf a_sizeOf a_number a_moved v_isKept v_taped v_at v_fault v_laid v_open v_s v_statuses v_pile) H locs → lv_has ls 5 [(0, .ref a_t), (1, .int y1), (2, .int y2), (3, .int y3)] → fX5_calls_23 ag23 v_s v_statuses v_pile y1 y2 y3 = some (rr, kk') → W p l e rX5_calls s m args below meth c H locs 0 0 (MQ below (q_Ri D rr A ((fun k : (Nat → Int32) × (Nat → Int32) × (Nat → Int32) => (wX5_calls cI cJ cZ cS a_t a_s a_keptS a_statuses a_pile a_tape a_steps a_wish a_mark a_bitsOf a_sizeOf a_number a_moved v_isKept v_taped v_at v_fault v_laid v_open k.1 k.2.1 k.2.2)) kk')) args s 0 0 A) (F0 m 23 ls []) := by
  intro v_s v_statuses v_pile y1 y2 y3 H locs ls h hl hf
  have hx := fx.1
  have hb := fx.2.1
  unfold fX5_calls_23 at hf
  refine lv_iload_n hx hb dX5_calls_23 rfl (lv_at hl 3 rfl) ?_
  refine lv_iload_n hx hb dX5_calls_24 rfl (lv_at hl 1 rfl) ?_
  refine lv_icmp_ge (tgt := 63) hx hb dX5_calls_25 (by decide) (fun c6 => ?_) (fun c6 => ?_)
  · have hf := it_t c6 hf
    refine lv_iload_n hx hb dX5_calls_63 rfl (lv_at hl 2 rfl) ?_
    exact q_reti (fun k : (Nat → Int32) × (Nat → Int32) × (Nat → Int32) => (wX5_calls cI cJ cZ cS a_t a_s a_keptS a_statuses a_pile a_tape a_steps a_wish a_mark a_bitsOf a_sizeOf a_number a_moved v_isKept v_taped v_at v_fault v_laid v_open k.1 k.2.1 k.2.2)) fx hf h dX5_calls_64
  have hf := it_f c6 hf
  refine lv_iconst (v := 0) hx hb dX5_calls_28 (by decide) ?_
  refine lv_istore (lv' := [(4, .int 0), (0, .ref a_t), (1, .int y1), (2, .int y2), (3, .int y3)]) hx hb dX5_calls_29 hl (by decide) rfl (fun ls hl => ?_)
  exact EX5_calls_31 fx hag23 qF h (lv_sub hl [1, 2, 3, 4, 0] rfl) hf
set_option maxRecDepth 100000 in
theorem EX5_calls_23 {p : Program} {l : Launch} {e : Env} {s : State} {m : MethodId} {args : Array Value} {below : List Frame} {meth : Method} {c : Code} {D : va_G} {cI cJ cZ cS : ClassId} {tb : Nat} {A : Nat → Prop} {a_t a_s a_keptS a_statuses a_pile a_tape a_steps a_wish a_mark a_bitsOf a_sizeOf a_number a_moved : Nat} {v_isKept : Int32} {v_taped : Int32} {v_at : Int32} {v_fault : Int32} {v_laid : Int32} {v_open : Int32} {rr : Int32} {kk' : (Nat → Int32) × (Nat → Int32) × (Nat → Int32)} (fx : q_Fx p s m args meth c cX5_calls 5 RX5 (some .int) D cI cJ cZ cS tb A) : ∀ (n : Nat), ∀ {v_s : Nat → Int32} {v_statuses : Nat → Int32} {v_pile : Nat → Int32} {y1 : Int32} {y2 : Int32} {y3 : Int32} {H : Heap} {locs : List Loc} {ls : Array Slot}, q_H D A s (wX5_calls cI cJ cZ cS a_t a_s a_keptS a_statuses a_pile a_tape a_steps a_wish a_mark a_bitsOf a_sizeOf a_number a_moved v_isKept v_taped v_at v_fault v_laid v_open v_s v_statuses v_pile) H locs → lv_has ls 5 [(0, .ref a_t), (1, .int y1), (2, .int y2), (3, .int y3)] → ll6 (fX5_calls_23 ) n v_s v_statuses v_pile y1 y2 y3 = some (rr, kk') → W p l e rX5_calls s m args below meth c H locs 0 0 (MQ below (q_Ri D rr A ((fun k : (Nat → Int32) × (Nat → Int32) × (Nat → Int32) => (wX5_calls cI cJ cZ cS a_t a_s a_keptS a_statuses a_pile a_tape a_steps a_wish a_mark a_bitsOf a_sizeOf a_number a_moved v_isKept v_taped v_at v_fault v_laid v_open k.1 k.2.1 k.2.2)) kk')) args s 0 0 A) (F0 m 23 ls []) := by
  intro n
  induction n with
  | zero => intro v_s v_statuses v_pile y1 y2 y3 H locs ls h hl hf; exact (ll6_z hf).elim
  | succ n ih => intro v_s v_statuses v_pile y1 y2 y3 H locs ls h hl hf; exact LX5_calls_23 fx ih h hl (ll6_s hf)
def fX5_calls (v_s : Nat → Int32) (v_statuses : Nat → Int32) (v_pile : Nat → Int32) (x1 : Int32) : Option (Int32 × (Nat → Int32) × (Nat → Int32) × (Nat → Int32)) :=
  bR (fX5_in (x1.toInt64) 1 20) (fun r7 k7 =>
  (if r7 = 0 then (
  bR (fX5_finds v_statuses (-1000000001)) (fun r9 k9 =>
  some (r9, (v_s, k9, v_pile))))
  else (
  ll6 (fX5_calls_23 ) qF v_s v_statuses v_pile x1 0 0)))
set_option maxRecDepth 100000 in
set_option maxHeartbeats 4000000 in
theorem tX5_calls (l : Launch) (D : va_G) (cI cJ cZ cS : ClassId) (tb : Nat) (a_t a_s a_keptS a_statuses a_pile a_tape a_steps a_wish a_mark a_bitsOf a_sizeOf a_number a_moved : Nat) (sz : Nat) (v_isKept : Int32) (v_taped : Int32) (v_at : Int32) (v_fault : Int32) (v_laid : Int32) (v_open : Int32) (v_s : Nat → Int32) (v_statuses : Nat → Int32) (v_pile : Nat → Int32) (x1 : Int32) (rr : Int32) (kk' : (Nat → Int32) × (Nat → Int32) × (Nat → Int32)) (hf : fX5_calls v_s v_statuses v_pile x1 = some (rr, kk')) : Met l yX5_calls (Cond.code yX5_calls cX5_calls 5 (some .int) :: wA) rX5_calls (q_Pre D cI cJ cZ cS tb [.ref a_t, .int x1] sz (wX5_calls cI cJ cZ cS a_t a_s a_keptS a_statuses a_pile a_tape a_steps a_wish a_mark a_bitsOf a_sizeOf a_number a_moved v_isKept v_taped v_at v_fault v_laid v_open v_s v_statuses v_pile)) (q_Ri D rr (va_A (wX5_calls cI cJ cZ cS a_t a_s a_keptS a_statuses a_pile a_tape a_steps a_wish a_mark a_bitsOf a_sizeOf a_number a_moved v_isKept v_taped v_at v_fault v_laid v_open v_s v_statuses v_pile) sz) ((fun k : (Nat → Int32) × (Nat → Int32) × (Nat → Int32) => (wX5_calls cI cJ cZ cS a_t a_s a_keptS a_statuses a_pile a_tape a_steps a_wish a_mark a_bitsOf a_sizeOf a_number a_moved v_isKept v_taped v_at v_fault v_laid v_open k.1 k.2.1 k.2.2)) kk')) 0 0 (va_A (wX5_calls cI cJ cZ cS a_t a_s a_keptS a_statuses a_pile a_tape a_steps a_wish a_mark a_bitsOf a_sizeOf a_number a_moved v_isKept v_taped v_at v_fault v_laid v_open v_s v_statuses v_pile) sz) := by
  refine q_enter (Qf := fun A => (q_Ri D rr A ((fun k : (Nat → Int32) × (Nat → Int32) × (Nat → Int32) => (wX5_calls cI cJ cZ cS a_t a_s a_keptS a_statuses a_pile a_tape a_steps a_wish a_mark a_bitsOf a_sizeOf a_number a_moved v_isKept v_taped v_at v_fault v_laid v_open k.1 k.2.1 k.2.2)) kk'))) (by decide) rfl (Nat.le_of_ble_eq_true rfl) ?_
  intro p e s m below meth c A ls fx hname h hl
  have hx := fx.1
  have hb := fx.2.1
  have hl : lv_has ls 5 [(0, .ref a_t), (1, .int x1)] := hl
  generalize h9 : s.heap = H at h ⊢
  clear h9
  generalize h9 : ([] : List Loc) = locs at h ⊢
  clear h9
  unfold fX5_calls at hf
  refine lv_iload_n hx hb dX5_calls_0 rfl (lv_at hl 1 rfl) ?_
  refine lv_i2l hx hb dX5_calls_1 rfl ?_
  refine lv_lconst (v := 1) hx hb dX5_calls_2 (by decide) ?_
  refine q_ldc2 fx k_842 dX5_calls_3 ?_
  obtain ⟨r7, k7, hg, hf⟩ := bR_inv hf
  refine q_ci (rest := []) (ws' := (wX5_calls cI cJ cZ cS a_t a_s a_keptS a_statuses a_pile a_tape a_steps a_wish a_mark a_bitsOf a_sizeOf a_number a_moved v_isKept v_taped v_at v_fault v_laid v_open v_s v_statuses v_pile)) (w1 := (wX5_in cI cJ cZ cS)) fx h [] rfl rfl rfl rfl (q_runS fx h hl.1 [] rfl rfl (tX5_in l D cI cJ cZ cS tb H.size (x1.toInt64) 1 20 r7 k7 hg) msX5_in k_697 ⟨rfl, rfl⟩ ⟨Nat.le_of_ble_eq_true rfl, Nat.le_of_ble_eq_true rfl⟩ rfl rfl (Nat.le_of_ble_eq_true rfl) dX5_calls_6 ⟨Nat.le_of_ble_eq_true rfl, Nat.le_of_ble_eq_true rfl⟩) (fun H locs h => ?_)
  refine lv_if_ne (tgt := 19) hx hb dX5_calls_9 (by decide) (fun c8 => ?_) (fun c8 => ?_)
  · have hf := it_f c8 hf
    refine lv_iconst (v := 0) hx hb dX5_calls_19 (by decide) ?_
    refine lv_istore_n (lv' := [(2, .int 0), (0, .ref a_t), (1, .int x1)]) hx hb dX5_calls_20 rfl hl (by decide) rfl (fun ls hl => ?_)
    refine lv_iconst (v := 0) hx hb dX5_calls_21 (by decide) ?_
    refine lv_istore_n (lv' := [(3, .int 0), (2, .int 0), (0, .ref a_t), (1, .int x1)]) hx hb dX5_calls_22 rfl hl (by decide) rfl (fun ls hl => ?_)
    exact EX5_calls_23 fx qF h (lv_sub hl [2, 3, 1, 0] rfl) hf
  have hf := it_t c8 hf
  refine lv_aload_n hx hb dX5_calls_12 rfl (lv_at hl 0 rfl) ?_
  refine q_ldc fx k_701 dX5_calls_13 ?_
  obtain ⟨r9, k9, hg, hf⟩ := bR_inv hf
  refine q_ci (rest := []) (ws' := (wX5_calls cI cJ cZ cS a_t a_s a_keptS a_statuses a_pile a_tape a_steps a_wish a_mark a_bitsOf a_sizeOf a_number a_moved v_isKept v_taped v_at v_fault v_laid v_open v_s k9 v_pile)) (w1 := (wX5_finds cI cJ cZ cS a_t a_s a_keptS a_statuses a_pile a_tape a_steps a_wish a_mark a_bitsOf a_sizeOf a_number a_moved v_isKept v_taped v_at v_fault v_laid v_open k9)) fx h [0, 2] rfl rfl rfl rfl (q_runV fx h hl.1 [0, 2] rfl rfl (tX5_finds l D cI cJ cZ cS tb a_t a_s a_keptS a_statuses a_pile a_tape a_steps a_wish a_mark a_bitsOf a_sizeOf a_number a_moved H.size v_isKept v_taped v_at v_fault v_laid v_open v_statuses (-1000000001) r9 k9 hg) mvX5_finds k_702 ⟨rfl, rfl⟩ ⟨Nat.le_of_ble_eq_true rfl, Nat.le_of_ble_eq_true rfl⟩ rfl rfl rfl rfl (Nat.le_of_ble_eq_true rfl) dX5_calls_15 ⟨Nat.le_of_ble_eq_true rfl, Nat.le_of_ble_eq_true rfl⟩) (fun H locs h => ?_)
  exact q_reti (fun k : (Nat → Int32) × (Nat → Int32) × (Nat → Int32) => (wX5_calls cI cJ cZ cS a_t a_s a_keptS a_statuses a_pile a_tape a_steps a_wish a_mark a_bitsOf a_sizeOf a_number a_moved v_isKept v_taped v_at v_fault v_laid v_open k.1 k.2.1 k.2.2)) fx hf h dX5_calls_18
/-! X5_behind -/
abbrev wX5_behind (cI cJ cZ cS : ClassId) (a_t a_s a_keptS a_statuses a_pile a_tape a_steps a_wish a_mark a_bitsOf a_sizeOf a_number a_moved : Nat) (v_isKept : Int32) (v_taped : Int32) (v_at : Int32) (v_fault : Int32) (v_laid : Int32) (v_open : Int32) (v_s : Nat → Int32) (v_pile : Nat → Int32) : va_W := [(a_t, .inr (5, [.ref a_s, .ref a_keptS, .ref a_statuses, .int v_isKept, .ref a_pile, .ref a_tape, .ref a_steps, .int v_taped, .int v_at, .int v_fault, .int v_laid, .int v_open, .ref a_wish, .ref a_mark, .ref a_bitsOf, .ref a_sizeOf, .ref a_number, .ref a_moved])), (a_s, .inl (cI, 538, .inl v_s)), (a_pile, .inl (cZ, 64, .inl v_pile))]
abbrev rX5_behind : Room := { frames := 5, cells := 0, slots := 0, locals := 116 }
def fX5_behind_5 (v_s : Nat → Int32) (ag5 : (Nat → Int32) → Int32 → Int32 → Int32 → Option (Int32 × (Nat → Int32))) (v_pile : Nat → Int32) (y2 : Int32) (y3 : Int32) (y4 : Int32) : Option (Int32 × (Nat → Int32)) :=
  (if y2 ≤ y4 then (
  some (y3, v_pile))
  else (
  bR (fX5_would v_s v_pile y3) (fun r2 k2 =>
  nm (y4 + 1) (fun u3 =>
  ag5 k2 y2 r2 u3))))
set_option maxRecDepth 100000 in
set_option maxHeartbeats 4000000 in
theorem LX5_behind_5 {p : Program} {l : Launch} {e : Env} {s : State} {m : MethodId} {args : Array Value} {below : List Frame} {meth : Method} {c : Code} {D : va_G} {cI cJ cZ cS : ClassId} {tb : Nat} {A : Nat → Prop} {a_t a_s a_keptS a_statuses a_pile a_tape a_steps a_wish a_mark a_bitsOf a_sizeOf a_number a_moved : Nat} {v_isKept : Int32} {v_taped : Int32} {v_at : Int32} {v_fault : Int32} {v_laid : Int32} {v_open : Int32} {v_s : Nat → Int32} {rr : Int32} {kk' : (Nat → Int32)} (fx : q_Fx p s m args meth c cX5_behind 5 RX5 (some .int) D cI cJ cZ cS tb A) {ag5 : (Nat → Int32) → Int32 → Int32 → Int32 → Option (Int32 × (Nat → Int32))} (hag5 : ∀ {v_pile : Nat → Int32} {y2 : Int32} {y3 : Int32} {y4 : Int32} {H : Heap} {locs : List Loc} {ls : Array Slot}, q_H D A s (wX5_behind cI cJ cZ cS a_t a_s a_keptS a_statuses a_pile a_tape a_steps a_wish a_mark a_bitsOf a_sizeOf a_number a_moved v_isKept v_taped v_at v_fault v_laid v_open v_s v_pile) H locs → lv_has ls 5 [(0, .ref a_t), (2, .int y2), (3, .int y3), (4, .int y4)] → ag5 v_pile y2 y3 y4 = some (rr, kk') → W p l e rX5_behind s m args below meth c H locs 0 0 (MQ below (q_Ri D rr A ((fun k : (Nat → Int32) => (wX5_behind cI cJ cZ cS a_t a_s a_keptS a_statuses a_pile a_tape a_steps a_wish a_mark a_bitsOf a_sizeOf a_number a_moved v_isKept v_taped v_at v_fault v_laid v_open v_s k)) kk')) args s 0 0 A) (F0 m 5 ls [])) : ∀ {v_pile : Nat → Int32} {y2 : Int32} {y3 : Int32} {y4 : Int32} {H : Heap} {locs : List Loc} {ls : Array Slot}, q_H D A s (wX5_behind cI cJ cZ cS a_t a_s a_keptS a_statuses a_pile a_tape a_steps a_wish a_mark a_bitsOf a_sizeOf a_number a_moved v_isKept v_taped v_at v_fault v_laid v_open v_s v_pile) H locs → lv_has ls 5 [(0, .ref a_t), (2, .int y2), (3, .int y3), (4, .int y4)] → fX5_behind_5 v_s ag5 v_pile y2 y3 y4 = some (rr, kk') → W p l e rX5_behind s m args below meth c H locs 0 0 (MQ below (q_Ri D rr A ((fun k : (Nat → Int32) => (wX5_behind cI cJ cZ cS a_t a_s a_keptS a_statuses a_pile a_tape a_steps a_wish a_mark a_bitsOf a_sizeOf a_number a_moved v_isKept v_taped v_at v_fault v_laid v_open v_s k)) kk')) args s 0 0 A) (F0 m 5 ls []) := by
  intro v_pile y2 y3 y4 H locs ls h hl hf
  have hx := fx.1
  have hb := fx.2.1
  unfold fX5_behind_5 at hf
  refine lv_iload hx hb dX5_behind_5 (lv_at hl 3 rfl) ?_
  refine lv_iload_n hx hb dX5_behind_7 rfl (lv_at hl 1 rfl) ?_
  refine lv_icmp_ge (tgt := 23) hx hb dX5_behind_8 (by decide) (fun c1 => ?_) (fun c1 => ?_)
  · have hf := it_t c1 hf
    refine lv_iload_n hx hb dX5_behind_23 rfl (lv_at hl 2 rfl) ?_
    exact q_reti (fun k : (Nat → Int32) => (wX5_behind cI cJ cZ cS a_t a_s a_keptS a_statuses a_pile a_tape a_steps a_wish a_mark a_bitsOf a_sizeOf a_number a_moved v_isKept v_taped v_at v_fault v_laid v_open v_s k)) fx hf h dX5_behind_24
  have hf := it_f c1 hf
  refine lv_aload_n hx hb dX5_behind_11 rfl (lv_at hl 0 rfl) ?_
  refine lv_iload_n hx hb dX5_behind_12 rfl (lv_at hl 2 rfl) ?_
  obtain ⟨r2, k2, hg, hf⟩ := bR_inv hf
  refine q_ci (rest := []) (ws' := (wX5_behind cI cJ cZ cS a_t a_s a_keptS a_statuses a_pile a_tape a_steps a_wish a_mark a_bitsOf a_sizeOf a_number a_moved v_isKept v_taped v_at v_fault v_laid v_open v_s k2)) (w1 := (wX5_would cI cJ cZ cS a_t a_s a_keptS a_statuses a_pile a_tape a_steps a_wish a_mark a_bitsOf a_sizeOf a_number a_moved v_isKept v_taped v_at v_fault v_laid v_open v_s k2)) fx h [0, 1, 2] rfl rfl rfl rfl (q_runV fx h hl.1 [0, 1, 2] rfl rfl (tX5_would l D cI cJ cZ cS tb a_t a_s a_keptS a_statuses a_pile a_tape a_steps a_wish a_mark a_bitsOf a_sizeOf a_number a_moved H.size v_isKept v_taped v_at v_fault v_laid v_open v_s v_pile y3 r2 k2 hg) mvX5_would k_818 ⟨rfl, rfl⟩ ⟨Nat.le_of_ble_eq_true rfl, Nat.le_of_ble_eq_true rfl⟩ rfl rfl rfl rfl (Nat.le_of_ble_eq_true rfl) dX5_behind_13 ⟨Nat.le_of_ble_eq_true rfl, Nat.le_of_ble_eq_true rfl⟩) (fun H locs h => ?_)
  refine lv_istore_n (lv' := [(3, .int r2), (0, .ref a_t), (2, .int y2), (4, .int y4)]) hx hb dX5_behind_16 rfl hl (by decide) rfl (fun ls hl => ?_)
  obtain ⟨u3, eu3, hf⟩ := nm_inv hf
  refine lv_iinc (v := u3) (lv' := [(4, .int u3), (3, .int r2), (0, .ref a_t), (2, .int y2)]) hx hb dX5_behind_17 hl (k := 3) rfl (by rw [eu3]; rfl) (by decide) rfl (fun ls hl => ?_)
  refine lv_goto (tgt := 5) hx hb dX5_behind_20 (by decide) ?_
  exact hag5 h (lv_sub hl [2, 3, 1, 0] rfl) hf
set_option maxRecDepth 100000 in
theorem EX5_behind_5 {p : Program} {l : Launch} {e : Env} {s : State} {m : MethodId} {args : Array Value} {below : List Frame} {meth : Method} {c : Code} {D : va_G} {cI cJ cZ cS : ClassId} {tb : Nat} {A : Nat → Prop} {a_t a_s a_keptS a_statuses a_pile a_tape a_steps a_wish a_mark a_bitsOf a_sizeOf a_number a_moved : Nat} {v_isKept : Int32} {v_taped : Int32} {v_at : Int32} {v_fault : Int32} {v_laid : Int32} {v_open : Int32} {v_s : Nat → Int32} {rr : Int32} {kk' : (Nat → Int32)} (fx : q_Fx p s m args meth c cX5_behind 5 RX5 (some .int) D cI cJ cZ cS tb A) : ∀ (n : Nat), ∀ {v_pile : Nat → Int32} {y2 : Int32} {y3 : Int32} {y4 : Int32} {H : Heap} {locs : List Loc} {ls : Array Slot}, q_H D A s (wX5_behind cI cJ cZ cS a_t a_s a_keptS a_statuses a_pile a_tape a_steps a_wish a_mark a_bitsOf a_sizeOf a_number a_moved v_isKept v_taped v_at v_fault v_laid v_open v_s v_pile) H locs → lv_has ls 5 [(0, .ref a_t), (2, .int y2), (3, .int y3), (4, .int y4)] → ll4 (fX5_behind_5 v_s) n v_pile y2 y3 y4 = some (rr, kk') → W p l e rX5_behind s m args below meth c H locs 0 0 (MQ below (q_Ri D rr A ((fun k : (Nat → Int32) => (wX5_behind cI cJ cZ cS a_t a_s a_keptS a_statuses a_pile a_tape a_steps a_wish a_mark a_bitsOf a_sizeOf a_number a_moved v_isKept v_taped v_at v_fault v_laid v_open v_s k)) kk')) args s 0 0 A) (F0 m 5 ls []) := by
  intro n
  induction n with
  | zero => intro v_pile y2 y3 y4 H locs ls h hl hf; exact (ll4_z hf).elim
  | succ n ih => intro v_pile y2 y3 y4 H locs ls h hl hf; exact LX5_behind_5 fx ih h hl (ll4_s hf)
def fX5_behind (v_s : Nat → Int32) (v_pile : Nat → Int32) (x1 : Int32) (x2 : Int32) : Option (Int32 × (Nat → Int32)) :=
  ll4 (fX5_behind_5 v_s) qF v_pile x2 x1 0
set_option maxRecDepth 100000 in
set_option maxHeartbeats 4000000 in
theorem tX5_behind (l : Launch) (D : va_G) (cI cJ cZ cS : ClassId) (tb : Nat) (a_t a_s a_keptS a_statuses a_pile a_tape a_steps a_wish a_mark a_bitsOf a_sizeOf a_number a_moved : Nat) (sz : Nat) (v_isKept : Int32) (v_taped : Int32) (v_at : Int32) (v_fault : Int32) (v_laid : Int32) (v_open : Int32) (v_s : Nat → Int32) (v_pile : Nat → Int32) (x1 : Int32) (x2 : Int32) (rr : Int32) (kk' : (Nat → Int32)) (hf : fX5_behind v_s v_pile x1 x2 = some (rr, kk')) : Met l yX5_behind (Cond.code yX5_behind cX5_behind 5 (some .int) :: wA) rX5_behind (q_Pre D cI cJ cZ cS tb [.ref a_t, .int x1, .int x2] sz (wX5_behind cI cJ cZ cS a_t a_s a_keptS a_statuses a_pile a_tape a_steps a_wish a_mark a_bitsOf a_sizeOf a_number a_moved v_isKept v_taped v_at v_fault v_laid v_open v_s v_pile)) (q_Ri D rr (va_A (wX5_behind cI cJ cZ cS a_t a_s a_keptS a_statuses a_pile a_tape a_steps a_wish a_mark a_bitsOf a_sizeOf a_number a_moved v_isKept v_taped v_at v_fault v_laid v_open v_s v_pile) sz) ((fun k : (Nat → Int32) => (wX5_behind cI cJ cZ cS a_t a_s a_keptS a_statuses a_pile a_tape a_steps a_wish a_mark a_bitsOf a_sizeOf a_number a_moved v_isKept v_taped v_at v_fault v_laid v_open v_s k)) kk')) 0 0 (va_A (wX5_behind cI cJ cZ cS a_t a_s a_keptS a_statuses a_pile a_tape a_steps a_wish a_mark a_bitsOf a_sizeOf a_number a_moved v_isKept v_taped v_at v_fault v_laid v_open v_s v_pile) sz) := by
  refine q_enter (Qf := fun A => (q_Ri D rr A ((fun k : (Nat → Int32) => (wX5_behind cI cJ cZ cS a_t a_s a_keptS a_statuses a_pile a_tape a_steps a_wish a_mark a_bitsOf a_sizeOf a_number a_moved v_isKept v_taped v_at v_fault v_laid v_open v_s k)) kk'))) (by decide) rfl (Nat.le_of_ble_eq_true rfl) ?_
  intro p e s m below meth c A ls fx hname h hl
  have hx := fx.1
  have hb := fx.2.1
  have hl : lv_has ls 5 [(0, .ref a_t), (1, .int x1), (2, .int x2)] := hl
  generalize h9 : s.heap = H at h ⊢
  clear h9
  generalize h9 : ([] : List Loc) = locs at h ⊢
  clear h9
  unfold fX5_behind at hf
  refine lv_iload_n hx hb dX5_behind_0 rfl (lv_at hl 1 rfl) ?_
  refine lv_istore_n (lv' := [(3, .int x1), (0, .ref a_t), (1, .int x1), (2, .int x2)]) hx hb dX5_behind_1 rfl hl (by decide) rfl (fun ls hl => ?_)
  refine lv_iconst (v := 0) hx hb dX5_behind_2 (by decide) ?_
  refine lv_istore (lv' := [(4, .int 0), (3, .int x1), (0, .ref a_t), (1, .int x1), (2, .int x2)]) hx hb dX5_behind_3 hl (by decide) rfl (fun ls hl => ?_)
  exact EX5_behind_5 fx qF h (lv_sub hl [2, 4, 1, 0] rfl) hf
/-! X5_rounds -/
abbrev wX5_rounds (cI cJ cZ cS : ClassId) (a_t a_s a_keptS a_statuses a_pile a_tape a_steps a_wish a_mark a_bitsOf a_sizeOf a_number a_moved : Nat) (v_isKept : Int32) (v_taped : Int32) (v_at : Int32) (v_fault : Int32) (v_laid : Int32) (v_open : Int32) (v_s : Nat → Int32) (v_statuses : Nat → Int32) (v_pile : Nat → Int32) : va_W := [(a_t, .inr (5, [.ref a_s, .ref a_keptS, .ref a_statuses, .int v_isKept, .ref a_pile, .ref a_tape, .ref a_steps, .int v_taped, .int v_at, .int v_fault, .int v_laid, .int v_open, .ref a_wish, .ref a_mark, .ref a_bitsOf, .ref a_sizeOf, .ref a_number, .ref a_moved])), (a_s, .inl (cI, 538, .inl v_s)), (a_statuses, .inl (cI, 7, .inl v_statuses)), (a_pile, .inl (cZ, 64, .inl v_pile))]
abbrev rX5_rounds : Room := { frames := 6, cells := 0, slots := 0, locals := 140 }
def fX5_rounds (v_s : Nat → Int32) (v_statuses : Nat → Int32) (v_pile : Nat → Int32) (x1 : Int32) : Option (Int32 × (Nat → Int32) × (Nat → Int32) × (Nat → Int32)) :=
  bR (fX5_in (x1.toInt64) 1 64) (fun r1 k1 =>
  (if r1 = 0 then (
  bR (fX5_finds v_statuses (-1000000001)) (fun r4 k4 =>
  some (r4, (v_s, k4, v_pile))))
  else (
  bR (fX5_behind v_s v_pile (v_s 1) x1) (fun r3 k3 =>
  some ((upd v_s 1 r3) 1, ((upd v_s 1 r3), v_statuses, k3))))))
set_option maxRecDepth 100000 in
set_option maxHeartbeats 4000000 in
theorem tX5_rounds (l : Launch) (D : va_G) (cI cJ cZ cS : ClassId) (tb : Nat) (a_t a_s a_keptS a_statuses a_pile a_tape a_steps a_wish a_mark a_bitsOf a_sizeOf a_number a_moved : Nat) (sz : Nat) (v_isKept : Int32) (v_taped : Int32) (v_at : Int32) (v_fault : Int32) (v_laid : Int32) (v_open : Int32) (v_s : Nat → Int32) (v_statuses : Nat → Int32) (v_pile : Nat → Int32) (x1 : Int32) (rr : Int32) (kk' : (Nat → Int32) × (Nat → Int32) × (Nat → Int32)) (hf : fX5_rounds v_s v_statuses v_pile x1 = some (rr, kk')) : Met l yX5_rounds (Cond.code yX5_rounds cX5_rounds 2 (some .int) :: wA) rX5_rounds (q_Pre D cI cJ cZ cS tb [.ref a_t, .int x1] sz (wX5_rounds cI cJ cZ cS a_t a_s a_keptS a_statuses a_pile a_tape a_steps a_wish a_mark a_bitsOf a_sizeOf a_number a_moved v_isKept v_taped v_at v_fault v_laid v_open v_s v_statuses v_pile)) (q_Ri D rr (va_A (wX5_rounds cI cJ cZ cS a_t a_s a_keptS a_statuses a_pile a_tape a_steps a_wish a_mark a_bitsOf a_sizeOf a_number a_moved v_isKept v_taped v_at v_fault v_laid v_open v_s v_statuses v_pile) sz) ((fun k : (Nat → Int32) × (Nat → Int32) × (Nat → Int32) => (wX5_rounds cI cJ cZ cS a_t a_s a_keptS a_statuses a_pile a_tape a_steps a_wish a_mark a_bitsOf a_sizeOf a_number a_moved v_isKept v_taped v_at v_fault v_laid v_open k.1 k.2.1 k.2.2)) kk')) 0 0 (va_A (wX5_rounds cI cJ cZ cS a_t a_s a_keptS a_statuses a_pile a_tape a_steps a_wish a_mark a_bitsOf a_sizeOf a_number a_moved v_isKept v_taped v_at v_fault v_laid v_open v_s v_statuses v_pile) sz) := by
  refine q_enter (Qf := fun A => (q_Ri D rr A ((fun k : (Nat → Int32) × (Nat → Int32) × (Nat → Int32) => (wX5_rounds cI cJ cZ cS a_t a_s a_keptS a_statuses a_pile a_tape a_steps a_wish a_mark a_bitsOf a_sizeOf a_number a_moved v_isKept v_taped v_at v_fault v_laid v_open k.1 k.2.1 k.2.2)) kk'))) (by decide) rfl (Nat.le_of_ble_eq_true rfl) ?_
  intro p e s m below meth c A ls fx hname h hl
  have hx := fx.1
  have hb := fx.2.1
  have hl : lv_has ls 2 [(0, .ref a_t), (1, .int x1)] := hl
  generalize h9 : s.heap = H at h ⊢
  clear h9
  generalize h9 : ([] : List Loc) = locs at h ⊢
  clear h9
  unfold fX5_rounds at hf
  refine lv_iload_n hx hb dX5_rounds_0 rfl (lv_at hl 1 rfl) ?_
  refine lv_i2l hx hb dX5_rounds_1 rfl ?_
  refine lv_lconst (v := 1) hx hb dX5_rounds_2 (by decide) ?_
  refine q_ldc2 fx k_847 dX5_rounds_3 ?_
  obtain ⟨r1, k1, hg, hf⟩ := bR_inv hf
  refine q_ci (rest := []) (ws' := (wX5_rounds cI cJ cZ cS a_t a_s a_keptS a_statuses a_pile a_tape a_steps a_wish a_mark a_bitsOf a_sizeOf a_number a_moved v_isKept v_taped v_at v_fault v_laid v_open v_s v_statuses v_pile)) (w1 := (wX5_in cI cJ cZ cS)) fx h [] rfl rfl rfl rfl (q_runS fx h hl.1 [] rfl rfl (tX5_in l D cI cJ cZ cS tb H.size (x1.toInt64) 1 64 r1 k1 hg) msX5_in k_697 ⟨rfl, rfl⟩ ⟨Nat.le_of_ble_eq_true rfl, Nat.le_of_ble_eq_true rfl⟩ rfl rfl (Nat.le_of_ble_eq_true rfl) dX5_rounds_6 ⟨Nat.le_of_ble_eq_true rfl, Nat.le_of_ble_eq_true rfl⟩) (fun H locs h => ?_)
  refine lv_if_ne (tgt := 19) hx hb dX5_rounds_9 (by decide) (fun c2 => ?_) (fun c2 => ?_)
  · have hf := it_f c2 hf
    refine lv_aload_n hx hb dX5_rounds_19 rfl (lv_at hl 0 rfl) ?_
    refine q_get (v := .ref a_s) fx inX5 h 0 rfl rfl 0 (by decide) k_636 rfl dX5_rounds_20 ?_
    refine lv_iconst (v := 1) hx hb dX5_rounds_23 (by decide) ?_
    refine lv_aload_n hx hb dX5_rounds_24 rfl (lv_at hl 0 rfl) ?_
    refine lv_aload_n hx hb dX5_rounds_25 rfl (lv_at hl 0 rfl) ?_
    refine q_get (v := .ref a_s) fx inX5 h 0 rfl rfl 0 (by decide) k_636 rfl dX5_rounds_26 ?_
    refine lv_iconst (v := 1) hx hb dX5_rounds_29 (by decide) ?_
    refine q_ialdK fx h 1 rfl 1 (vinK (by decide)) (by decide) dX5_rounds_30 ?_
    refine lv_iload_n hx hb dX5_rounds_31 rfl (lv_at hl 1 rfl) ?_
    obtain ⟨r3, k3, hg, hf⟩ := bR_inv hf
    refine q_ci (rest := [.int 1, .ref a_s]) (ws' := (wX5_rounds cI cJ cZ cS a_t a_s a_keptS a_statuses a_pile a_tape a_steps a_wish a_mark a_bitsOf a_sizeOf a_number a_moved v_isKept v_taped v_at v_fault v_laid v_open v_s v_statuses k3)) (w1 := (wX5_behind cI cJ cZ cS a_t a_s a_keptS a_statuses a_pile a_tape a_steps a_wish a_mark a_bitsOf a_sizeOf a_number a_moved v_isKept v_taped v_at v_fault v_laid v_open v_s k3)) fx h [0, 1, 3] rfl rfl rfl rfl (q_runV fx h hl.1 [0, 1, 3] rfl rfl (tX5_behind l D cI cJ cZ cS tb a_t a_s a_keptS a_statuses a_pile a_tape a_steps a_wish a_mark a_bitsOf a_sizeOf a_number a_moved H.size v_isKept v_taped v_at v_fault v_laid v_open v_s v_pile (v_s 1) x1 r3 k3 hg) mvX5_behind k_848 ⟨rfl, rfl⟩ ⟨Nat.le_of_ble_eq_true rfl, Nat.le_of_ble_eq_true rfl⟩ rfl rfl rfl rfl (Nat.le_of_ble_eq_true rfl) dX5_rounds_32 ⟨Nat.le_of_ble_eq_true rfl, Nat.le_of_ble_eq_true rfl⟩) (fun H locs h => ?_)
    refine q_iastK (ws' := (wX5_rounds cI cJ cZ cS a_t a_s a_keptS a_statuses a_pile a_tape a_steps a_wish a_mark a_bitsOf a_sizeOf a_number a_moved v_isKept v_taped v_at v_fault v_laid v_open (upd v_s 1 r3) v_statuses k3)) fx h 1 rfl 1 (vinK (by decide)) (by decide) rfl dX5_rounds_35 (fun H locs h => ?_)
    refine lv_aload_n hx hb dX5_rounds_36 rfl (lv_at hl 0 rfl) ?_
    refine q_get (v := .ref a_s) fx inX5 h 0 rfl rfl 0 (by decide) k_636 rfl dX5_rounds_37 ?_
    refine lv_iconst (v := 1) hx hb dX5_rounds_40 (by decide) ?_
    refine q_ialdK fx h 1 rfl 1 (vinK (by decide)) (by decide) dX5_rounds_41 ?_
    exact q_reti (fun k : (Nat → Int32) × (Nat → Int32) × (Nat → Int32) => (wX5_rounds cI cJ cZ cS a_t a_s a_keptS a_statuses a_pile a_tape a_steps a_wish a_mark a_bitsOf a_sizeOf a_number a_moved v_isKept v_taped v_at v_fault v_laid v_open k.1 k.2.1 k.2.2)) fx hf h dX5_rounds_42
  have hf := it_t c2 hf
  refine lv_aload_n hx hb dX5_rounds_12 rfl (lv_at hl 0 rfl) ?_
  refine q_ldc fx k_701 dX5_rounds_13 ?_
  obtain ⟨r4, k4, hg, hf⟩ := bR_inv hf
  refine q_ci (rest := []) (ws' := (wX5_rounds cI cJ cZ cS a_t a_s a_keptS a_statuses a_pile a_tape a_steps a_wish a_mark a_bitsOf a_sizeOf a_number a_moved v_isKept v_taped v_at v_fault v_laid v_open v_s k4 v_pile)) (w1 := (wX5_finds cI cJ cZ cS a_t a_s a_keptS a_statuses a_pile a_tape a_steps a_wish a_mark a_bitsOf a_sizeOf a_number a_moved v_isKept v_taped v_at v_fault v_laid v_open k4)) fx h [0, 2] rfl rfl rfl rfl (q_runV fx h hl.1 [0, 2] rfl rfl (tX5_finds l D cI cJ cZ cS tb a_t a_s a_keptS a_statuses a_pile a_tape a_steps a_wish a_mark a_bitsOf a_sizeOf a_number a_moved H.size v_isKept v_taped v_at v_fault v_laid v_open v_statuses (-1000000001) r4 k4 hg) mvX5_finds k_702 ⟨rfl, rfl⟩ ⟨Nat.le_of_ble_eq_true rfl, Nat.le_of_ble_eq_true rfl⟩ rfl rfl rfl rfl (Nat.le_of_ble_eq_true rfl) dX5_rounds_15 ⟨Nat.le_of_ble_eq_true rfl, Nat.le_of_ble_eq_true rfl⟩) (fun H locs h => ?_)
  exact q_reti (fun k : (Nat → Int32) × (Nat → Int32) × (Nat → Int32) => (wX5_rounds cI cJ cZ cS a_t a_s a_keptS a_statuses a_pile a_tape a_steps a_wish a_mark a_bitsOf a_sizeOf a_number a_moved v_isKept v_taped v_at v_fault v_laid v_open k.1 k.2.1 k.2.2)) fx hf h dX5_rounds_18
/-! X5_on -/
abbrev wX5_on (cI cJ cZ cS : ClassId) (a_t a_s a_keptS a_statuses a_pile a_tape a_steps a_wish a_mark a_bitsOf a_sizeOf a_number a_moved : Nat) (v_isKept : Int32) (v_taped : Int32) (v_at : Int32) (v_fault : Int32) (v_laid : Int32) (v_open : Int32) (v_s : Nat → Int32) (v_statuses : Nat → Int32) (v_pile : Nat → Int32) : va_W := [(a_t, .inr (5, [.ref a_s, .ref a_keptS, .ref a_statuses, .int v_isKept, .ref a_pile, .ref a_tape, .ref a_steps, .int v_taped, .int v_at, .int v_fault, .int v_laid, .int v_open, .ref a_wish, .ref a_mark, .ref a_bitsOf, .ref a_sizeOf, .ref a_number, .ref a_moved])), (a_s, .inl (cI, 538, .inl v_s)), (a_statuses, .inl (cI, 7, .inl v_statuses)), (a_pile, .inl (cZ, 64, .inl v_pile))]
abbrev rX5_on : Room := { frames := 6, cells := 0, slots := 0, locals := 140 }
def fX5_on (v_s : Nat → Int32) (v_statuses : Nat → Int32) (v_pile : Nat → Int32) (x1 : Int32) : Option (Int32 × (Nat → Int32) × (Nat → Int32)) :=
  bR (fX5_in (x1.toInt64) 0 64) (fun r1 k1 =>
  (if r1 = 0 then (
  bR (fX5_finds v_statuses (-1000000001)) (fun r3 k3 =>
  some (r3, (k3, v_pile))))
  else (
  bR (fX5_behind v_s v_pile (v_s 1) x1) (fun r4 k4 =>
  some (r4, (v_statuses, k4))))))
set_option maxRecDepth 100000 in
set_option maxHeartbeats 4000000 in
theorem tX5_on (l : Launch) (D : va_G) (cI cJ cZ cS : ClassId) (tb : Nat) (a_t a_s a_keptS a_statuses a_pile a_tape a_steps a_wish a_mark a_bitsOf a_sizeOf a_number a_moved : Nat) (sz : Nat) (v_isKept : Int32) (v_taped : Int32) (v_at : Int32) (v_fault : Int32) (v_laid : Int32) (v_open : Int32) (v_s : Nat → Int32) (v_statuses : Nat → Int32) (v_pile : Nat → Int32) (x1 : Int32) (rr : Int32) (kk' : (Nat → Int32) × (Nat → Int32)) (hf : fX5_on v_s v_statuses v_pile x1 = some (rr, kk')) : Met l yX5_on (Cond.code yX5_on cX5_on 2 (some .int) :: wA) rX5_on (q_Pre D cI cJ cZ cS tb [.ref a_t, .int x1] sz (wX5_on cI cJ cZ cS a_t a_s a_keptS a_statuses a_pile a_tape a_steps a_wish a_mark a_bitsOf a_sizeOf a_number a_moved v_isKept v_taped v_at v_fault v_laid v_open v_s v_statuses v_pile)) (q_Ri D rr (va_A (wX5_on cI cJ cZ cS a_t a_s a_keptS a_statuses a_pile a_tape a_steps a_wish a_mark a_bitsOf a_sizeOf a_number a_moved v_isKept v_taped v_at v_fault v_laid v_open v_s v_statuses v_pile) sz) ((fun k : (Nat → Int32) × (Nat → Int32) => (wX5_on cI cJ cZ cS a_t a_s a_keptS a_statuses a_pile a_tape a_steps a_wish a_mark a_bitsOf a_sizeOf a_number a_moved v_isKept v_taped v_at v_fault v_laid v_open v_s k.1 k.2)) kk')) 0 0 (va_A (wX5_on cI cJ cZ cS a_t a_s a_keptS a_statuses a_pile a_tape a_steps a_wish a_mark a_bitsOf a_sizeOf a_number a_moved v_isKept v_taped v_at v_fault v_laid v_open v_s v_statuses v_pile) sz) := by
  refine q_enter (Qf := fun A => (q_Ri D rr A ((fun k : (Nat → Int32) × (Nat → Int32) => (wX5_on cI cJ cZ cS a_t a_s a_keptS a_statuses a_pile a_tape a_steps a_wish a_mark a_bitsOf a_sizeOf a_number a_moved v_isKept v_taped v_at v_fault v_laid v_open v_s k.1 k.2)) kk'))) (by decide) rfl (Nat.le_of_ble_eq_true rfl) ?_
  intro p e s m below meth c A ls fx hname h hl
  have hx := fx.1
  have hb := fx.2.1
  have hl : lv_has ls 2 [(0, .ref a_t), (1, .int x1)] := hl
  generalize h9 : s.heap = H at h ⊢
  clear h9
  generalize h9 : ([] : List Loc) = locs at h ⊢
  clear h9
  unfold fX5_on at hf
  refine lv_iload_n hx hb dX5_on_0 rfl (lv_at hl 1 rfl) ?_
  refine lv_i2l hx hb dX5_on_1 rfl ?_
  refine lv_lconst (v := 0) hx hb dX5_on_2 (by decide) ?_
  refine q_ldc2 fx k_847 dX5_on_3 ?_
  obtain ⟨r1, k1, hg, hf⟩ := bR_inv hf
  refine q_ci (rest := []) (ws' := (wX5_on cI cJ cZ cS a_t a_s a_keptS a_statuses a_pile a_tape a_steps a_wish a_mark a_bitsOf a_sizeOf a_number a_moved v_isKept v_taped v_at v_fault v_laid v_open v_s v_statuses v_pile)) (w1 := (wX5_in cI cJ cZ cS)) fx h [] rfl rfl rfl rfl (q_runS fx h hl.1 [] rfl rfl (tX5_in l D cI cJ cZ cS tb H.size (x1.toInt64) 0 64 r1 k1 hg) msX5_in k_697 ⟨rfl, rfl⟩ ⟨Nat.le_of_ble_eq_true rfl, Nat.le_of_ble_eq_true rfl⟩ rfl rfl (Nat.le_of_ble_eq_true rfl) dX5_on_6 ⟨Nat.le_of_ble_eq_true rfl, Nat.le_of_ble_eq_true rfl⟩) (fun H locs h => ?_)
  refine lv_if_eq (tgt := 26) hx hb dX5_on_9 (by decide) (fun c2 => ?_) (fun c2 => ?_)
  · have hf := it_t c2 hf
    refine lv_aload_n hx hb dX5_on_26 rfl (lv_at hl 0 rfl) ?_
    refine q_ldc fx k_701 dX5_on_27 ?_
    obtain ⟨r3, k3, hg, hf⟩ := bR_inv hf
    refine q_ci (rest := []) (ws' := (wX5_on cI cJ cZ cS a_t a_s a_keptS a_statuses a_pile a_tape a_steps a_wish a_mark a_bitsOf a_sizeOf a_number a_moved v_isKept v_taped v_at v_fault v_laid v_open v_s k3 v_pile)) (w1 := (wX5_finds cI cJ cZ cS a_t a_s a_keptS a_statuses a_pile a_tape a_steps a_wish a_mark a_bitsOf a_sizeOf a_number a_moved v_isKept v_taped v_at v_fault v_laid v_open k3)) fx h [0, 2] rfl rfl rfl rfl (q_runV fx h hl.1 [0, 2] rfl rfl (tX5_finds l D cI cJ cZ cS tb a_t a_s a_keptS a_statuses a_pile a_tape a_steps a_wish a_mark a_bitsOf a_sizeOf a_number a_moved H.size v_isKept v_taped v_at v_fault v_laid v_open v_statuses (-1000000001) r3 k3 hg) mvX5_finds k_702 ⟨rfl, rfl⟩ ⟨Nat.le_of_ble_eq_true rfl, Nat.le_of_ble_eq_true rfl⟩ rfl rfl rfl rfl (Nat.le_of_ble_eq_true rfl) dX5_on_29 ⟨Nat.le_of_ble_eq_true rfl, Nat.le_of_ble_eq_true rfl⟩) (fun H locs h => ?_)
    exact q_reti (fun k : (Nat → Int32) × (Nat → Int32) => (wX5_on cI cJ cZ cS a_t a_s a_keptS a_statuses a_pile a_tape a_steps a_wish a_mark a_bitsOf a_sizeOf a_number a_moved v_isKept v_taped v_at v_fault v_laid v_open v_s k.1 k.2)) fx hf h dX5_on_32
  have hf := it_f c2 hf
  refine lv_aload_n hx hb dX5_on_12 rfl (lv_at hl 0 rfl) ?_
  refine lv_aload_n hx hb dX5_on_13 rfl (lv_at hl 0 rfl) ?_
  refine q_get (v := .ref a_s) fx inX5 h 0 rfl rfl 0 (by decide) k_636 rfl dX5_on_14 ?_
  refine lv_iconst (v := 1) hx hb dX5_on_17 (by decide) ?_
  refine q_ialdK fx h 1 rfl 1 (vinK (by decide)) (by decide) dX5_on_18 ?_
  refine lv_iload_n hx hb dX5_on_19 rfl (lv_at hl 1 rfl) ?_
  obtain ⟨r4, k4, hg, hf⟩ := bR_inv hf
  refine q_ci (rest := []) (ws' := (wX5_on cI cJ cZ cS a_t a_s a_keptS a_statuses a_pile a_tape a_steps a_wish a_mark a_bitsOf a_sizeOf a_number a_moved v_isKept v_taped v_at v_fault v_laid v_open v_s v_statuses k4)) (w1 := (wX5_behind cI cJ cZ cS a_t a_s a_keptS a_statuses a_pile a_tape a_steps a_wish a_mark a_bitsOf a_sizeOf a_number a_moved v_isKept v_taped v_at v_fault v_laid v_open v_s k4)) fx h [0, 1, 3] rfl rfl rfl rfl (q_runV fx h hl.1 [0, 1, 3] rfl rfl (tX5_behind l D cI cJ cZ cS tb a_t a_s a_keptS a_statuses a_pile a_tape a_steps a_wish a_mark a_bitsOf a_sizeOf a_number a_moved H.size v_isKept v_taped v_at v_fault v_laid v_open v_s v_pile (v_s 1) x1 r4 k4 hg) mvX5_behind k_848 ⟨rfl, rfl⟩ ⟨Nat.le_of_ble_eq_true rfl, Nat.le_of_ble_eq_true rfl⟩ rfl rfl rfl rfl (Nat.le_of_ble_eq_true rfl) dX5_on_20 ⟨Nat.le_of_ble_eq_true rfl, Nat.le_of_ble_eq_true rfl⟩) (fun H locs h => ?_)
  refine lv_goto (tgt := 32) hx hb dX5_on_23 (by decide) ?_
  exact q_reti (fun k : (Nat → Int32) × (Nat → Int32) => (wX5_on cI cJ cZ cS a_t a_s a_keptS a_statuses a_pile a_tape a_steps a_wish a_mark a_bitsOf a_sizeOf a_number a_moved v_isKept v_taped v_at v_fault v_laid v_open v_s k.1 k.2)) fx hf h dX5_on_32
/-! X5_looksAll -/
abbrev wX5_looksAll (cI cJ cZ cS : ClassId) (a_t a_s a_keptS a_statuses a_pile a_tape a_steps a_wish a_mark a_bitsOf a_sizeOf a_number a_moved : Nat) (v_isKept : Int32) (v_taped : Int32) (v_at : Int32) (v_fault : Int32) (v_laid : Int32) (v_open : Int32) (v_s : Nat → Int32) (v_pile : Nat → Int32) (v_wish : Nat → Int32) : va_W := [(a_t, .inr (5, [.ref a_s, .ref a_keptS, .ref a_statuses, .int v_isKept, .ref a_pile, .ref a_tape, .ref a_steps, .int v_taped, .int v_at, .int v_fault, .int v_laid, .int v_open, .ref a_wish, .ref a_mark, .ref a_bitsOf, .ref a_sizeOf, .ref a_number, .ref a_moved])), (a_s, .inl (cI, 538, .inl v_s)), (a_pile, .inl (cZ, 64, .inl v_pile)), (a_wish, .inl (cI, 256, .inl v_wish))]
abbrev rX5_looksAll : Room := { frames := 5, cells := 0, slots := 0, locals := 116 }
def fX5_looksAll_2 (v_s : Nat → Int32) (ag2 : (Nat → Int32) → (Nat → Int32) → Int32 → Option ((Nat → Int32) × (Nat → Int32))) (v_pile : Nat → Int32) (v_wish : Nat → Int32) (y1 : Int32) : Option ((Nat → Int32) × (Nat → Int32)) :=
  bR (fX5_lists v_s) (fun r1 k1 =>
  (if r1 ≤ y1 then (
  some (v_pile, v_wish))
  else (
  bR (fX5_would v_s v_pile y1) (fun r3 k3 =>
  gIn y1 256 (
  nm (y1 + 1) (fun u5 =>
  ag2 k3 (upd v_wish y1.toNatClampNeg r3) u5))))))
set_option maxRecDepth 100000 in
set_option maxHeartbeats 4000000 in
theorem LX5_looksAll_2 {p : Program} {l : Launch} {e : Env} {s : State} {m : MethodId} {args : Array Value} {below : List Frame} {meth : Method} {c : Code} {D : va_G} {cI cJ cZ cS : ClassId} {tb : Nat} {A : Nat → Prop} {a_t a_s a_keptS a_statuses a_pile a_tape a_steps a_wish a_mark a_bitsOf a_sizeOf a_number a_moved : Nat} {v_isKept : Int32} {v_taped : Int32} {v_at : Int32} {v_fault : Int32} {v_laid : Int32} {v_open : Int32} {v_s : Nat → Int32} {kk' : (Nat → Int32) × (Nat → Int32)} (fx : q_Fx p s m args meth c cX5_looksAll 2 RX5 none D cI cJ cZ cS tb A) {ag2 : (Nat → Int32) → (Nat → Int32) → Int32 → Option ((Nat → Int32) × (Nat → Int32))} (hag2 : ∀ {v_pile : Nat → Int32} {v_wish : Nat → Int32} {y1 : Int32} {H : Heap} {locs : List Loc} {ls : Array Slot}, q_H D A s (wX5_looksAll cI cJ cZ cS a_t a_s a_keptS a_statuses a_pile a_tape a_steps a_wish a_mark a_bitsOf a_sizeOf a_number a_moved v_isKept v_taped v_at v_fault v_laid v_open v_s v_pile v_wish) H locs → lv_has ls 2 [(0, .ref a_t), (1, .int y1)] → ag2 v_pile v_wish y1 = some kk' → W p l e rX5_looksAll s m args below meth c H locs 0 0 (MQ below (q_Rv D A ((fun k : (Nat → Int32) × (Nat → Int32) => (wX5_looksAll cI cJ cZ cS a_t a_s a_keptS a_statuses a_pile a_tape a_steps a_wish a_mark a_bitsOf a_sizeOf a_number a_moved v_isKept v_taped v_at v_fault v_laid v_open v_s k.1 k.2)) kk')) args s 0 0 A) (F0 m 2 ls [])) : ∀ {v_pile : Nat → Int32} {v_wish : Nat → Int32} {y1 : Int32} {H : Heap} {locs : List Loc} {ls : Array Slot}, q_H D A s (wX5_looksAll cI cJ cZ cS a_t a_s a_keptS a_statuses a_pile a_tape a_steps a_wish a_mark a_bitsOf a_sizeOf a_number a_moved v_isKept v_taped v_at v_fault v_laid v_open v_s v_pile v_wish) H locs → lv_has ls 2 [(0, .ref a_t), (1, .int y1)] → fX5_looksAll_2 v_s ag2 v_pile v_wish y1 = some kk' → W p l e rX5_looksAll s m args below meth c H locs 0 0 (MQ below (q_Rv D A ((fun k : (Nat → Int32) × (Nat → Int32) => (wX5_looksAll cI cJ cZ cS a_t a_s a_keptS a_statuses a_pile a_tape a_steps a_wish a_mark a_bitsOf a_sizeOf a_number a_moved v_isKept v_taped v_at v_fault v_laid v_open v_s k.1 k.2)) kk')) args s 0 0 A) (F0 m 2 ls []) := by
  intro v_pile v_wish y1 H locs ls h hl hf
  have hx := fx.1
  have hb := fx.2.1
  unfold fX5_looksAll_2 at hf
  refine lv_iload_n hx hb dX5_looksAll_2 rfl (lv_at hl 1 rfl) ?_
  refine lv_aload_n hx hb dX5_looksAll_3 rfl (lv_at hl 0 rfl) ?_
  obtain ⟨r1, k1, hg, hf⟩ := bR_inv hf
  refine q_ci (rest := [.int y1]) (ws' := (wX5_looksAll cI cJ cZ cS a_t a_s a_keptS a_statuses a_pile a_tape a_steps a_wish a_mark a_bitsOf a_sizeOf a_number a_moved v_isKept v_taped v_at v_fault v_laid v_open v_s v_pile v_wish)) (w1 := (wX5_lists cI cJ cZ cS a_t a_s a_keptS a_statuses a_pile a_tape a_steps a_wish a_mark a_bitsOf a_sizeOf a_number a_moved v_isKept v_taped v_at v_fault v_laid v_open v_s)) fx h [0, 1] rfl rfl rfl rfl (q_runV fx h hl.1 [0, 1] rfl rfl (tX5_lists l D cI cJ cZ cS tb a_t a_s a_keptS a_statuses a_pile a_tape a_steps a_wish a_mark a_bitsOf a_sizeOf a_number a_moved H.size v_isKept v_taped v_at v_fault v_laid v_open v_s r1 k1 hg) mvX5_lists k_810 ⟨rfl, rfl⟩ ⟨Nat.le_of_ble_eq_true rfl, Nat.le_of_ble_eq_true rfl⟩ rfl rfl rfl rfl (Nat.le_of_ble_eq_true rfl) dX5_looksAll_4 ⟨Nat.le_of_ble_eq_true rfl, Nat.le_of_ble_eq_true rfl⟩) (fun H locs h => ?_)
  refine lv_icmp_ge (tgt := 27) hx hb dX5_looksAll_7 (by decide) (fun c2 => ?_) (fun c2 => ?_)
  · have hf := it_t c2 hf
    exact q_retv (fun k : (Nat → Int32) × (Nat → Int32) => (wX5_looksAll cI cJ cZ cS a_t a_s a_keptS a_statuses a_pile a_tape a_steps a_wish a_mark a_bitsOf a_sizeOf a_number a_moved v_isKept v_taped v_at v_fault v_laid v_open v_s k.1 k.2)) fx hf h dX5_looksAll_27
  have hf := it_f c2 hf
  refine lv_aload_n hx hb dX5_looksAll_10 rfl (lv_at hl 0 rfl) ?_
  refine q_get (v := .ref a_wish) fx inX5 h 0 rfl rfl 12 (by decide) k_648 rfl dX5_looksAll_11 ?_
  refine lv_iload_n hx hb dX5_looksAll_14 rfl (lv_at hl 1 rfl) ?_
  refine lv_aload_n hx hb dX5_looksAll_15 rfl (lv_at hl 0 rfl) ?_
  refine lv_iload_n hx hb dX5_looksAll_16 rfl (lv_at hl 1 rfl) ?_
  obtain ⟨r3, k3, hg, hf⟩ := bR_inv hf
  refine q_ci (rest := [.int y1, .ref a_wish]) (ws' := (wX5_looksAll cI cJ cZ cS a_t a_s a_keptS a_statuses a_pile a_tape a_steps a_wish a_mark a_bitsOf a_sizeOf a_number a_moved v_isKept v_taped v_at v_fault v_laid v_open v_s k3 v_wish)) (w1 := (wX5_would cI cJ cZ cS a_t a_s a_keptS a_statuses a_pile a_tape a_steps a_wish a_mark a_bitsOf a_sizeOf a_number a_moved v_isKept v_taped v_at v_fault v_laid v_open v_s k3)) fx h [0, 1, 2] rfl rfl rfl rfl (q_runV fx h hl.1 [0, 1, 2] rfl rfl (tX5_would l D cI cJ cZ cS tb a_t a_s a_keptS a_statuses a_pile a_tape a_steps a_wish a_mark a_bitsOf a_sizeOf a_number a_moved H.size v_isKept v_taped v_at v_fault v_laid v_open v_s v_pile y1 r3 k3 hg) mvX5_would k_818 ⟨rfl, rfl⟩ ⟨Nat.le_of_ble_eq_true rfl, Nat.le_of_ble_eq_true rfl⟩ rfl rfl rfl rfl (Nat.le_of_ble_eq_true rfl) dX5_looksAll_17 ⟨Nat.le_of_ble_eq_true rfl, Nat.le_of_ble_eq_true rfl⟩) (fun H locs h => ?_)
  obtain ⟨i4, hf⟩ := gIn_inv hf
  refine q_iast (ws' := (wX5_looksAll cI cJ cZ cS a_t a_s a_keptS a_statuses a_pile a_tape a_steps a_wish a_mark a_bitsOf a_sizeOf a_number a_moved v_isKept v_taped v_at v_fault v_laid v_open v_s k3 (upd v_wish y1.toNatClampNeg r3))) fx h 3 rfl i4 rfl dX5_looksAll_20 (fun H locs h => ?_)
  obtain ⟨u5, eu5, hf⟩ := nm_inv hf
  refine lv_iinc (v := u5) (lv' := [(1, .int u5), (0, .ref a_t)]) hx hb dX5_looksAll_21 hl (k := 1) rfl (by rw [eu5]; rfl) (by decide) rfl (fun ls hl => ?_)
  refine lv_goto (tgt := 2) hx hb dX5_looksAll_24 (by decide) ?_
  exact hag2 h (lv_sub hl [1, 0] rfl) hf
set_option maxRecDepth 100000 in
theorem EX5_looksAll_2 {p : Program} {l : Launch} {e : Env} {s : State} {m : MethodId} {args : Array Value} {below : List Frame} {meth : Method} {c : Code} {D : va_G} {cI cJ cZ cS : ClassId} {tb : Nat} {A : Nat → Prop} {a_t a_s a_keptS a_statuses a_pile a_tape a_steps a_wish a_mark a_bitsOf a_sizeOf a_number a_moved : Nat} {v_isKept : Int32} {v_taped : Int32} {v_at : Int32} {v_fault : Int32} {v_laid : Int32} {v_open : Int32} {v_s : Nat → Int32} {kk' : (Nat → Int32) × (Nat → Int32)} (fx : q_Fx p s m args meth c cX5_looksAll 2 RX5 none D cI cJ cZ cS tb A) : ∀ (n : Nat), ∀ {v_pile : Nat → Int32} {v_wish : Nat → Int32} {y1 : Int32} {H : Heap} {locs : List Loc} {ls : Array Slot}, q_H D A s (wX5_looksAll cI cJ cZ cS a_t a_s a_keptS a_statuses a_pile a_tape a_steps a_wish a_mark a_bitsOf a_sizeOf a_number a_moved v_isKept v_taped v_at v_fault v_laid v_open v_s v_pile v_wish) H locs → lv_has ls 2 [(0, .ref a_t), (1, .int y1)] → ll3 (fX5_looksAll_2 v_s) n v_pile v_wish y1 = some kk' → W p l e rX5_looksAll s m args below meth c H locs 0 0 (MQ below (q_Rv D A ((fun k : (Nat → Int32) × (Nat → Int32) => (wX5_looksAll cI cJ cZ cS a_t a_s a_keptS a_statuses a_pile a_tape a_steps a_wish a_mark a_bitsOf a_sizeOf a_number a_moved v_isKept v_taped v_at v_fault v_laid v_open v_s k.1 k.2)) kk')) args s 0 0 A) (F0 m 2 ls []) := by
  intro n
  induction n with
  | zero => intro v_pile v_wish y1 H locs ls h hl hf; exact (ll3_z hf).elim
  | succ n ih => intro v_pile v_wish y1 H locs ls h hl hf; exact LX5_looksAll_2 fx ih h hl (ll3_s hf)
def fX5_looksAll (v_s : Nat → Int32) (v_pile : Nat → Int32) (v_wish : Nat → Int32) : Option ((Nat → Int32) × (Nat → Int32)) :=
  ll3 (fX5_looksAll_2 v_s) qF v_pile v_wish 0
set_option maxRecDepth 100000 in
set_option maxHeartbeats 4000000 in
theorem tX5_looksAll (l : Launch) (D : va_G) (cI cJ cZ cS : ClassId) (tb : Nat) (a_t a_s a_keptS a_statuses a_pile a_tape a_steps a_wish a_mark a_bitsOf a_sizeOf a_number a_moved : Nat) (sz : Nat) (v_isKept : Int32) (v_taped : Int32) (v_at : Int32) (v_fault : Int32) (v_laid : Int32) (v_open : Int32) (v_s : Nat → Int32) (v_pile : Nat → Int32) (v_wish : Nat → Int32) (kk' : (Nat → Int32) × (Nat → Int32)) (hf : fX5_looksAll v_s v_pile v_wish = some kk') : Met l yX5_looksAll (Cond.code yX5_looksAll cX5_looksAll 2 none :: wA) rX5_looksAll (q_Pre D cI cJ cZ cS tb [.ref a_t] sz (wX5_looksAll cI cJ cZ cS a_t a_s a_keptS a_statuses a_pile a_tape a_steps a_wish a_mark a_bitsOf a_sizeOf a_number a_moved v_isKept v_taped v_at v_fault v_laid v_open v_s v_pile v_wish)) (q_Rv D (va_A (wX5_looksAll cI cJ cZ cS a_t a_s a_keptS a_statuses a_pile a_tape a_steps a_wish a_mark a_bitsOf a_sizeOf a_number a_moved v_isKept v_taped v_at v_fault v_laid v_open v_s v_pile v_wish) sz) ((fun k : (Nat → Int32) × (Nat → Int32) => (wX5_looksAll cI cJ cZ cS a_t a_s a_keptS a_statuses a_pile a_tape a_steps a_wish a_mark a_bitsOf a_sizeOf a_number a_moved v_isKept v_taped v_at v_fault v_laid v_open v_s k.1 k.2)) kk')) 0 0 (va_A (wX5_looksAll cI cJ cZ cS a_t a_s a_keptS a_statuses a_pile a_tape a_steps a_wish a_mark a_bitsOf a_sizeOf a_number a_moved v_isKept v_taped v_at v_fault v_laid v_open v_s v_pile v_wish) sz) := by
  refine q_enter (Qf := fun A => (q_Rv D A ((fun k : (Nat → Int32) × (Nat → Int32) => (wX5_looksAll cI cJ cZ cS a_t a_s a_keptS a_statuses a_pile a_tape a_steps a_wish a_mark a_bitsOf a_sizeOf a_number a_moved v_isKept v_taped v_at v_fault v_laid v_open v_s k.1 k.2)) kk'))) (by decide) rfl (Nat.le_of_ble_eq_true rfl) ?_
  intro p e s m below meth c A ls fx hname h hl
  have hx := fx.1
  have hb := fx.2.1
  have hl : lv_has ls 2 [(0, .ref a_t)] := hl
  generalize h9 : s.heap = H at h ⊢
  clear h9
  generalize h9 : ([] : List Loc) = locs at h ⊢
  clear h9
  unfold fX5_looksAll at hf
  refine lv_iconst (v := 0) hx hb dX5_looksAll_0 (by decide) ?_
  refine lv_istore_n (lv' := [(1, .int 0), (0, .ref a_t)]) hx hb dX5_looksAll_1 rfl hl (by decide) rfl (fun ls hl => ?_)
  exact EX5_looksAll_2 fx qF h (lv_sub hl [1, 0] rfl) hf
/-! X5_when -/
abbrev wX5_when (cI cJ cZ cS : ClassId) (a_t a_s a_keptS a_statuses a_pile a_tape a_steps a_wish a_mark a_bitsOf a_sizeOf a_number a_moved : Nat) (v_isKept : Int32) (v_taped : Int32) (v_at : Int32) (v_fault : Int32) (v_laid : Int32) (v_open : Int32) (v_s : Nat → Int32) (v_statuses : Nat → Int32) (v_pile : Nat → Int32) (v_wish : Nat → Int32) : va_W := [(a_t, .inr (5, [.ref a_s, .ref a_keptS, .ref a_statuses, .int v_isKept, .ref a_pile, .ref a_tape, .ref a_steps, .int v_taped, .int v_at, .int v_fault, .int v_laid, .int v_open, .ref a_wish, .ref a_mark, .ref a_bitsOf, .ref a_sizeOf, .ref a_number, .ref a_moved])), (a_s, .inl (cI, 538, .inl v_s)), (a_statuses, .inl (cI, 7, .inl v_statuses)), (a_pile, .inl (cZ, 64, .inl v_pile)), (a_wish, .inl (cI, 256, .inl v_wish))]
abbrev rX5_when : Room := { frames := 6, cells := 0, slots := 0, locals := 137 }
def fX5_when_43 (v_s : Nat → Int32) (v_statuses : Nat → Int32) (v_pile : Nat → Int32) (v_wish : Nat → Int32) (y1 : Int32) (y2 : Int32) : Option (Int32 × (Nat → Int32) × (Nat → Int32) × (Nat → Int32)) :=
  gIn y1 256 (
  (if (v_wish y1.toNatClampNeg) = y1 then (
  some (y2, (v_statuses, v_pile, v_wish)))
  else (
  bR (fX5_finds v_statuses (-1000000004)) (fun r3 k3 =>
  some (r3, (k3, v_pile, v_wish))))))
set_option maxRecDepth 100000 in
set_option maxHeartbeats 4000000 in
theorem LX5_when_43 {p : Program} {l : Launch} {e : Env} {s : State} {m : MethodId} {args : Array Value} {below : List Frame} {meth : Method} {c : Code} {D : va_G} {cI cJ cZ cS : ClassId} {tb : Nat} {A : Nat → Prop} {a_t a_s a_keptS a_statuses a_pile a_tape a_steps a_wish a_mark a_bitsOf a_sizeOf a_number a_moved : Nat} {v_isKept : Int32} {v_taped : Int32} {v_at : Int32} {v_fault : Int32} {v_laid : Int32} {v_open : Int32} {v_s : Nat → Int32} {rr : Int32} {kk' : (Nat → Int32) × (Nat → Int32) × (Nat → Int32)} (fx : q_Fx p s m args meth c cX5_when 3 RX5 (some .int) D cI cJ cZ cS tb A) : ∀ {v_statuses : Nat → Int32} {v_pile : Nat → Int32} {v_wish : Nat → Int32} {y1 : Int32} {y2 : Int32} {H : Heap} {locs : List Loc} {ls : Array Slot}, q_H D A s (wX5_when cI cJ cZ cS a_t a_s a_keptS a_statuses a_pile a_tape a_steps a_wish a_mark a_bitsOf a_sizeOf a_number a_moved v_isKept v_taped v_at v_fault v_laid v_open v_s v_statuses v_pile v_wish) H locs → lv_has ls 3 [(0, .ref a_t), (1, .int y1), (2, .int y2)] → fX5_when_43 v_s v_statuses v_pile v_wish y1 y2 = some (rr, kk') → W p l e rX5_when s m args below meth c H locs 0 0 (MQ below (q_Ri D rr A ((fun k : (Nat → Int32) × (Nat → Int32) × (Nat → Int32) => (wX5_when cI cJ cZ cS a_t a_s a_keptS a_statuses a_pile a_tape a_steps a_wish a_mark a_bitsOf a_sizeOf a_number a_moved v_isKept v_taped v_at v_fault v_laid v_open v_s k.1 k.2.1 k.2.2)) kk')) args s 0 0 A) (F0 m 43 ls []) := by
  intro v_statuses v_pile v_wish y1 y2 H locs ls h hl hf
  have hx := fx.1
  have hb := fx.2.1
  unfold fX5_when_43 at hf
  refine lv_aload_n hx hb dX5_when_43 rfl (lv_at hl 0 rfl) ?_
  refine q_get (v := .ref a_wish) fx inX5 h 0 rfl rfl 12 (by decide) k_648 rfl dX5_when_44 ?_
  refine lv_iload_n hx hb dX5_when_47 rfl (lv_at hl 1 rfl) ?_
  obtain ⟨i1, hf⟩ := gIn_inv hf
  refine q_iald fx h 4 rfl i1 dX5_when_48 ?_
  refine lv_iload_n hx hb dX5_when_49 rfl (lv_at hl 1 rfl) ?_
  refine lv_icmp_ne (tgt := 57) hx hb dX5_when_50 (by decide) (fun c2 => ?_) (fun c2 => ?_)
  · have hf := it_f c2 hf
    refine lv_aload_n hx hb dX5_when_57 rfl (lv_at hl 0 rfl) ?_
    refine q_ldc fx k_864 dX5_when_58 ?_
    obtain ⟨r3, k3, hg, hf⟩ := bR_inv hf
    refine q_ci (rest := []) (ws' := (wX5_when cI cJ cZ cS a_t a_s a_keptS a_statuses a_pile a_tape a_steps a_wish a_mark a_bitsOf a_sizeOf a_number a_moved v_isKept v_taped v_at v_fault v_laid v_open v_s k3 v_pile v_wish)) (w1 := (wX5_finds cI cJ cZ cS a_t a_s a_keptS a_statuses a_pile a_tape a_steps a_wish a_mark a_bitsOf a_sizeOf a_number a_moved v_isKept v_taped v_at v_fault v_laid v_open k3)) fx h [0, 2] rfl rfl rfl rfl (q_runV fx h hl.1 [0, 2] rfl rfl (tX5_finds l D cI cJ cZ cS tb a_t a_s a_keptS a_statuses a_pile a_tape a_steps a_wish a_mark a_bitsOf a_sizeOf a_number a_moved H.size v_isKept v_taped v_at v_fault v_laid v_open v_statuses (-1000000004) r3 k3 hg) mvX5_finds k_702 ⟨rfl, rfl⟩ ⟨Nat.le_of_ble_eq_true rfl, Nat.le_of_ble_eq_true rfl⟩ rfl rfl rfl rfl (Nat.le_of_ble_eq_true rfl) dX5_when_60 ⟨Nat.le_of_ble_eq_true rfl, Nat.le_of_ble_eq_true rfl⟩) (fun H locs h => ?_)
    exact q_reti (fun k : (Nat → Int32) × (Nat → Int32) × (Nat → Int32) => (wX5_when cI cJ cZ cS a_t a_s a_keptS a_statuses a_pile a_tape a_steps a_wish a_mark a_bitsOf a_sizeOf a_number a_moved v_isKept v_taped v_at v_fault v_laid v_open v_s k.1 k.2.1 k.2.2)) fx hf h dX5_when_63
  have hf := it_t c2 hf
  refine lv_iload_n hx hb dX5_when_53 rfl (lv_at hl 2 rfl) ?_
  refine lv_goto (tgt := 63) hx hb dX5_when_54 (by decide) ?_
  exact q_reti (fun k : (Nat → Int32) × (Nat → Int32) × (Nat → Int32) => (wX5_when cI cJ cZ cS a_t a_s a_keptS a_statuses a_pile a_tape a_steps a_wish a_mark a_bitsOf a_sizeOf a_number a_moved v_isKept v_taped v_at v_fault v_laid v_open v_s k.1 k.2.1 k.2.2)) fx hf h dX5_when_63
def fX5_when_13 (v_s : Nat → Int32) (ag13 : (Nat → Int32) → (Nat → Int32) → (Nat → Int32) → Int32 → Int32 → Option (Int32 × (Nat → Int32) × (Nat → Int32) × (Nat → Int32))) (v_statuses : Nat → Int32) (v_pile : Nat → Int32) (v_wish : Nat → Int32) (y1 : Int32) (y2 : Int32) : Option (Int32 × (Nat → Int32) × (Nat → Int32) × (Nat → Int32)) :=
  (if (256 : Int32) ≤ y2 then (
  fX5_when_43 v_s v_statuses v_pile v_wish y1 y2)
  else (
  gIn y1 256 (
  (if (v_wish y1.toNatClampNeg) = y1 then (
  fX5_when_43 v_s v_statuses v_pile v_wish y1 y2)
  else (
  gIn y1 256 (
  nm (v_wish y1.toNatClampNeg) (fun u8 =>
  nm (y2 + 1) (fun u9 =>
  ag13 v_statuses v_pile v_wish u8 u9))))))))
set_option maxRecDepth 100000 in
set_option maxHeartbeats 4000000 in
theorem LX5_when_13 {p : Program} {l : Launch} {e : Env} {s : State} {m : MethodId} {args : Array Value} {below : List Frame} {meth : Method} {c : Code} {D : va_G} {cI cJ cZ cS : ClassId} {tb : Nat} {A : Nat → Prop} {a_t a_s a_keptS a_statuses a_pile a_tape a_steps a_wish a_mark a_bitsOf a_sizeOf a_number a_moved : Nat} {v_isKept : Int32} {v_taped : Int32} {v_at : Int32} {v_fault : Int32} {v_laid : Int32} {v_open : Int32} {v_s : Nat → Int32} {rr : Int32} {kk' : (Nat → Int32) × (Nat → Int32) × (Nat → Int32)} (fx : q_Fx p s m args meth c cX5_when 3 RX5 (some .int) D cI cJ cZ cS tb A) {ag13 : (Nat → Int32) → (Nat → Int32) → (Nat → Int32) → Int32 → Int32 → Option (Int32 × (Nat → Int32) × (Nat → Int32) × (Nat → Int32))} (hag13 : ∀ {v_statuses : Nat → Int32} {v_pile : Nat → Int32} {v_wish : Nat → Int32} {y1 : Int32} {y2 : Int32} {H : Heap} {locs : List Loc} {ls : Array Slot}, q_H D A s (wX5_when cI cJ cZ cS a_t a_s a_keptS a_statuses a_pile a_tape a_steps a_wish a_mark a_bitsOf a_sizeOf a_number a_moved v_isKept v_taped v_at v_fault v_laid v_open v_s v_statuses v_pile v_wish) H locs → lv_has ls 3 [(0, .ref a_t), (1, .int y1), (2, .int y2)] → ag13 v_statuses v_pile v_wish y1 y2 = some (rr, kk') → W p l e rX5_when s m args below meth c H locs 0 0 (MQ below (q_Ri D rr A ((fun k : (Nat → Int32) × (Nat → Int32) × (Nat → Int32) => (wX5_when cI cJ cZ cS a_t a_s a_keptS a_statuses a_pile a_tape a_steps a_wish a_mark a_bitsOf a_sizeOf a_number a_moved v_isKept v_taped v_at v_fault v_laid v_open v_s k.1 k.2.1 k.2.2)) kk')) args s 0 0 A) (F0 m 13 ls [])) : ∀ {v_statuses : Nat → Int32} {v_pile : Nat → Int32} {v_wish : Nat → Int32} {y1 : Int32} {y2 : Int32} {H : Heap} {locs : List Loc} {ls : Array Slot}, q_H D A s (wX5_when cI cJ cZ cS a_t a_s a_keptS a_statuses a_pile a_tape a_steps a_wish a_mark a_bitsOf a_sizeOf a_number a_moved v_isKept v_taped v_at v_fault v_laid v_open v_s v_statuses v_pile v_wish) H locs → lv_has ls 3 [(0, .ref a_t), (1, .int y1), (2, .int y2)] → fX5_when_13 v_s ag13 v_statuses v_pile v_wish y1 y2 = some (rr, kk') → W p l e rX5_when s m args below meth c H locs 0 0 (MQ below (q_Ri D rr A ((fun k : (Nat → Int32) × (Nat → Int32) × (Nat → Int32) => (wX5_when cI cJ cZ cS a_t a_s a_keptS a_statuses a_pile a_tape a_steps a_wish a_mark a_bitsOf a_sizeOf a_number a_moved v_isKept v_taped v_at v_fault v_laid v_open v_s k.1 k.2.1 k.2.2)) kk')) args s 0 0 A) (F0 m 13 ls []) := by
  intro v_statuses v_pile v_wish y1 y2 H locs ls h hl hf
  have hx := fx.1
  have hb := fx.2.1
  unfold fX5_when_13 at hf
  refine lv_iload_n hx hb dX5_when_13 rfl (lv_at hl 2 rfl) ?_
  refine lv_sipush (v := 256) hx hb dX5_when_14 (by decide) ?_
  refine lv_icmp_ge (tgt := 43) hx hb dX5_when_17 (by decide) (fun c4 => ?_) (fun c4 => ?_)
  · have hf := it_t c4 hf
    exact LX5_when_43 fx h (lv_sub hl [0, 1, 2] rfl) hf
  have hf := it_f c4 hf
  refine lv_aload_n hx hb dX5_when_20 rfl (lv_at hl 0 rfl) ?_
  refine q_get (v := .ref a_wish) fx inX5 h 0 rfl rfl 12 (by decide) k_648 rfl dX5_when_21 ?_
  refine lv_iload_n hx hb dX5_when_24 rfl (lv_at hl 1 rfl) ?_
  obtain ⟨i5, hf⟩ := gIn_inv hf
  refine q_iald fx h 4 rfl i5 dX5_when_25 ?_
  refine lv_iload_n hx hb dX5_when_26 rfl (lv_at hl 1 rfl) ?_
  refine lv_icmp_eq (tgt := 43) hx hb dX5_when_27 (by decide) (fun c6 => ?_) (fun c6 => ?_)
  · have hf := it_t c6 hf
    exact LX5_when_43 fx h (lv_sub hl [0, 1, 2] rfl) hf
  have hf := it_f c6 hf
  refine lv_aload_n hx hb dX5_when_30 rfl (lv_at hl 0 rfl) ?_
  refine q_get (v := .ref a_wish) fx inX5 h 0 rfl rfl 12 (by decide) k_648 rfl dX5_when_31 ?_
  refine lv_iload_n hx hb dX5_when_34 rfl (lv_at hl 1 rfl) ?_
  obtain ⟨i7, hf⟩ := gIn_inv hf
  refine q_iald fx h 4 rfl i7 dX5_when_35 ?_
  obtain ⟨u8, eu8, hf⟩ := nm_inv hf
  refine lv_eqi eu8 ?_
  refine lv_istore_n (lv' := [(1, .int u8), (0, .ref a_t), (2, .int y2)]) hx hb dX5_when_36 rfl hl (by decide) rfl (fun ls hl => ?_)
  obtain ⟨u9, eu9, hf⟩ := nm_inv hf
  refine lv_iinc (v := u9) (lv' := [(2, .int u9), (1, .int u8), (0, .ref a_t)]) hx hb dX5_when_37 hl (k := 2) rfl (by rw [eu9]; rfl) (by decide) rfl (fun ls hl => ?_)
  refine lv_goto (tgt := 13) hx hb dX5_when_40 (by decide) ?_
  exact hag13 h (lv_sub hl [2, 1, 0] rfl) hf
set_option maxRecDepth 100000 in
theorem EX5_when_13 {p : Program} {l : Launch} {e : Env} {s : State} {m : MethodId} {args : Array Value} {below : List Frame} {meth : Method} {c : Code} {D : va_G} {cI cJ cZ cS : ClassId} {tb : Nat} {A : Nat → Prop} {a_t a_s a_keptS a_statuses a_pile a_tape a_steps a_wish a_mark a_bitsOf a_sizeOf a_number a_moved : Nat} {v_isKept : Int32} {v_taped : Int32} {v_at : Int32} {v_fault : Int32} {v_laid : Int32} {v_open : Int32} {v_s : Nat → Int32} {rr : Int32} {kk' : (Nat → Int32) × (Nat → Int32) × (Nat → Int32)} (fx : q_Fx p s m args meth c cX5_when 3 RX5 (some .int) D cI cJ cZ cS tb A) : ∀ (n : Nat), ∀ {v_statuses : Nat → Int32} {v_pile : Nat → Int32} {v_wish : Nat → Int32} {y1 : Int32} {y2 : Int32} {H : Heap} {locs : List Loc} {ls : Array Slot}, q_H D A s (wX5_when cI cJ cZ cS a_t a_s a_keptS a_statuses a_pile a_tape a_steps a_wish a_mark a_bitsOf a_sizeOf a_number a_moved v_isKept v_taped v_at v_fault v_laid v_open v_s v_statuses v_pile v_wish) H locs → lv_has ls 3 [(0, .ref a_t), (1, .int y1), (2, .int y2)] → ll5 (fX5_when_13 v_s) n v_statuses v_pile v_wish y1 y2 = some (rr, kk') → W p l e rX5_when s m args below meth c H locs 0 0 (MQ below (q_Ri D rr A ((fun k : (Nat → Int32) × (Nat → Int32) × (Nat → Int32) => (wX5_when cI cJ cZ cS a_t a_s a_keptS a_statuses a_pile a_tape a_steps a_wish a_mark a_bitsOf a_sizeOf a_number a_moved v_isKept v_taped v_at v_fault v_laid v_open v_s k.1 k.2.1 k.2.2)) kk')) args s 0 0 A) (F0 m 13 ls []) := by
  intro n
  induction n with
  | zero => intro v_statuses v_pile v_wish y1 y2 H locs ls h hl hf; exact (ll5_z hf).elim
  | succ n ih => intro v_statuses v_pile v_wish y1 y2 H locs ls h hl hf; exact LX5_when_13 fx ih h hl (ll5_s hf)
def fX5_when (v_s : Nat → Int32) (v_statuses : Nat → Int32) (v_pile : Nat → Int32) (v_wish : Nat → Int32) : Option (Int32 × (Nat → Int32) × (Nat → Int32) × (Nat → Int32)) :=
  bV (fX5_looksAll v_s v_pile v_wish) (fun k10 =>
  nm (v_s 1) (fun u11 =>
  ll5 (fX5_when_13 v_s) qF v_statuses k10.1 k10.2 u11 0))
set_option maxRecDepth 100000 in
set_option maxHeartbeats 4000000 in
theorem tX5_when (l : Launch) (D : va_G) (cI cJ cZ cS : ClassId) (tb : Nat) (a_t a_s a_keptS a_statuses a_pile a_tape a_steps a_wish a_mark a_bitsOf a_sizeOf a_number a_moved : Nat) (sz : Nat) (v_isKept : Int32) (v_taped : Int32) (v_at : Int32) (v_fault : Int32) (v_laid : Int32) (v_open : Int32) (v_s : Nat → Int32) (v_statuses : Nat → Int32) (v_pile : Nat → Int32) (v_wish : Nat → Int32) (rr : Int32) (kk' : (Nat → Int32) × (Nat → Int32) × (Nat → Int32)) (hf : fX5_when v_s v_statuses v_pile v_wish = some (rr, kk')) : Met l yX5_when (Cond.code yX5_when cX5_when 3 (some .int) :: wA) rX5_when (q_Pre D cI cJ cZ cS tb [.ref a_t] sz (wX5_when cI cJ cZ cS a_t a_s a_keptS a_statuses a_pile a_tape a_steps a_wish a_mark a_bitsOf a_sizeOf a_number a_moved v_isKept v_taped v_at v_fault v_laid v_open v_s v_statuses v_pile v_wish)) (q_Ri D rr (va_A (wX5_when cI cJ cZ cS a_t a_s a_keptS a_statuses a_pile a_tape a_steps a_wish a_mark a_bitsOf a_sizeOf a_number a_moved v_isKept v_taped v_at v_fault v_laid v_open v_s v_statuses v_pile v_wish) sz) ((fun k : (Nat → Int32) × (Nat → Int32) × (Nat → Int32) => (wX5_when cI cJ cZ cS a_t a_s a_keptS a_statuses a_pile a_tape a_steps a_wish a_mark a_bitsOf a_sizeOf a_number a_moved v_isKept v_taped v_at v_fault v_laid v_open v_s k.1 k.2.1 k.2.2)) kk')) 0 0 (va_A (wX5_when cI cJ cZ cS a_t a_s a_keptS a_statuses a_pile a_tape a_steps a_wish a_mark a_bitsOf a_sizeOf a_number a_moved v_isKept v_taped v_at v_fault v_laid v_open v_s v_statuses v_pile v_wish) sz) := by
  refine q_enter (Qf := fun A => (q_Ri D rr A ((fun k : (Nat → Int32) × (Nat → Int32) × (Nat → Int32) => (wX5_when cI cJ cZ cS a_t a_s a_keptS a_statuses a_pile a_tape a_steps a_wish a_mark a_bitsOf a_sizeOf a_number a_moved v_isKept v_taped v_at v_fault v_laid v_open v_s k.1 k.2.1 k.2.2)) kk'))) (by decide) rfl (Nat.le_of_ble_eq_true rfl) ?_
  intro p e s m below meth c A ls fx hname h hl
  have hx := fx.1
  have hb := fx.2.1
  have hl : lv_has ls 3 [(0, .ref a_t)] := hl
  generalize h9 : s.heap = H at h ⊢
  clear h9
  generalize h9 : ([] : List Loc) = locs at h ⊢
  clear h9
  unfold fX5_when at hf
  refine lv_aload_n hx hb dX5_when_0 rfl (lv_at hl 0 rfl) ?_
  obtain ⟨k10, hg, hf⟩ := bV_inv hf
  refine q_cv (rest := []) (ws' := (wX5_when cI cJ cZ cS a_t a_s a_keptS a_statuses a_pile a_tape a_steps a_wish a_mark a_bitsOf a_sizeOf a_number a_moved v_isKept v_taped v_at v_fault v_laid v_open v_s v_statuses k10.1 k10.2)) (w1 := (wX5_looksAll cI cJ cZ cS a_t a_s a_keptS a_statuses a_pile a_tape a_steps a_wish a_mark a_bitsOf a_sizeOf a_number a_moved v_isKept v_taped v_at v_fault v_laid v_open v_s k10.1 k10.2)) fx h [0, 1, 3, 4] rfl rfl rfl rfl (q_runV fx h hl.1 [0, 1, 3, 4] rfl rfl (tX5_looksAll l D cI cJ cZ cS tb a_t a_s a_keptS a_statuses a_pile a_tape a_steps a_wish a_mark a_bitsOf a_sizeOf a_number a_moved H.size v_isKept v_taped v_at v_fault v_laid v_open v_s v_pile v_wish k10 hg) mvX5_looksAll k_860 ⟨rfl, rfl⟩ ⟨Nat.le_of_ble_eq_true rfl, Nat.le_of_ble_eq_true rfl⟩ rfl rfl rfl rfl (Nat.le_of_ble_eq_true rfl) dX5_when_1 ⟨Nat.le_of_ble_eq_true rfl, Nat.le_of_ble_eq_true rfl⟩) (fun H locs h => ?_)
  refine lv_aload_n hx hb dX5_when_4 rfl (lv_at hl 0 rfl) ?_
  refine q_get (v := .ref a_s) fx inX5 h 0 rfl rfl 0 (by decide) k_636 rfl dX5_when_5 ?_
  refine lv_iconst (v := 1) hx hb dX5_when_8 (by decide) ?_
  refine q_ialdK fx h 1 rfl 1 (vinK (by decide)) (by decide) dX5_when_9 ?_
  obtain ⟨u11, eu11, hf⟩ := nm_inv hf
  refine lv_eqi eu11 ?_
  refine lv_istore_n (lv' := [(1, .int u11), (0, .ref a_t)]) hx hb dX5_when_10 rfl hl (by decide) rfl (fun ls hl => ?_)
  refine lv_iconst (v := 0) hx hb dX5_when_11 (by decide) ?_
  refine lv_istore_n (lv' := [(2, .int 0), (1, .int u11), (0, .ref a_t)]) hx hb dX5_when_12 rfl hl (by decide) rfl (fun ls hl => ?_)
  exact EX5_when_13 fx qF h (lv_sub hl [2, 1, 0] rfl) hf
end
section
/-! X5_ring -/
abbrev wX5_ring (cI cJ cZ cS : ClassId) (a_t a_s a_keptS a_statuses a_pile a_tape a_steps a_wish a_mark a_bitsOf a_sizeOf a_number a_moved : Nat) (v_isKept : Int32) (v_taped : Int32) (v_at : Int32) (v_fault : Int32) (v_laid : Int32) (v_open : Int32) (v_s : Nat → Int32) (v_statuses : Nat → Int32) (v_pile : Nat → Int32) (v_wish : Nat → Int32) (v_mark : Nat → Int32) : va_W := [(a_t, .inr (5, [.ref a_s, .ref a_keptS, .ref a_statuses, .int v_isKept, .ref a_pile, .ref a_tape, .ref a_steps, .int v_taped, .int v_at, .int v_fault, .int v_laid, .int v_open, .ref a_wish, .ref a_mark, .ref a_bitsOf, .ref a_sizeOf, .ref a_number, .ref a_moved])), (a_s, .inl (cI, 538, .inl v_s)), (a_statuses, .inl (cI, 7, .inl v_statuses)), (a_pile, .inl (cZ, 64, .inl v_pile)), (a_wish, .inl (cI, 256, .inl v_wish)), (a_mark, .inl (cI, 256, .inl v_mark))]
abbrev rX5_ring : Room := { frames := 6, cells := 0, slots := 0, locals := 137 }
def fX5_ring_52 (v_s : Nat → Int32) (ag52 : (Nat → Int32) → (Nat → Int32) → (Nat → Int32) → (Nat → Int32) → Int32 → Int32 → Int32 → Option (Int32 × (Nat → Int32) × (Nat → Int32) × (Nat → Int32) × (Nat → Int32))) (v_statuses : Nat → Int32) (v_pile : Nat → Int32) (v_wish : Nat → Int32) (v_mark : Nat → Int32) (y1 : Int32) (y2 : Int32) (y3 : Int32) : Option (Int32 × (Nat → Int32) × (Nat → Int32) × (Nat → Int32) × (Nat → Int32)) :=
  gIn y2 256 (
  (if (0 : Int32) ≤ (v_mark y2.toNatClampNeg) then (
  (if y1 = 0 then (
  gIn y2 256 (
  some (v_mark y2.toNatClampNeg, (v_statuses, v_pile, v_wish, v_mark))))
  else (
  gIn y2 256 (
  some (y3 - (v_mark y2.toNatClampNeg), (v_statuses, v_pile, v_wish, v_mark))))))
  else (
  gIn y2 256 (
  gIn y2 256 (
  nm (v_wish y2.toNatClampNeg) (fun u8 =>
  nm (y3 + 1) (fun u9 =>
  ag52 v_statuses v_pile v_wish (upd v_mark y2.toNatClampNeg y3) y1 u8 u9)))))))
set_option maxRecDepth 100000 in
set_option maxHeartbeats 4000000 in
theorem LX5_ring_52 {p : Program} {l : Launch} {e : Env} {s : State} {m : MethodId} {args : Array Value} {below : List Frame} {meth : Method} {c : Code} {D : va_G} {cI cJ cZ cS : ClassId} {tb : Nat} {A : Nat → Prop} {a_t a_s a_keptS a_statuses a_pile a_tape a_steps a_wish a_mark a_bitsOf a_sizeOf a_number a_moved : Nat} {v_isKept : Int32} {v_taped : Int32} {v_at : Int32} {v_fault : Int32} {v_laid : Int32} {v_open : Int32} {v_s : Nat → Int32} {rr : Int32} {kk' : (Nat → Int32) × (Nat → Int32) × (Nat → Int32) × (Nat → Int32)} (fx : q_Fx p s m args meth c cX5_ring 4 RX5 (some .int) D cI cJ cZ cS tb A) {ag52 : (Nat → Int32) → (Nat → Int32) → (Nat → Int32) → (Nat → Int32) → Int32 → Int32 → Int32 → Option (Int32 × (Nat → Int32) × (Nat → Int32) × (Nat → Int32) × (Nat → Int32))} (hag52 : ∀ {v_statuses : Nat → Int32} {v_pile : Nat → Int32} {v_wish : Nat → Int32} {v_mark : Nat → Int32} {y1 : Int32} {y2 : Int32} {y3 : Int32} {H : Heap} {locs : List Loc} {ls : Array Slot}, q_H D A s (wX5_ring cI cJ cZ cS a_t a_s a_keptS a_statuses a_pile a_tape a_steps a_wish a_mark a_bitsOf a_sizeOf a_number a_moved v_isKept v_taped v_at v_fault v_laid v_open v_s v_statuses v_pile v_wish v_mark) H locs → lv_has ls 4 [(0, .ref a_t), (1, .int y1), (2, .int y2), (3, .int y3)] → ag52 v_statuses v_pile v_wish v_mark y1 y2 y3 = some (rr, kk') → W p l e rX5_ring s m args below meth c H locs 0 0 (MQ below (q_Ri D rr A ((fun k : (Nat → Int32) × (Nat → Int32) × (Nat → Int32) × (Nat → Int32) => (wX5_ring cI cJ cZ cS a_t a_s a_keptS a_statuses a_pile a_tape a_steps a_wish a_mark a_bitsOf a_sizeOf a_number a_moved v_isKept v_taped v_at v_fault v_laid v_open v_s k.1 k.2.1 k.2.2.1 k.2.2.2)) kk')) args s 0 0 A) (F0 m 52 ls [])) : ∀ {v_statuses : Nat → Int32} {v_pile : Nat → Int32} {v_wish : Nat → Int32} {v_mark : Nat → Int32} {y1 : Int32} {y2 : Int32} {y3 : Int32} {H : Heap} {locs : List Loc} {ls : Array Slot}, q_H D A s (wX5_ring cI cJ cZ cS a_t a_s a_keptS a_statuses a_pile a_tape a_steps a_wish a_mark a_bitsOf a_sizeOf a_number a_moved v_isKept v_taped v_at v_fault v_laid v_open v_s v_statuses v_pile v_wish v_mark) H locs → lv_has ls 4 [(0, .ref a_t), (1, .int y1), (2, .int y2), (3, .int y3)] → fX5_ring_52 v_s ag52 v_statuses v_pile v_wish v_mark y1 y2 y3 = some (rr, kk') → W p l e rX5_ring s m args below meth c H locs 0 0 (MQ below (q_Ri D rr A ((fun k : (Nat → Int32) × (Nat → Int32) × (Nat → Int32) × (Nat → Int32) => (wX5_ring cI cJ cZ cS a_t a_s a_keptS a_statuses a_pile a_tape a_steps a_wish a_mark a_bitsOf a_sizeOf a_number a_moved v_isKept v_taped v_at v_fault v_laid v_open v_s k.1 k.2.1 k.2.2.1 k.2.2.2)) kk')) args s 0 0 A) (F0 m 52 ls []) := by
  intro v_statuses v_pile v_wish v_mark y1 y2 y3 H locs ls h hl hf
  have hx := fx.1
  have hb := fx.2.1
  unfold fX5_ring_52 at hf
  refine lv_aload_n hx hb dX5_ring_52 rfl (lv_at hl 0 rfl) ?_
  refine q_get (v := .ref a_mark) fx inX5 h 0 rfl rfl 13 (by decide) k_649 rfl dX5_ring_53 ?_
  refine lv_iload_n hx hb dX5_ring_56 rfl (lv_at hl 2 rfl) ?_
  obtain ⟨i1, hf⟩ := gIn_inv hf
  refine q_iald fx h 5 rfl i1 dX5_ring_57 ?_
  refine lv_if_ge (tgt := 81) hx hb dX5_ring_58 (by decide) (fun c2 => ?_) (fun c2 => ?_)
  · have hf := it_t c2 hf
    refine lv_iload_n hx hb dX5_ring_81 rfl (lv_at hl 1 rfl) ?_
    refine lv_if_ne (tgt := 94) hx hb dX5_ring_82 (by decide) (fun c3 => ?_) (fun c3 => ?_)
    · have hf := it_f c3 hf
      refine lv_iload_n hx hb dX5_ring_94 rfl (lv_at hl 3 rfl) ?_
      refine lv_aload_n hx hb dX5_ring_95 rfl (lv_at hl 0 rfl) ?_
      refine q_get (v := .ref a_mark) fx inX5 h 0 rfl rfl 13 (by decide) k_649 rfl dX5_ring_96 ?_
      refine lv_iload_n hx hb dX5_ring_99 rfl (lv_at hl 2 rfl) ?_
      obtain ⟨i4, hf⟩ := gIn_inv hf
      refine q_iald fx h 5 rfl i4 dX5_ring_100 ?_
      refine lv_isub hx hb dX5_ring_101 ?_
      exact q_reti (fun k : (Nat → Int32) × (Nat → Int32) × (Nat → Int32) × (Nat → Int32) => (wX5_ring cI cJ cZ cS a_t a_s a_keptS a_statuses a_pile a_tape a_steps a_wish a_mark a_bitsOf a_sizeOf a_number a_moved v_isKept v_taped v_at v_fault v_laid v_open v_s k.1 k.2.1 k.2.2.1 k.2.2.2)) fx hf h dX5_ring_102
    have hf := it_t c3 hf
    refine lv_aload_n hx hb dX5_ring_85 rfl (lv_at hl 0 rfl) ?_
    refine q_get (v := .ref a_mark) fx inX5 h 0 rfl rfl 13 (by decide) k_649 rfl dX5_ring_86 ?_
    refine lv_iload_n hx hb dX5_ring_89 rfl (lv_at hl 2 rfl) ?_
    obtain ⟨i5, hf⟩ := gIn_inv hf
    refine q_iald fx h 5 rfl i5 dX5_ring_90 ?_
    refine lv_goto (tgt := 102) hx hb dX5_ring_91 (by decide) ?_
    exact q_reti (fun k : (Nat → Int32) × (Nat → Int32) × (Nat → Int32) × (Nat → Int32) => (wX5_ring cI cJ cZ cS a_t a_s a_keptS a_statuses a_pile a_tape a_steps a_wish a_mark a_bitsOf a_sizeOf a_number a_moved v_isKept v_taped v_at v_fault v_laid v_open v_s k.1 k.2.1 k.2.2.1 k.2.2.2)) fx hf h dX5_ring_102
  have hf := it_f c2 hf
  refine lv_aload_n hx hb dX5_ring_61 rfl (lv_at hl 0 rfl) ?_
  refine q_get (v := .ref a_mark) fx inX5 h 0 rfl rfl 13 (by decide) k_649 rfl dX5_ring_62 ?_
  refine lv_iload_n hx hb dX5_ring_65 rfl (lv_at hl 2 rfl) ?_
  refine lv_iload_n hx hb dX5_ring_66 rfl (lv_at hl 3 rfl) ?_
  obtain ⟨i6, hf⟩ := gIn_inv hf
  refine q_iast (ws' := (wX5_ring cI cJ cZ cS a_t a_s a_keptS a_statuses a_pile a_tape a_steps a_wish a_mark a_bitsOf a_sizeOf a_number a_moved v_isKept v_taped v_at v_fault v_laid v_open v_s v_statuses v_pile v_wish (upd v_mark y2.toNatClampNeg y3))) fx h 5 rfl i6 rfl dX5_ring_67 (fun H locs h => ?_)
  refine lv_aload_n hx hb dX5_ring_68 rfl (lv_at hl 0 rfl) ?_
  refine q_get (v := .ref a_wish) fx inX5 h 0 rfl rfl 12 (by decide) k_648 rfl dX5_ring_69 ?_
  refine lv_iload_n hx hb dX5_ring_72 rfl (lv_at hl 2 rfl) ?_
  obtain ⟨i7, hf⟩ := gIn_inv hf
  refine q_iald fx h 4 rfl i7 dX5_ring_73 ?_
  obtain ⟨u8, eu8, hf⟩ := nm_inv hf
  refine lv_eqi eu8 ?_
  refine lv_istore_n (lv' := [(2, .int u8), (0, .ref a_t), (1, .int y1), (3, .int y3)]) hx hb dX5_ring_74 rfl hl (by decide) rfl (fun ls hl => ?_)
  obtain ⟨u9, eu9, hf⟩ := nm_inv hf
  refine lv_iinc (v := u9) (lv' := [(3, .int u9), (2, .int u8), (0, .ref a_t), (1, .int y1)]) hx hb dX5_ring_75 hl (k := 3) rfl (by rw [eu9]; rfl) (by decide) rfl (fun ls hl => ?_)
  refine lv_goto (tgt := 52) hx hb dX5_ring_78 (by decide) ?_
  exact hag52 h (lv_sub hl [2, 3, 1, 0] rfl) hf
set_option maxRecDepth 100000 in
theorem EX5_ring_52 {p : Program} {l : Launch} {e : Env} {s : State} {m : MethodId} {args : Array Value} {below : List Frame} {meth : Method} {c : Code} {D : va_G} {cI cJ cZ cS : ClassId} {tb : Nat} {A : Nat → Prop} {a_t a_s a_keptS a_statuses a_pile a_tape a_steps a_wish a_mark a_bitsOf a_sizeOf a_number a_moved : Nat} {v_isKept : Int32} {v_taped : Int32} {v_at : Int32} {v_fault : Int32} {v_laid : Int32} {v_open : Int32} {v_s : Nat → Int32} {rr : Int32} {kk' : (Nat → Int32) × (Nat → Int32) × (Nat → Int32) × (Nat → Int32)} (fx : q_Fx p s m args meth c cX5_ring 4 RX5 (some .int) D cI cJ cZ cS tb A) : ∀ (n : Nat), ∀ {v_statuses : Nat → Int32} {v_pile : Nat → Int32} {v_wish : Nat → Int32} {v_mark : Nat → Int32} {y1 : Int32} {y2 : Int32} {y3 : Int32} {H : Heap} {locs : List Loc} {ls : Array Slot}, q_H D A s (wX5_ring cI cJ cZ cS a_t a_s a_keptS a_statuses a_pile a_tape a_steps a_wish a_mark a_bitsOf a_sizeOf a_number a_moved v_isKept v_taped v_at v_fault v_laid v_open v_s v_statuses v_pile v_wish v_mark) H locs → lv_has ls 4 [(0, .ref a_t), (1, .int y1), (2, .int y2), (3, .int y3)] → ll7 (fX5_ring_52 v_s) n v_statuses v_pile v_wish v_mark y1 y2 y3 = some (rr, kk') → W p l e rX5_ring s m args below meth c H locs 0 0 (MQ below (q_Ri D rr A ((fun k : (Nat → Int32) × (Nat → Int32) × (Nat → Int32) × (Nat → Int32) => (wX5_ring cI cJ cZ cS a_t a_s a_keptS a_statuses a_pile a_tape a_steps a_wish a_mark a_bitsOf a_sizeOf a_number a_moved v_isKept v_taped v_at v_fault v_laid v_open v_s k.1 k.2.1 k.2.2.1 k.2.2.2)) kk')) args s 0 0 A) (F0 m 52 ls []) := by
  intro n
  induction n with
  | zero => intro v_statuses v_pile v_wish v_mark y1 y2 y3 H locs ls h hl hf; exact (ll7_z hf).elim
  | succ n ih => intro v_statuses v_pile v_wish v_mark y1 y2 y3 H locs ls h hl hf; exact LX5_ring_52 fx ih h hl (ll7_s hf)
def fX5_ring_23 (v_s : Nat → Int32) (ag23 : (Nat → Int32) → (Nat → Int32) → (Nat → Int32) → (Nat → Int32) → Int32 → Int32 → Option (Int32 × (Nat → Int32) × (Nat → Int32) × (Nat → Int32) × (Nat → Int32))) (v_statuses : Nat → Int32) (v_pile : Nat → Int32) (v_wish : Nat → Int32) (v_mark : Nat → Int32) (y1 : Int32) (y2 : Int32) : Option (Int32 × (Nat → Int32) × (Nat → Int32) × (Nat → Int32) × (Nat → Int32)) :=
  (if (256 : Int32) ≤ y2 then (
  nm (v_s 1) (fun u11 =>
  ll7 (fX5_ring_52 v_s) qF v_statuses v_pile v_wish v_mark y1 u11 0))
  else (
  gIn y2 256 (
  nm (y2 + 1) (fun u13 =>
  ag23 v_statuses v_pile v_wish (upd v_mark y2.toNatClampNeg (-1)) y1 u13))))
set_option maxRecDepth 100000 in
set_option maxHeartbeats 4000000 in
theorem LX5_ring_23 {p : Program} {l : Launch} {e : Env} {s : State} {m : MethodId} {args : Array Value} {below : List Frame} {meth : Method} {c : Code} {D : va_G} {cI cJ cZ cS : ClassId} {tb : Nat} {A : Nat → Prop} {a_t a_s a_keptS a_statuses a_pile a_tape a_steps a_wish a_mark a_bitsOf a_sizeOf a_number a_moved : Nat} {v_isKept : Int32} {v_taped : Int32} {v_at : Int32} {v_fault : Int32} {v_laid : Int32} {v_open : Int32} {v_s : Nat → Int32} {rr : Int32} {kk' : (Nat → Int32) × (Nat → Int32) × (Nat → Int32) × (Nat → Int32)} (fx : q_Fx p s m args meth c cX5_ring 4 RX5 (some .int) D cI cJ cZ cS tb A) {ag23 : (Nat → Int32) → (Nat → Int32) → (Nat → Int32) → (Nat → Int32) → Int32 → Int32 → Option (Int32 × (Nat → Int32) × (Nat → Int32) × (Nat → Int32) × (Nat → Int32))} (hag23 : ∀ {v_statuses : Nat → Int32} {v_pile : Nat → Int32} {v_wish : Nat → Int32} {v_mark : Nat → Int32} {y1 : Int32} {y2 : Int32} {H : Heap} {locs : List Loc} {ls : Array Slot}, q_H D A s (wX5_ring cI cJ cZ cS a_t a_s a_keptS a_statuses a_pile a_tape a_steps a_wish a_mark a_bitsOf a_sizeOf a_number a_moved v_isKept v_taped v_at v_fault v_laid v_open v_s v_statuses v_pile v_wish v_mark) H locs → lv_has ls 4 [(0, .ref a_t), (1, .int y1), (2, .int y2)] → ag23 v_statuses v_pile v_wish v_mark y1 y2 = some (rr, kk') → W p l e rX5_ring s m args below meth c H locs 0 0 (MQ below (q_Ri D rr A ((fun k : (Nat → Int32) × (Nat → Int32) × (Nat → Int32) × (Nat → Int32) => (wX5_ring cI cJ cZ cS a_t a_s a_keptS a_statuses a_pile a_tape a_steps a_wish a_mark a_bitsOf a_sizeOf a_number a_moved v_isKept v_taped v_at v_fault v_laid v_open v_s k.1 k.2.1 k.2.2.1 k.2.2.2)) kk')) args s 0 0 A) (F0 m 23 ls [])) : ∀ {v_statuses : Nat → Int32} {v_pile : Nat → Int32} {v_wish : Nat → Int32} {v_mark : Nat → Int32} {y1 : Int32} {y2 : Int32} {H : Heap} {locs : List Loc} {ls : Array Slot}, q_H D A s (wX5_ring cI cJ cZ cS a_t a_s a_keptS a_statuses a_pile a_tape a_steps a_wish a_mark a_bitsOf a_sizeOf a_number a_moved v_isKept v_taped v_at v_fault v_laid v_open v_s v_statuses v_pile v_wish v_mark) H locs → lv_has ls 4 [(0, .ref a_t), (1, .int y1), (2, .int y2)] → fX5_ring_23 v_s ag23 v_statuses v_pile v_wish v_mark y1 y2 = some (rr, kk') → W p l e rX5_ring s m args below meth c H locs 0 0 (MQ below (q_Ri D rr A ((fun k : (Nat → Int32) × (Nat → Int32) × (Nat → Int32) × (Nat → Int32) => (wX5_ring cI cJ cZ cS a_t a_s a_keptS a_statuses a_pile a_tape a_steps a_wish a_mark a_bitsOf a_sizeOf a_number a_moved v_isKept v_taped v_at v_fault v_laid v_open v_s k.1 k.2.1 k.2.2.1 k.2.2.2)) kk')) args s 0 0 A) (F0 m 23 ls []) := by
  intro v_statuses v_pile v_wish v_mark y1 y2 H locs ls h hl hf
  have hx := fx.1
  have hb := fx.2.1
  unfold fX5_ring_23 at hf
  refine lv_iload_n hx hb dX5_ring_23 rfl (lv_at hl 2 rfl) ?_
  refine lv_sipush (v := 256) hx hb dX5_ring_24 (by decide) ?_
  refine lv_icmp_ge (tgt := 43) hx hb dX5_ring_27 (by decide) (fun c10 => ?_) (fun c10 => ?_)
  · have hf := it_t c10 hf
    refine lv_aload_n hx hb dX5_ring_43 rfl (lv_at hl 0 rfl) ?_
    refine q_get (v := .ref a_s) fx inX5 h 0 rfl rfl 0 (by decide) k_636 rfl dX5_ring_44 ?_
    refine lv_iconst (v := 1) hx hb dX5_ring_47 (by decide) ?_
    refine q_ialdK fx h 1 rfl 1 (vinK (by decide)) (by decide) dX5_ring_48 ?_
    obtain ⟨u11, eu11, hf⟩ := nm_inv hf
    refine lv_eqi eu11 ?_
    refine lv_istore_n (lv' := [(2, .int u11), (0, .ref a_t), (1, .int y1)]) hx hb dX5_ring_49 rfl hl (by decide) rfl (fun ls hl => ?_)
    refine lv_iconst (v := 0) hx hb dX5_ring_50 (by decide) ?_
    refine lv_istore_n (lv' := [(3, .int 0), (2, .int u11), (0, .ref a_t), (1, .int y1)]) hx hb dX5_ring_51 rfl hl (by decide) rfl (fun ls hl => ?_)
    exact EX5_ring_52 fx qF h (lv_sub hl [2, 3, 1, 0] rfl) hf
  have hf := it_f c10 hf
  refine lv_aload_n hx hb dX5_ring_30 rfl (lv_at hl 0 rfl) ?_
  refine q_get (v := .ref a_mark) fx inX5 h 0 rfl rfl 13 (by decide) k_649 rfl dX5_ring_31 ?_
  refine lv_iload_n hx hb dX5_ring_34 rfl (lv_at hl 2 rfl) ?_
  refine lv_iconst (v := -1) hx hb dX5_ring_35 (by decide) ?_
  obtain ⟨i12, hf⟩ := gIn_inv hf
  refine q_iast (ws' := (wX5_ring cI cJ cZ cS a_t a_s a_keptS a_statuses a_pile a_tape a_steps a_wish a_mark a_bitsOf a_sizeOf a_number a_moved v_isKept v_taped v_at v_fault v_laid v_open v_s v_statuses v_pile v_wish (upd v_mark y2.toNatClampNeg (-1)))) fx h 5 rfl i12 rfl dX5_ring_36 (fun H locs h => ?_)
  obtain ⟨u13, eu13, hf⟩ := nm_inv hf
  refine lv_iinc (v := u13) (lv' := [(2, .int u13), (0, .ref a_t), (1, .int y1)]) hx hb dX5_ring_37 hl (k := 2) rfl (by rw [eu13]; rfl) (by decide) rfl (fun ls hl => ?_)
  refine lv_goto (tgt := 23) hx hb dX5_ring_40 (by decide) ?_
  exact hag23 h (lv_sub hl [1, 2, 0] rfl) hf
set_option maxRecDepth 100000 in
theorem EX5_ring_23 {p : Program} {l : Launch} {e : Env} {s : State} {m : MethodId} {args : Array Value} {below : List Frame} {meth : Method} {c : Code} {D : va_G} {cI cJ cZ cS : ClassId} {tb : Nat} {A : Nat → Prop} {a_t a_s a_keptS a_statuses a_pile a_tape a_steps a_wish a_mark a_bitsOf a_sizeOf a_number a_moved : Nat} {v_isKept : Int32} {v_taped : Int32} {v_at : Int32} {v_fault : Int32} {v_laid : Int32} {v_open : Int32} {v_s : Nat → Int32} {rr : Int32} {kk' : (Nat → Int32) × (Nat → Int32) × (Nat → Int32) × (Nat → Int32)} (fx : q_Fx p s m args meth c cX5_ring 4 RX5 (some .int) D cI cJ cZ cS tb A) : ∀ (n : Nat), ∀ {v_statuses : Nat → Int32} {v_pile : Nat → Int32} {v_wish : Nat → Int32} {v_mark : Nat → Int32} {y1 : Int32} {y2 : Int32} {H : Heap} {locs : List Loc} {ls : Array Slot}, q_H D A s (wX5_ring cI cJ cZ cS a_t a_s a_keptS a_statuses a_pile a_tape a_steps a_wish a_mark a_bitsOf a_sizeOf a_number a_moved v_isKept v_taped v_at v_fault v_laid v_open v_s v_statuses v_pile v_wish v_mark) H locs → lv_has ls 4 [(0, .ref a_t), (1, .int y1), (2, .int y2)] → ll6 (fX5_ring_23 v_s) n v_statuses v_pile v_wish v_mark y1 y2 = some (rr, kk') → W p l e rX5_ring s m args below meth c H locs 0 0 (MQ below (q_Ri D rr A ((fun k : (Nat → Int32) × (Nat → Int32) × (Nat → Int32) × (Nat → Int32) => (wX5_ring cI cJ cZ cS a_t a_s a_keptS a_statuses a_pile a_tape a_steps a_wish a_mark a_bitsOf a_sizeOf a_number a_moved v_isKept v_taped v_at v_fault v_laid v_open v_s k.1 k.2.1 k.2.2.1 k.2.2.2)) kk')) args s 0 0 A) (F0 m 23 ls []) := by
  intro n
  induction n with
  | zero => intro v_statuses v_pile v_wish v_mark y1 y2 H locs ls h hl hf; exact (ll6_z hf).elim
  | succ n ih => intro v_statuses v_pile v_wish v_mark y1 y2 H locs ls h hl hf; exact LX5_ring_23 fx ih h hl (ll6_s hf)
def fX5_ring (v_s : Nat → Int32) (v_statuses : Nat → Int32) (v_pile : Nat → Int32) (v_wish : Nat → Int32) (v_mark : Nat → Int32) (x1 : Int32) : Option (Int32 × (Nat → Int32) × (Nat → Int32) × (Nat → Int32) × (Nat → Int32)) :=
  bR (fX5_in (x1.toInt64) 0 1) (fun r14 k14 =>
  (if r14 = 0 then (
  bR (fX5_finds v_statuses (-1000000001)) (fun r17 k17 =>
  some (r17, (k17, v_pile, v_wish, v_mark))))
  else (
  bV (fX5_looksAll v_s v_pile v_wish) (fun k16 =>
  ll6 (fX5_ring_23 v_s) qF v_statuses k16.1 k16.2 v_mark x1 0))))
set_option maxRecDepth 100000 in
set_option maxHeartbeats 4000000 in
theorem tX5_ring (l : Launch) (D : va_G) (cI cJ cZ cS : ClassId) (tb : Nat) (a_t a_s a_keptS a_statuses a_pile a_tape a_steps a_wish a_mark a_bitsOf a_sizeOf a_number a_moved : Nat) (sz : Nat) (v_isKept : Int32) (v_taped : Int32) (v_at : Int32) (v_fault : Int32) (v_laid : Int32) (v_open : Int32) (v_s : Nat → Int32) (v_statuses : Nat → Int32) (v_pile : Nat → Int32) (v_wish : Nat → Int32) (v_mark : Nat → Int32) (x1 : Int32) (rr : Int32) (kk' : (Nat → Int32) × (Nat → Int32) × (Nat → Int32) × (Nat → Int32)) (hf : fX5_ring v_s v_statuses v_pile v_wish v_mark x1 = some (rr, kk')) : Met l yX5_ring (Cond.code yX5_ring cX5_ring 4 (some .int) :: wA) rX5_ring (q_Pre D cI cJ cZ cS tb [.ref a_t, .int x1] sz (wX5_ring cI cJ cZ cS a_t a_s a_keptS a_statuses a_pile a_tape a_steps a_wish a_mark a_bitsOf a_sizeOf a_number a_moved v_isKept v_taped v_at v_fault v_laid v_open v_s v_statuses v_pile v_wish v_mark)) (q_Ri D rr (va_A (wX5_ring cI cJ cZ cS a_t a_s a_keptS a_statuses a_pile a_tape a_steps a_wish a_mark a_bitsOf a_sizeOf a_number a_moved v_isKept v_taped v_at v_fault v_laid v_open v_s v_statuses v_pile v_wish v_mark) sz) ((fun k : (Nat → Int32) × (Nat → Int32) × (Nat → Int32) × (Nat → Int32) => (wX5_ring cI cJ cZ cS a_t a_s a_keptS a_statuses a_pile a_tape a_steps a_wish a_mark a_bitsOf a_sizeOf a_number a_moved v_isKept v_taped v_at v_fault v_laid v_open v_s k.1 k.2.1 k.2.2.1 k.2.2.2)) kk')) 0 0 (va_A (wX5_ring cI cJ cZ cS a_t a_s a_keptS a_statuses a_pile a_tape a_steps a_wish a_mark a_bitsOf a_sizeOf a_number a_moved v_isKept v_taped v_at v_fault v_laid v_open v_s v_statuses v_pile v_wish v_mark) sz) := by
  refine q_enter (Qf := fun A => (q_Ri D rr A ((fun k : (Nat → Int32) × (Nat → Int32) × (Nat → Int32) × (Nat → Int32) => (wX5_ring cI cJ cZ cS a_t a_s a_keptS a_statuses a_pile a_tape a_steps a_wish a_mark a_bitsOf a_sizeOf a_number a_moved v_isKept v_taped v_at v_fault v_laid v_open v_s k.1 k.2.1 k.2.2.1 k.2.2.2)) kk'))) (by decide) rfl (Nat.le_of_ble_eq_true rfl) ?_
  intro p e s m below meth c A ls fx hname h hl
  have hx := fx.1
  have hb := fx.2.1
  have hl : lv_has ls 4 [(0, .ref a_t), (1, .int x1)] := hl
  generalize h9 : s.heap = H at h ⊢
  clear h9
  generalize h9 : ([] : List Loc) = locs at h ⊢
  clear h9
  unfold fX5_ring at hf
  refine lv_iload_n hx hb dX5_ring_0 rfl (lv_at hl 1 rfl) ?_
  refine lv_i2l hx hb dX5_ring_1 rfl ?_
  refine lv_lconst (v := 0) hx hb dX5_ring_2 (by decide) ?_
  refine lv_lconst (v := 1) hx hb dX5_ring_3 (by decide) ?_
  obtain ⟨r14, k14, hg, hf⟩ := bR_inv hf
  refine q_ci (rest := []) (ws' := (wX5_ring cI cJ cZ cS a_t a_s a_keptS a_statuses a_pile a_tape a_steps a_wish a_mark a_bitsOf a_sizeOf a_number a_moved v_isKept v_taped v_at v_fault v_laid v_open v_s v_statuses v_pile v_wish v_mark)) (w1 := (wX5_in cI cJ cZ cS)) fx h [] rfl rfl rfl rfl (q_runS fx h hl.1 [] rfl rfl (tX5_in l D cI cJ cZ cS tb H.size (x1.toInt64) 0 1 r14 k14 hg) msX5_in k_697 ⟨rfl, rfl⟩ ⟨Nat.le_of_ble_eq_true rfl, Nat.le_of_ble_eq_true rfl⟩ rfl rfl (Nat.le_of_ble_eq_true rfl) dX5_ring_4 ⟨Nat.le_of_ble_eq_true rfl, Nat.le_of_ble_eq_true rfl⟩) (fun H locs h => ?_)
  refine lv_if_ne (tgt := 17) hx hb dX5_ring_7 (by decide) (fun c15 => ?_) (fun c15 => ?_)
  · have hf := it_f c15 hf
    refine lv_aload_n hx hb dX5_ring_17 rfl (lv_at hl 0 rfl) ?_
    obtain ⟨k16, hg, hf⟩ := bV_inv hf
    refine q_cv (rest := []) (ws' := (wX5_ring cI cJ cZ cS a_t a_s a_keptS a_statuses a_pile a_tape a_steps a_wish a_mark a_bitsOf a_sizeOf a_number a_moved v_isKept v_taped v_at v_fault v_laid v_open v_s v_statuses k16.1 k16.2 v_mark)) (w1 := (wX5_looksAll cI cJ cZ cS a_t a_s a_keptS a_statuses a_pile a_tape a_steps a_wish a_mark a_bitsOf a_sizeOf a_number a_moved v_isKept v_taped v_at v_fault v_laid v_open v_s k16.1 k16.2)) fx h [0, 1, 3, 4] rfl rfl rfl rfl (q_runV fx h hl.1 [0, 1, 3, 4] rfl rfl (tX5_looksAll l D cI cJ cZ cS tb a_t a_s a_keptS a_statuses a_pile a_tape a_steps a_wish a_mark a_bitsOf a_sizeOf a_number a_moved H.size v_isKept v_taped v_at v_fault v_laid v_open v_s v_pile v_wish k16 hg) mvX5_looksAll k_860 ⟨rfl, rfl⟩ ⟨Nat.le_of_ble_eq_true rfl, Nat.le_of_ble_eq_true rfl⟩ rfl rfl rfl rfl (Nat.le_of_ble_eq_true rfl) dX5_ring_18 ⟨Nat.le_of_ble_eq_true rfl, Nat.le_of_ble_eq_true rfl⟩) (fun H locs h => ?_)
    refine lv_iconst (v := 0) hx hb dX5_ring_21 (by decide) ?_
    refine lv_istore_n (lv' := [(2, .int 0), (0, .ref a_t), (1, .int x1)]) hx hb dX5_ring_22 rfl hl (by decide) rfl (fun ls hl => ?_)
    exact EX5_ring_23 fx qF h (lv_sub hl [1, 2, 0] rfl) hf
  have hf := it_t c15 hf
  refine lv_aload_n hx hb dX5_ring_10 rfl (lv_at hl 0 rfl) ?_
  refine q_ldc fx k_701 dX5_ring_11 ?_
  obtain ⟨r17, k17, hg, hf⟩ := bR_inv hf
  refine q_ci (rest := []) (ws' := (wX5_ring cI cJ cZ cS a_t a_s a_keptS a_statuses a_pile a_tape a_steps a_wish a_mark a_bitsOf a_sizeOf a_number a_moved v_isKept v_taped v_at v_fault v_laid v_open v_s k17 v_pile v_wish v_mark)) (w1 := (wX5_finds cI cJ cZ cS a_t a_s a_keptS a_statuses a_pile a_tape a_steps a_wish a_mark a_bitsOf a_sizeOf a_number a_moved v_isKept v_taped v_at v_fault v_laid v_open k17)) fx h [0, 2] rfl rfl rfl rfl (q_runV fx h hl.1 [0, 2] rfl rfl (tX5_finds l D cI cJ cZ cS tb a_t a_s a_keptS a_statuses a_pile a_tape a_steps a_wish a_mark a_bitsOf a_sizeOf a_number a_moved H.size v_isKept v_taped v_at v_fault v_laid v_open v_statuses (-1000000001) r17 k17 hg) mvX5_finds k_702 ⟨rfl, rfl⟩ ⟨Nat.le_of_ble_eq_true rfl, Nat.le_of_ble_eq_true rfl⟩ rfl rfl rfl rfl (Nat.le_of_ble_eq_true rfl) dX5_ring_13 ⟨Nat.le_of_ble_eq_true rfl, Nat.le_of_ble_eq_true rfl⟩) (fun H locs h => ?_)
  exact q_reti (fun k : (Nat → Int32) × (Nat → Int32) × (Nat → Int32) × (Nat → Int32) => (wX5_ring cI cJ cZ cS a_t a_s a_keptS a_statuses a_pile a_tape a_steps a_wish a_mark a_bitsOf a_sizeOf a_number a_moved v_isKept v_taped v_at v_fault v_laid v_open v_s k.1 k.2.1 k.2.2.1 k.2.2.2)) fx hf h dX5_ring_16
/-! X5_looksFar -/
abbrev wX5_looksFar (cI cJ cZ cS : ClassId) (a_t a_s a_keptS a_statuses a_pile a_tape a_steps a_wish a_mark a_bitsOf a_sizeOf a_number a_moved : Nat) (v_isKept : Int32) (v_taped : Int32) (v_at : Int32) (v_fault : Int32) (v_laid : Int32) (v_open : Int32) (v_s : Nat → Int32) (v_pile : Nat → Int32) (v_mark : Nat → Int32) : va_W := [(a_t, .inr (5, [.ref a_s, .ref a_keptS, .ref a_statuses, .int v_isKept, .ref a_pile, .ref a_tape, .ref a_steps, .int v_taped, .int v_at, .int v_fault, .int v_laid, .int v_open, .ref a_wish, .ref a_mark, .ref a_bitsOf, .ref a_sizeOf, .ref a_number, .ref a_moved])), (a_s, .inl (cI, 538, .inl v_s)), (a_pile, .inl (cZ, 64, .inl v_pile)), (a_mark, .inl (cI, 256, .inl v_mark))]
abbrev rX5_looksFar : Room := { frames := 5, cells := 0, slots := 0, locals := 116 }
def fX5_looksFar_112 (v_s : Nat → Int32) (ag40 : (Nat → Int32) → (Nat → Int32) → Int32 → Int32 → Option ((Nat → Int32) × (Nat → Int32))) (ag48 : (Nat → Int32) → (Nat → Int32) → Int32 → Int32 → Int32 → Option ((Nat → Int32) × (Nat → Int32))) (v_pile : Nat → Int32) (v_mark : Nat → Int32) (y1 : Int32) (y2 : Int32) (y3 : Int32) : Option ((Nat → Int32) × (Nat → Int32)) :=
  nm (y3 + 1) (fun u1 =>
  ag48 v_pile v_mark y1 y2 u1)
set_option maxRecDepth 100000 in
set_option maxHeartbeats 4000000 in
theorem LX5_looksFar_112 {p : Program} {l : Launch} {e : Env} {s : State} {m : MethodId} {args : Array Value} {below : List Frame} {meth : Method} {c : Code} {D : va_G} {cI cJ cZ cS : ClassId} {tb : Nat} {A : Nat → Prop} {a_t a_s a_keptS a_statuses a_pile a_tape a_steps a_wish a_mark a_bitsOf a_sizeOf a_number a_moved : Nat} {v_isKept : Int32} {v_taped : Int32} {v_at : Int32} {v_fault : Int32} {v_laid : Int32} {v_open : Int32} {v_s : Nat → Int32} {kk' : (Nat → Int32) × (Nat → Int32)} (fx : q_Fx p s m args meth c cX5_looksFar 5 RX5 none D cI cJ cZ cS tb A) {ag40 : (Nat → Int32) → (Nat → Int32) → Int32 → Int32 → Option ((Nat → Int32) × (Nat → Int32))} (hag40 : ∀ {v_pile : Nat → Int32} {v_mark : Nat → Int32} {y1 : Int32} {y2 : Int32} {H : Heap} {locs : List Loc} {ls : Array Slot}, q_H D A s (wX5_looksFar cI cJ cZ cS a_t a_s a_keptS a_statuses a_pile a_tape a_steps a_wish a_mark a_bitsOf a_sizeOf a_number a_moved v_isKept v_taped v_at v_fault v_laid v_open v_s v_pile v_mark) H locs → lv_has ls 5 [(0, .ref a_t), (1, .int y1), (2, .int y2)] → ag40 v_pile v_mark y1 y2 = some kk' → W p l e rX5_looksFar s m args below meth c H locs 0 0 (MQ below (q_Rv D A ((fun k : (Nat → Int32) × (Nat → Int32) => (wX5_looksFar cI cJ cZ cS a_t a_s a_keptS a_statuses a_pile a_tape a_steps a_wish a_mark a_bitsOf a_sizeOf a_number a_moved v_isKept v_taped v_at v_fault v_laid v_open v_s k.1 k.2)) kk')) args s 0 0 A) (F0 m 40 ls [])) {ag48 : (Nat → Int32) → (Nat → Int32) → Int32 → Int32 → Int32 → Option ((Nat → Int32) × (Nat → Int32))} (hag48 : ∀ {v_pile : Nat → Int32} {v_mark : Nat → Int32} {y1 : Int32} {y2 : Int32} {y3 : Int32} {H : Heap} {locs : List Loc} {ls : Array Slot}, q_H D A s (wX5_looksFar cI cJ cZ cS a_t a_s a_keptS a_statuses a_pile a_tape a_steps a_wish a_mark a_bitsOf a_sizeOf a_number a_moved v_isKept v_taped v_at v_fault v_laid v_open v_s v_pile v_mark) H locs → lv_has ls 5 [(0, .ref a_t), (1, .int y1), (2, .int y2), (3, .int y3)] → ag48 v_pile v_mark y1 y2 y3 = some kk' → W p l e rX5_looksFar s m args below meth c H locs 0 0 (MQ below (q_Rv D A ((fun k : (Nat → Int32) × (Nat → Int32) => (wX5_looksFar cI cJ cZ cS a_t a_s a_keptS a_statuses a_pile a_tape a_steps a_wish a_mark a_bitsOf a_sizeOf a_number a_moved v_isKept v_taped v_at v_fault v_laid v_open v_s k.1 k.2)) kk')) args s 0 0 A) (F0 m 48 ls [])) : ∀ {v_pile : Nat → Int32} {v_mark : Nat → Int32} {y1 : Int32} {y2 : Int32} {y3 : Int32} {H : Heap} {locs : List Loc} {ls : Array Slot}, q_H D A s (wX5_looksFar cI cJ cZ cS a_t a_s a_keptS a_statuses a_pile a_tape a_steps a_wish a_mark a_bitsOf a_sizeOf a_number a_moved v_isKept v_taped v_at v_fault v_laid v_open v_s v_pile v_mark) H locs → lv_has ls 5 [(0, .ref a_t), (1, .int y1), (2, .int y2), (3, .int y3)] → fX5_looksFar_112 v_s ag40 ag48 v_pile v_mark y1 y2 y3 = some kk' → W p l e rX5_looksFar s m args below meth c H locs 0 0 (MQ below (q_Rv D A ((fun k : (Nat → Int32) × (Nat → Int32) => (wX5_looksFar cI cJ cZ cS a_t a_s a_keptS a_statuses a_pile a_tape a_steps a_wish a_mark a_bitsOf a_sizeOf a_number a_moved v_isKept v_taped v_at v_fault v_laid v_open v_s k.1 k.2)) kk')) args s 0 0 A) (F0 m 112 ls []) := by
  intro v_pile v_mark y1 y2 y3 H locs ls h hl hf
  have hx := fx.1
  have hb := fx.2.1
  unfold fX5_looksFar_112 at hf
  obtain ⟨u1, eu1, hf⟩ := nm_inv hf
  refine lv_iinc (v := u1) (lv' := [(3, .int u1), (0, .ref a_t), (1, .int y1), (2, .int y2)]) hx hb dX5_looksFar_112 hl (k := 3) rfl (by rw [eu1]; rfl) (by decide) rfl (fun ls hl => ?_)
  refine lv_goto (tgt := 48) hx hb dX5_looksFar_115 (by decide) ?_
  exact hag48 h (lv_sub hl [1, 2, 3, 0] rfl) hf
def fX5_looksFar_106 (v_s : Nat → Int32) (ag40 : (Nat → Int32) → (Nat → Int32) → Int32 → Int32 → Option ((Nat → Int32) × (Nat → Int32))) (ag48 : (Nat → Int32) → (Nat → Int32) → Int32 → Int32 → Int32 → Option ((Nat → Int32) × (Nat → Int32))) (ag59 : (Nat → Int32) → (Nat → Int32) → Int32 → Int32 → Int32 → Int32 → Option ((Nat → Int32) × (Nat → Int32))) (v_pile : Nat → Int32) (v_mark : Nat → Int32) (y1 : Int32) (y2 : Int32) (y3 : Int32) (y4 : Int32) : Option ((Nat → Int32) × (Nat → Int32)) :=
  nm (y4 + 1) (fun u2 =>
  ag59 v_pile v_mark y1 y2 y3 u2)
set_option maxRecDepth 100000 in
set_option maxHeartbeats 4000000 in
theorem LX5_looksFar_106 {p : Program} {l : Launch} {e : Env} {s : State} {m : MethodId} {args : Array Value} {below : List Frame} {meth : Method} {c : Code} {D : va_G} {cI cJ cZ cS : ClassId} {tb : Nat} {A : Nat → Prop} {a_t a_s a_keptS a_statuses a_pile a_tape a_steps a_wish a_mark a_bitsOf a_sizeOf a_number a_moved : Nat} {v_isKept : Int32} {v_taped : Int32} {v_at : Int32} {v_fault : Int32} {v_laid : Int32} {v_open : Int32} {v_s : Nat → Int32} {kk' : (Nat → Int32) × (Nat → Int32)} (fx : q_Fx p s m args meth c cX5_looksFar 5 RX5 none D cI cJ cZ cS tb A) {ag40 : (Nat → Int32) → (Nat → Int32) → Int32 → Int32 → Option ((Nat → Int32) × (Nat → Int32))} (hag40 : ∀ {v_pile : Nat → Int32} {v_mark : Nat → Int32} {y1 : Int32} {y2 : Int32} {H : Heap} {locs : List Loc} {ls : Array Slot}, q_H D A s (wX5_looksFar cI cJ cZ cS a_t a_s a_keptS a_statuses a_pile a_tape a_steps a_wish a_mark a_bitsOf a_sizeOf a_number a_moved v_isKept v_taped v_at v_fault v_laid v_open v_s v_pile v_mark) H locs → lv_has ls 5 [(0, .ref a_t), (1, .int y1), (2, .int y2)] → ag40 v_pile v_mark y1 y2 = some kk' → W p l e rX5_looksFar s m args below meth c H locs 0 0 (MQ below (q_Rv D A ((fun k : (Nat → Int32) × (Nat → Int32) => (wX5_looksFar cI cJ cZ cS a_t a_s a_keptS a_statuses a_pile a_tape a_steps a_wish a_mark a_bitsOf a_sizeOf a_number a_moved v_isKept v_taped v_at v_fault v_laid v_open v_s k.1 k.2)) kk')) args s 0 0 A) (F0 m 40 ls [])) {ag48 : (Nat → Int32) → (Nat → Int32) → Int32 → Int32 → Int32 → Option ((Nat → Int32) × (Nat → Int32))} (hag48 : ∀ {v_pile : Nat → Int32} {v_mark : Nat → Int32} {y1 : Int32} {y2 : Int32} {y3 : Int32} {H : Heap} {locs : List Loc} {ls : Array Slot}, q_H D A s (wX5_looksFar cI cJ cZ cS a_t a_s a_keptS a_statuses a_pile a_tape a_steps a_wish a_mark a_bitsOf a_sizeOf a_number a_moved v_isKept v_taped v_at v_fault v_laid v_open v_s v_pile v_mark) H locs → lv_has ls 5 [(0, .ref a_t), (1, .int y1), (2, .int y2), (3, .int y3)] → ag48 v_pile v_mark y1 y2 y3 = some kk' → W p l e rX5_looksFar s m args below meth c H locs 0 0 (MQ below (q_Rv D A ((fun k : (Nat → Int32) × (Nat → Int32) => (wX5_looksFar cI cJ cZ cS a_t a_s a_keptS a_statuses a_pile a_tape a_steps a_wish a_mark a_bitsOf a_sizeOf a_number a_moved v_isKept v_taped v_at v_fault v_laid v_open v_s k.1 k.2)) kk')) args s 0 0 A) (F0 m 48 ls [])) {ag59 : (Nat → Int32) → (Nat → Int32) → Int32 → Int32 → Int32 → Int32 → Option ((Nat → Int32) × (Nat → Int32))} (hag59 : ∀ {v_pile : Nat → Int32} {v_mark : Nat → Int32} {y1 : Int32} {y2 : Int32} {y3 : Int32} {y4 : Int32} {H : Heap} {locs : List Loc} {ls : Array Slot}, q_H D A s (wX5_looksFar cI cJ cZ cS a_t a_s a_keptS a_statuses a_pile a_tape a_steps a_wish a_mark a_bitsOf a_sizeOf a_number a_moved v_isKept v_taped v_at v_fault v_laid v_open v_s v_pile v_mark) H locs → lv_has ls 5 [(0, .ref a_t), (1, .int y1), (2, .int y2), (3, .int y3), (4, .int y4)] → ag59 v_pile v_mark y1 y2 y3 y4 = some kk' → W p l e rX5_looksFar s m args below meth c H locs 0 0 (MQ below (q_Rv D A ((fun k : (Nat → Int32) × (Nat → Int32) => (wX5_looksFar cI cJ cZ cS a_t a_s a_keptS a_statuses a_pile a_tape a_steps a_wish a_mark a_bitsOf a_sizeOf a_number a_moved v_isKept v_taped v_at v_fault v_laid v_open v_s k.1 k.2)) kk')) args s 0 0 A) (F0 m 59 ls [])) : ∀ {v_pile : Nat → Int32} {v_mark : Nat → Int32} {y1 : Int32} {y2 : Int32} {y3 : Int32} {y4 : Int32} {H : Heap} {locs : List Loc} {ls : Array Slot}, q_H D A s (wX5_looksFar cI cJ cZ cS a_t a_s a_keptS a_statuses a_pile a_tape a_steps a_wish a_mark a_bitsOf a_sizeOf a_number a_moved v_isKept v_taped v_at v_fault v_laid v_open v_s v_pile v_mark) H locs → lv_has ls 5 [(0, .ref a_t), (1, .int y1), (2, .int y2), (3, .int y3), (4, .int y4)] → fX5_looksFar_106 v_s ag40 ag48 ag59 v_pile v_mark y1 y2 y3 y4 = some kk' → W p l e rX5_looksFar s m args below meth c H locs 0 0 (MQ below (q_Rv D A ((fun k : (Nat → Int32) × (Nat → Int32) => (wX5_looksFar cI cJ cZ cS a_t a_s a_keptS a_statuses a_pile a_tape a_steps a_wish a_mark a_bitsOf a_sizeOf a_number a_moved v_isKept v_taped v_at v_fault v_laid v_open v_s k.1 k.2)) kk')) args s 0 0 A) (F0 m 106 ls []) := by
  intro v_pile v_mark y1 y2 y3 y4 H locs ls h hl hf
  have hx := fx.1
  have hb := fx.2.1
  unfold fX5_looksFar_106 at hf
  obtain ⟨u2, eu2, hf⟩ := nm_inv hf
  refine lv_iinc (v := u2) (lv' := [(4, .int u2), (0, .ref a_t), (1, .int y1), (2, .int y2), (3, .int y3)]) hx hb dX5_looksFar_106 hl (k := 4) rfl (by rw [eu2]; rfl) (by decide) rfl (fun ls hl => ?_)
  refine lv_goto (tgt := 59) hx hb dX5_looksFar_109 (by decide) ?_
  exact hag59 h (lv_sub hl [1, 2, 3, 4, 0] rfl) hf
def fX5_looksFar_59 (v_s : Nat → Int32) (ag40 : (Nat → Int32) → (Nat → Int32) → Int32 → Int32 → Option ((Nat → Int32) × (Nat → Int32))) (ag48 : (Nat → Int32) → (Nat → Int32) → Int32 → Int32 → Int32 → Option ((Nat → Int32) × (Nat → Int32))) (ag59 : (Nat → Int32) → (Nat → Int32) → Int32 → Int32 → Int32 → Int32 → Option ((Nat → Int32) × (Nat → Int32))) (v_pile : Nat → Int32) (v_mark : Nat → Int32) (y1 : Int32) (y2 : Int32) (y3 : Int32) (y4 : Int32) : Option ((Nat → Int32) × (Nat → Int32)) :=
  (if (v_s 0) ≤ y4 then (
  fX5_looksFar_112 v_s ag40 ag48 v_pile v_mark y1 y2 y3)
  else (
  gIn y3 256 (
  (if (0 : Int32) ≤ (v_mark y3.toNatClampNeg) then (
  fX5_looksFar_112 v_s ag40 ag48 v_pile v_mark y1 y2 y3)
  else (
  bR (fX5_called v_s v_pile y3 y4) (fun r6 k6 =>
  gIn r6 256 (
  (if (v_mark r6.toNatClampNeg) = (y2 - 1) then (
  gIn y3 256 (
  fX5_looksFar_106 v_s ag40 ag48 ag59 k6 (upd v_mark y3.toNatClampNeg y2) 1 y2 y3 y4))
  else (
  fX5_looksFar_106 v_s ag40 ag48 ag59 k6 v_mark y1 y2 y3 y4)))))))))
set_option maxRecDepth 100000 in
set_option maxHeartbeats 4000000 in
theorem LX5_looksFar_59 {p : Program} {l : Launch} {e : Env} {s : State} {m : MethodId} {args : Array Value} {below : List Frame} {meth : Method} {c : Code} {D : va_G} {cI cJ cZ cS : ClassId} {tb : Nat} {A : Nat → Prop} {a_t a_s a_keptS a_statuses a_pile a_tape a_steps a_wish a_mark a_bitsOf a_sizeOf a_number a_moved : Nat} {v_isKept : Int32} {v_taped : Int32} {v_at : Int32} {v_fault : Int32} {v_laid : Int32} {v_open : Int32} {v_s : Nat → Int32} {kk' : (Nat → Int32) × (Nat → Int32)} (fx : q_Fx p s m args meth c cX5_looksFar 5 RX5 none D cI cJ cZ cS tb A) {ag40 : (Nat → Int32) → (Nat → Int32) → Int32 → Int32 → Option ((Nat → Int32) × (Nat → Int32))} (hag40 : ∀ {v_pile : Nat → Int32} {v_mark : Nat → Int32} {y1 : Int32} {y2 : Int32} {H : Heap} {locs : List Loc} {ls : Array Slot}, q_H D A s (wX5_looksFar cI cJ cZ cS a_t a_s a_keptS a_statuses a_pile a_tape a_steps a_wish a_mark a_bitsOf a_sizeOf a_number a_moved v_isKept v_taped v_at v_fault v_laid v_open v_s v_pile v_mark) H locs → lv_has ls 5 [(0, .ref a_t), (1, .int y1), (2, .int y2)] → ag40 v_pile v_mark y1 y2 = some kk' → W p l e rX5_looksFar s m args below meth c H locs 0 0 (MQ below (q_Rv D A ((fun k : (Nat → Int32) × (Nat → Int32) => (wX5_looksFar cI cJ cZ cS a_t a_s a_keptS a_statuses a_pile a_tape a_steps a_wish a_mark a_bitsOf a_sizeOf a_number a_moved v_isKept v_taped v_at v_fault v_laid v_open v_s k.1 k.2)) kk')) args s 0 0 A) (F0 m 40 ls [])) {ag48 : (Nat → Int32) → (Nat → Int32) → Int32 → Int32 → Int32 → Option ((Nat → Int32) × (Nat → Int32))} (hag48 : ∀ {v_pile : Nat → Int32} {v_mark : Nat → Int32} {y1 : Int32} {y2 : Int32} {y3 : Int32} {H : Heap} {locs : List Loc} {ls : Array Slot}, q_H D A s (wX5_looksFar cI cJ cZ cS a_t a_s a_keptS a_statuses a_pile a_tape a_steps a_wish a_mark a_bitsOf a_sizeOf a_number a_moved v_isKept v_taped v_at v_fault v_laid v_open v_s v_pile v_mark) H locs → lv_has ls 5 [(0, .ref a_t), (1, .int y1), (2, .int y2), (3, .int y3)] → ag48 v_pile v_mark y1 y2 y3 = some kk' → W p l e rX5_looksFar s m args below meth c H locs 0 0 (MQ below (q_Rv D A ((fun k : (Nat → Int32) × (Nat → Int32) => (wX5_looksFar cI cJ cZ cS a_t a_s a_keptS a_statuses a_pile a_tape a_steps a_wish a_mark a_bitsOf a_sizeOf a_number a_moved v_isKept v_taped v_at v_fault v_laid v_open v_s k.1 k.2)) kk')) args s 0 0 A) (F0 m 48 ls [])) {ag59 : (Nat → Int32) → (Nat → Int32) → Int32 → Int32 → Int32 → Int32 → Option ((Nat → Int32) × (Nat → Int32))} (hag59 : ∀ {v_pile : Nat → Int32} {v_mark : Nat → Int32} {y1 : Int32} {y2 : Int32} {y3 : Int32} {y4 : Int32} {H : Heap} {locs : List Loc} {ls : Array Slot}, q_H D A s (wX5_looksFar cI cJ cZ cS a_t a_s a_keptS a_statuses a_pile a_tape a_steps a_wish a_mark a_bitsOf a_sizeOf a_number a_moved v_isKept v_taped v_at v_fault v_laid v_open v_s v_pile v_mark) H locs → lv_has ls 5 [(0, .ref a_t), (1, .int y1), (2, .int y2), (3, .int y3), (4, .int y4)] → ag59 v_pile v_mark y1 y2 y3 y4 = some kk' → W p l e rX5_looksFar s m args below meth c H locs 0 0 (MQ below (q_Rv D A ((fun k : (Nat → Int32) × (Nat → Int32) => (wX5_looksFar cI cJ cZ cS a_t a_s a_keptS a_statuses a_pile a_tape a_steps a_wish a_mark a_bitsOf a_sizeOf a_number a_moved v_isKept v_taped v_at v_fault v_laid v_open v_s k.1 k.2)) kk')) args s 0 0 A) (F0 m 59 ls [])) : ∀ {v_pile : Nat → Int32} {v_mark : Nat → Int32} {y1 : Int32} {y2 : Int32} {y3 : Int32} {y4 : Int32} {H : Heap} {locs : List Loc} {ls : Array Slot}, q_H D A s (wX5_looksFar cI cJ cZ cS a_t a_s a_keptS a_statuses a_pile a_tape a_steps a_wish a_mark a_bitsOf a_sizeOf a_number a_moved v_isKept v_taped v_at v_fault v_laid v_open v_s v_pile v_mark) H locs → lv_has ls 5 [(0, .ref a_t), (1, .int y1), (2, .int y2), (3, .int y3), (4, .int y4)] → fX5_looksFar_59 v_s ag40 ag48 ag59 v_pile v_mark y1 y2 y3 y4 = some kk' → W p l e rX5_looksFar s m args below meth c H locs 0 0 (MQ below (q_Rv D A ((fun k : (Nat → Int32) × (Nat → Int32) => (wX5_looksFar cI cJ cZ cS a_t a_s a_keptS a_statuses a_pile a_tape a_steps a_wish a_mark a_bitsOf a_sizeOf a_number a_moved v_isKept v_taped v_at v_fault v_laid v_open v_s k.1 k.2)) kk')) args s 0 0 A) (F0 m 59 ls []) := by
  intro v_pile v_mark y1 y2 y3 y4 H locs ls h hl hf
  have hx := fx.1
  have hb := fx.2.1
  unfold fX5_looksFar_59 at hf
  refine lv_iload hx hb dX5_looksFar_59 (lv_at hl 4 rfl) ?_
  refine lv_aload_n hx hb dX5_looksFar_61 rfl (lv_at hl 0 rfl) ?_
  refine q_get (v := .ref a_s) fx inX5 h 0 rfl rfl 0 (by decide) k_636 rfl dX5_looksFar_62 ?_
  refine lv_iconst (v := 0) hx hb dX5_looksFar_65 (by decide) ?_
  refine q_ialdK fx h 1 rfl 0 (vinK (by decide)) (by decide) dX5_looksFar_66 ?_
  refine lv_icmp_ge (tgt := 112) hx hb dX5_looksFar_67 (by decide) (fun c3 => ?_) (fun c3 => ?_)
  · have hf := it_t c3 hf
    exact LX5_looksFar_112 fx hag40 hag48 h (lv_sub hl [0, 1, 2, 3] rfl) hf
  have hf := it_f c3 hf
  refine lv_aload_n hx hb dX5_looksFar_70 rfl (lv_at hl 0 rfl) ?_
  refine q_get (v := .ref a_mark) fx inX5 h 0 rfl rfl 13 (by decide) k_649 rfl dX5_looksFar_71 ?_
  refine lv_iload_n hx hb dX5_looksFar_74 rfl (lv_at hl 3 rfl) ?_
  obtain ⟨i4, hf⟩ := gIn_inv hf
  refine q_iald fx h 3 rfl i4 dX5_looksFar_75 ?_
  refine lv_if_ge (tgt := 112) hx hb dX5_looksFar_76 (by decide) (fun c5 => ?_) (fun c5 => ?_)
  · have hf := it_t c5 hf
    exact LX5_looksFar_112 fx hag40 hag48 h (lv_sub hl [0, 1, 2, 3] rfl) hf
  have hf := it_f c5 hf
  refine lv_aload_n hx hb dX5_looksFar_79 rfl (lv_at hl 0 rfl) ?_
  refine q_get (v := .ref a_mark) fx inX5 h 0 rfl rfl 13 (by decide) k_649 rfl dX5_looksFar_80 ?_
  refine lv_aload_n hx hb dX5_looksFar_83 rfl (lv_at hl 0 rfl) ?_
  refine lv_iload_n hx hb dX5_looksFar_84 rfl (lv_at hl 3 rfl) ?_
  refine lv_iload hx hb dX5_looksFar_85 (lv_at hl 4 rfl) ?_
  obtain ⟨r6, k6, hg, hf⟩ := bR_inv hf
  refine q_ci (rest := [.ref a_mark]) (ws' := (wX5_looksFar cI cJ cZ cS a_t a_s a_keptS a_statuses a_pile a_tape a_steps a_wish a_mark a_bitsOf a_sizeOf a_number a_moved v_isKept v_taped v_at v_fault v_laid v_open v_s k6 v_mark)) (w1 := (wX5_called cI cJ cZ cS a_t a_s a_keptS a_statuses a_pile a_tape a_steps a_wish a_mark a_bitsOf a_sizeOf a_number a_moved v_isKept v_taped v_at v_fault v_laid v_open v_s k6)) fx h [0, 1, 2] rfl rfl rfl rfl (q_runV fx h hl.1 [0, 1, 2] rfl rfl (tX5_called l D cI cJ cZ cS tb a_t a_s a_keptS a_statuses a_pile a_tape a_steps a_wish a_mark a_bitsOf a_sizeOf a_number a_moved H.size v_isKept v_taped v_at v_fault v_laid v_open v_s v_pile y3 y4 r6 k6 hg) mvX5_called k_834 ⟨rfl, rfl⟩ ⟨Nat.le_of_ble_eq_true rfl, Nat.le_of_ble_eq_true rfl⟩ rfl rfl rfl rfl (Nat.le_of_ble_eq_true rfl) dX5_looksFar_87 ⟨Nat.le_of_ble_eq_true rfl, Nat.le_of_ble_eq_true rfl⟩) (fun H locs h => ?_)
  obtain ⟨i7, hf⟩ := gIn_inv hf
  refine q_iald fx h 3 rfl i7 dX5_looksFar_90 ?_
  refine lv_iload_n hx hb dX5_looksFar_91 rfl (lv_at hl 2 rfl) ?_
  refine lv_iconst (v := 1) hx hb dX5_looksFar_92 (by decide) ?_
  refine lv_isub hx hb dX5_looksFar_93 ?_
  refine lv_icmp_ne (tgt := 106) hx hb dX5_looksFar_94 (by decide) (fun c8 => ?_) (fun c8 => ?_)
  · have hf := it_f c8 hf
    exact LX5_looksFar_106 fx hag40 hag48 hag59 h (lv_sub hl [0, 1, 2, 3, 4] rfl) hf
  have hf := it_t c8 hf
  refine lv_aload_n hx hb dX5_looksFar_97 rfl (lv_at hl 0 rfl) ?_
  refine q_get (v := .ref a_mark) fx inX5 h 0 rfl rfl 13 (by decide) k_649 rfl dX5_looksFar_98 ?_
  refine lv_iload_n hx hb dX5_looksFar_101 rfl (lv_at hl 3 rfl) ?_
  refine lv_iload_n hx hb dX5_looksFar_102 rfl (lv_at hl 2 rfl) ?_
  obtain ⟨i9, hf⟩ := gIn_inv hf
  refine q_iast (ws' := (wX5_looksFar cI cJ cZ cS a_t a_s a_keptS a_statuses a_pile a_tape a_steps a_wish a_mark a_bitsOf a_sizeOf a_number a_moved v_isKept v_taped v_at v_fault v_laid v_open v_s k6 (upd v_mark y3.toNatClampNeg y2))) fx h 3 rfl i9 rfl dX5_looksFar_103 (fun H locs h => ?_)
  refine lv_iconst (v := 1) hx hb dX5_looksFar_104 (by decide) ?_
  refine lv_istore_n (lv' := [(1, .int 1), (0, .ref a_t), (2, .int y2), (3, .int y3), (4, .int y4)]) hx hb dX5_looksFar_105 rfl hl (by decide) rfl (fun ls hl => ?_)
  exact LX5_looksFar_106 fx hag40 hag48 hag59 h (lv_sub hl [1, 0, 2, 3, 4] rfl) hf
set_option maxRecDepth 100000 in
theorem EX5_looksFar_59 {p : Program} {l : Launch} {e : Env} {s : State} {m : MethodId} {args : Array Value} {below : List Frame} {meth : Method} {c : Code} {D : va_G} {cI cJ cZ cS : ClassId} {tb : Nat} {A : Nat → Prop} {a_t a_s a_keptS a_statuses a_pile a_tape a_steps a_wish a_mark a_bitsOf a_sizeOf a_number a_moved : Nat} {v_isKept : Int32} {v_taped : Int32} {v_at : Int32} {v_fault : Int32} {v_laid : Int32} {v_open : Int32} {v_s : Nat → Int32} {kk' : (Nat → Int32) × (Nat → Int32)} (fx : q_Fx p s m args meth c cX5_looksFar 5 RX5 none D cI cJ cZ cS tb A) {ag40 : (Nat → Int32) → (Nat → Int32) → Int32 → Int32 → Option ((Nat → Int32) × (Nat → Int32))} (hag40 : ∀ {v_pile : Nat → Int32} {v_mark : Nat → Int32} {y1 : Int32} {y2 : Int32} {H : Heap} {locs : List Loc} {ls : Array Slot}, q_H D A s (wX5_looksFar cI cJ cZ cS a_t a_s a_keptS a_statuses a_pile a_tape a_steps a_wish a_mark a_bitsOf a_sizeOf a_number a_moved v_isKept v_taped v_at v_fault v_laid v_open v_s v_pile v_mark) H locs → lv_has ls 5 [(0, .ref a_t), (1, .int y1), (2, .int y2)] → ag40 v_pile v_mark y1 y2 = some kk' → W p l e rX5_looksFar s m args below meth c H locs 0 0 (MQ below (q_Rv D A ((fun k : (Nat → Int32) × (Nat → Int32) => (wX5_looksFar cI cJ cZ cS a_t a_s a_keptS a_statuses a_pile a_tape a_steps a_wish a_mark a_bitsOf a_sizeOf a_number a_moved v_isKept v_taped v_at v_fault v_laid v_open v_s k.1 k.2)) kk')) args s 0 0 A) (F0 m 40 ls [])) {ag48 : (Nat → Int32) → (Nat → Int32) → Int32 → Int32 → Int32 → Option ((Nat → Int32) × (Nat → Int32))} (hag48 : ∀ {v_pile : Nat → Int32} {v_mark : Nat → Int32} {y1 : Int32} {y2 : Int32} {y3 : Int32} {H : Heap} {locs : List Loc} {ls : Array Slot}, q_H D A s (wX5_looksFar cI cJ cZ cS a_t a_s a_keptS a_statuses a_pile a_tape a_steps a_wish a_mark a_bitsOf a_sizeOf a_number a_moved v_isKept v_taped v_at v_fault v_laid v_open v_s v_pile v_mark) H locs → lv_has ls 5 [(0, .ref a_t), (1, .int y1), (2, .int y2), (3, .int y3)] → ag48 v_pile v_mark y1 y2 y3 = some kk' → W p l e rX5_looksFar s m args below meth c H locs 0 0 (MQ below (q_Rv D A ((fun k : (Nat → Int32) × (Nat → Int32) => (wX5_looksFar cI cJ cZ cS a_t a_s a_keptS a_statuses a_pile a_tape a_steps a_wish a_mark a_bitsOf a_sizeOf a_number a_moved v_isKept v_taped v_at v_fault v_laid v_open v_s k.1 k.2)) kk')) args s 0 0 A) (F0 m 48 ls [])) : ∀ (n : Nat), ∀ {v_pile : Nat → Int32} {v_mark : Nat → Int32} {y1 : Int32} {y2 : Int32} {y3 : Int32} {y4 : Int32} {H : Heap} {locs : List Loc} {ls : Array Slot}, q_H D A s (wX5_looksFar cI cJ cZ cS a_t a_s a_keptS a_statuses a_pile a_tape a_steps a_wish a_mark a_bitsOf a_sizeOf a_number a_moved v_isKept v_taped v_at v_fault v_laid v_open v_s v_pile v_mark) H locs → lv_has ls 5 [(0, .ref a_t), (1, .int y1), (2, .int y2), (3, .int y3), (4, .int y4)] → ll6 (fX5_looksFar_59 v_s ag40 ag48) n v_pile v_mark y1 y2 y3 y4 = some kk' → W p l e rX5_looksFar s m args below meth c H locs 0 0 (MQ below (q_Rv D A ((fun k : (Nat → Int32) × (Nat → Int32) => (wX5_looksFar cI cJ cZ cS a_t a_s a_keptS a_statuses a_pile a_tape a_steps a_wish a_mark a_bitsOf a_sizeOf a_number a_moved v_isKept v_taped v_at v_fault v_laid v_open v_s k.1 k.2)) kk')) args s 0 0 A) (F0 m 59 ls []) := by
  intro n
  induction n with
  | zero => intro v_pile v_mark y1 y2 y3 y4 H locs ls h hl hf; exact (ll6_z hf).elim
  | succ n ih => intro v_pile v_mark y1 y2 y3 y4 H locs ls h hl hf; exact LX5_looksFar_59 fx hag40 hag48 ih h hl (ll6_s hf)
def fX5_looksFar_48 (v_s : Nat → Int32) (ag40 : (Nat → Int32) → (Nat → Int32) → Int32 → Int32 → Option ((Nat → Int32) × (Nat → Int32))) (ag48 : (Nat → Int32) → (Nat → Int32) → Int32 → Int32 → Int32 → Option ((Nat → Int32) × (Nat → Int32))) (v_pile : Nat → Int32) (v_mark : Nat → Int32) (y1 : Int32) (y2 : Int32) (y3 : Int32) : Option ((Nat → Int32) × (Nat → Int32)) :=
  bR (fX5_lists v_s) (fun r10 k10 =>
  (if r10 ≤ y3 then (
  nm (y2 + 1) (fun u12 =>
  ag40 v_pile v_mark y1 u12))
  else (
  ll6 (fX5_looksFar_59 v_s ag40 ag48) qF v_pile v_mark y1 y2 y3 0)))
set_option maxRecDepth 100000 in
set_option maxHeartbeats 4000000 in
theorem LX5_looksFar_48 {p : Program} {l : Launch} {e : Env} {s : State} {m : MethodId} {args : Array Value} {below : List Frame} {meth : Method} {c : Code} {D : va_G} {cI cJ cZ cS : ClassId} {tb : Nat} {A : Nat → Prop} {a_t a_s a_keptS a_statuses a_pile a_tape a_steps a_wish a_mark a_bitsOf a_sizeOf a_number a_moved : Nat} {v_isKept : Int32} {v_taped : Int32} {v_at : Int32} {v_fault : Int32} {v_laid : Int32} {v_open : Int32} {v_s : Nat → Int32} {kk' : (Nat → Int32) × (Nat → Int32)} (fx : q_Fx p s m args meth c cX5_looksFar 5 RX5 none D cI cJ cZ cS tb A) {ag40 : (Nat → Int32) → (Nat → Int32) → Int32 → Int32 → Option ((Nat → Int32) × (Nat → Int32))} (hag40 : ∀ {v_pile : Nat → Int32} {v_mark : Nat → Int32} {y1 : Int32} {y2 : Int32} {H : Heap} {locs : List Loc} {ls : Array Slot}, q_H D A s (wX5_looksFar cI cJ cZ cS a_t a_s a_keptS a_statuses a_pile a_tape a_steps a_wish a_mark a_bitsOf a_sizeOf a_number a_moved v_isKept v_taped v_at v_fault v_laid v_open v_s v_pile v_mark) H locs → lv_has ls 5 [(0, .ref a_t), (1, .int y1), (2, .int y2)] → ag40 v_pile v_mark y1 y2 = some kk' → W p l e rX5_looksFar s m args below meth c H locs 0 0 (MQ below (q_Rv D A ((fun k : (Nat → Int32) × (Nat → Int32) => (wX5_looksFar cI cJ cZ cS a_t a_s a_keptS a_statuses a_pile a_tape a_steps a_wish a_mark a_bitsOf a_sizeOf a_number a_moved v_isKept v_taped v_at v_fault v_laid v_open v_s k.1 k.2)) kk')) args s 0 0 A) (F0 m 40 ls [])) {ag48 : (Nat → Int32) → (Nat → Int32) → Int32 → Int32 → Int32 → Option ((Nat → Int32) × (Nat → Int32))} (hag48 : ∀ {v_pile : Nat → Int32} {v_mark : Nat → Int32} {y1 : Int32} {y2 : Int32} {y3 : Int32} {H : Heap} {locs : List Loc} {ls : Array Slot}, q_H D A s (wX5_looksFar cI cJ cZ cS a_t a_s a_keptS a_statuses a_pile a_tape a_steps a_wish a_mark a_bitsOf a_sizeOf a_number a_moved v_isKept v_taped v_at v_fault v_laid v_open v_s v_pile v_mark) H locs → lv_has ls 5 [(0, .ref a_t), (1, .int y1), (2, .int y2), (3, .int y3)] → ag48 v_pile v_mark y1 y2 y3 = some kk' → W p l e rX5_looksFar s m args below meth c H locs 0 0 (MQ below (q_Rv D A ((fun k : (Nat → Int32) × (Nat → Int32) => (wX5_looksFar cI cJ cZ cS a_t a_s a_keptS a_statuses a_pile a_tape a_steps a_wish a_mark a_bitsOf a_sizeOf a_number a_moved v_isKept v_taped v_at v_fault v_laid v_open v_s k.1 k.2)) kk')) args s 0 0 A) (F0 m 48 ls [])) : ∀ {v_pile : Nat → Int32} {v_mark : Nat → Int32} {y1 : Int32} {y2 : Int32} {y3 : Int32} {H : Heap} {locs : List Loc} {ls : Array Slot}, q_H D A s (wX5_looksFar cI cJ cZ cS a_t a_s a_keptS a_statuses a_pile a_tape a_steps a_wish a_mark a_bitsOf a_sizeOf a_number a_moved v_isKept v_taped v_at v_fault v_laid v_open v_s v_pile v_mark) H locs → lv_has ls 5 [(0, .ref a_t), (1, .int y1), (2, .int y2), (3, .int y3)] → fX5_looksFar_48 v_s ag40 ag48 v_pile v_mark y1 y2 y3 = some kk' → W p l e rX5_looksFar s m args below meth c H locs 0 0 (MQ below (q_Rv D A ((fun k : (Nat → Int32) × (Nat → Int32) => (wX5_looksFar cI cJ cZ cS a_t a_s a_keptS a_statuses a_pile a_tape a_steps a_wish a_mark a_bitsOf a_sizeOf a_number a_moved v_isKept v_taped v_at v_fault v_laid v_open v_s k.1 k.2)) kk')) args s 0 0 A) (F0 m 48 ls []) := by
  intro v_pile v_mark y1 y2 y3 H locs ls h hl hf
  have hx := fx.1
  have hb := fx.2.1
  unfold fX5_looksFar_48 at hf
  refine lv_iload_n hx hb dX5_looksFar_48 rfl (lv_at hl 3 rfl) ?_
  refine lv_aload_n hx hb dX5_looksFar_49 rfl (lv_at hl 0 rfl) ?_
  obtain ⟨r10, k10, hg, hf⟩ := bR_inv hf
  refine q_ci (rest := [.int y3]) (ws' := (wX5_looksFar cI cJ cZ cS a_t a_s a_keptS a_statuses a_pile a_tape a_steps a_wish a_mark a_bitsOf a_sizeOf a_number a_moved v_isKept v_taped v_at v_fault v_laid v_open v_s v_pile v_mark)) (w1 := (wX5_lists cI cJ cZ cS a_t a_s a_keptS a_statuses a_pile a_tape a_steps a_wish a_mark a_bitsOf a_sizeOf a_number a_moved v_isKept v_taped v_at v_fault v_laid v_open v_s)) fx h [0, 1] rfl rfl rfl rfl (q_runV fx h hl.1 [0, 1] rfl rfl (tX5_lists l D cI cJ cZ cS tb a_t a_s a_keptS a_statuses a_pile a_tape a_steps a_wish a_mark a_bitsOf a_sizeOf a_number a_moved H.size v_isKept v_taped v_at v_fault v_laid v_open v_s r10 k10 hg) mvX5_lists k_810 ⟨rfl, rfl⟩ ⟨Nat.le_of_ble_eq_true rfl, Nat.le_of_ble_eq_true rfl⟩ rfl rfl rfl rfl (Nat.le_of_ble_eq_true rfl) dX5_looksFar_50 ⟨Nat.le_of_ble_eq_true rfl, Nat.le_of_ble_eq_true rfl⟩) (fun H locs h => ?_)
  refine lv_icmp_ge (tgt := 118) hx hb dX5_looksFar_53 (by decide) (fun c11 => ?_) (fun c11 => ?_)
  · have hf := it_t c11 hf
    obtain ⟨u12, eu12, hf⟩ := nm_inv hf
    refine lv_iinc (v := u12) (lv' := [(2, .int u12), (0, .ref a_t), (1, .int y1), (3, .int y3)]) hx hb dX5_looksFar_118 hl (k := 2) rfl (by rw [eu12]; rfl) (by decide) rfl (fun ls hl => ?_)
    refine lv_goto (tgt := 40) hx hb dX5_looksFar_121 (by decide) ?_
    exact hag40 h (lv_sub hl [1, 2, 0] rfl) hf
  have hf := it_f c11 hf
  refine lv_iconst (v := 0) hx hb dX5_looksFar_56 (by decide) ?_
  refine lv_istore (lv' := [(4, .int 0), (0, .ref a_t), (1, .int y1), (2, .int y2), (3, .int y3)]) hx hb dX5_looksFar_57 hl (by decide) rfl (fun ls hl => ?_)
  exact EX5_looksFar_59 fx hag40 hag48 qF h (lv_sub hl [1, 2, 3, 4, 0] rfl) hf
set_option maxRecDepth 100000 in
theorem EX5_looksFar_48 {p : Program} {l : Launch} {e : Env} {s : State} {m : MethodId} {args : Array Value} {below : List Frame} {meth : Method} {c : Code} {D : va_G} {cI cJ cZ cS : ClassId} {tb : Nat} {A : Nat → Prop} {a_t a_s a_keptS a_statuses a_pile a_tape a_steps a_wish a_mark a_bitsOf a_sizeOf a_number a_moved : Nat} {v_isKept : Int32} {v_taped : Int32} {v_at : Int32} {v_fault : Int32} {v_laid : Int32} {v_open : Int32} {v_s : Nat → Int32} {kk' : (Nat → Int32) × (Nat → Int32)} (fx : q_Fx p s m args meth c cX5_looksFar 5 RX5 none D cI cJ cZ cS tb A) {ag40 : (Nat → Int32) → (Nat → Int32) → Int32 → Int32 → Option ((Nat → Int32) × (Nat → Int32))} (hag40 : ∀ {v_pile : Nat → Int32} {v_mark : Nat → Int32} {y1 : Int32} {y2 : Int32} {H : Heap} {locs : List Loc} {ls : Array Slot}, q_H D A s (wX5_looksFar cI cJ cZ cS a_t a_s a_keptS a_statuses a_pile a_tape a_steps a_wish a_mark a_bitsOf a_sizeOf a_number a_moved v_isKept v_taped v_at v_fault v_laid v_open v_s v_pile v_mark) H locs → lv_has ls 5 [(0, .ref a_t), (1, .int y1), (2, .int y2)] → ag40 v_pile v_mark y1 y2 = some kk' → W p l e rX5_looksFar s m args below meth c H locs 0 0 (MQ below (q_Rv D A ((fun k : (Nat → Int32) × (Nat → Int32) => (wX5_looksFar cI cJ cZ cS a_t a_s a_keptS a_statuses a_pile a_tape a_steps a_wish a_mark a_bitsOf a_sizeOf a_number a_moved v_isKept v_taped v_at v_fault v_laid v_open v_s k.1 k.2)) kk')) args s 0 0 A) (F0 m 40 ls [])) : ∀ (n : Nat), ∀ {v_pile : Nat → Int32} {v_mark : Nat → Int32} {y1 : Int32} {y2 : Int32} {y3 : Int32} {H : Heap} {locs : List Loc} {ls : Array Slot}, q_H D A s (wX5_looksFar cI cJ cZ cS a_t a_s a_keptS a_statuses a_pile a_tape a_steps a_wish a_mark a_bitsOf a_sizeOf a_number a_moved v_isKept v_taped v_at v_fault v_laid v_open v_s v_pile v_mark) H locs → lv_has ls 5 [(0, .ref a_t), (1, .int y1), (2, .int y2), (3, .int y3)] → ll5 (fX5_looksFar_48 v_s ag40) n v_pile v_mark y1 y2 y3 = some kk' → W p l e rX5_looksFar s m args below meth c H locs 0 0 (MQ below (q_Rv D A ((fun k : (Nat → Int32) × (Nat → Int32) => (wX5_looksFar cI cJ cZ cS a_t a_s a_keptS a_statuses a_pile a_tape a_steps a_wish a_mark a_bitsOf a_sizeOf a_number a_moved v_isKept v_taped v_at v_fault v_laid v_open v_s k.1 k.2)) kk')) args s 0 0 A) (F0 m 48 ls []) := by
  intro n
  induction n with
  | zero => intro v_pile v_mark y1 y2 y3 H locs ls h hl hf; exact (ll5_z hf).elim
  | succ n ih => intro v_pile v_mark y1 y2 y3 H locs ls h hl hf; exact LX5_looksFar_48 fx hag40 ih h hl (ll5_s hf)
def fX5_looksFar_40 (v_s : Nat → Int32) (ag40 : (Nat → Int32) → (Nat → Int32) → Int32 → Int32 → Option ((Nat → Int32) × (Nat → Int32))) (v_pile : Nat → Int32) (v_mark : Nat → Int32) (y1 : Int32) (y2 : Int32) : Option ((Nat → Int32) × (Nat → Int32)) :=
  (if y1 = 0 then (
  some (v_pile, v_mark))
  else (
  ll5 (fX5_looksFar_48 v_s ag40) qF v_pile v_mark 0 y2 0))
set_option maxRecDepth 100000 in
set_option maxHeartbeats 4000000 in
theorem LX5_looksFar_40 {p : Program} {l : Launch} {e : Env} {s : State} {m : MethodId} {args : Array Value} {below : List Frame} {meth : Method} {c : Code} {D : va_G} {cI cJ cZ cS : ClassId} {tb : Nat} {A : Nat → Prop} {a_t a_s a_keptS a_statuses a_pile a_tape a_steps a_wish a_mark a_bitsOf a_sizeOf a_number a_moved : Nat} {v_isKept : Int32} {v_taped : Int32} {v_at : Int32} {v_fault : Int32} {v_laid : Int32} {v_open : Int32} {v_s : Nat → Int32} {kk' : (Nat → Int32) × (Nat → Int32)} (fx : q_Fx p s m args meth c cX5_looksFar 5 RX5 none D cI cJ cZ cS tb A) {ag40 : (Nat → Int32) → (Nat → Int32) → Int32 → Int32 → Option ((Nat → Int32) × (Nat → Int32))} (hag40 : ∀ {v_pile : Nat → Int32} {v_mark : Nat → Int32} {y1 : Int32} {y2 : Int32} {H : Heap} {locs : List Loc} {ls : Array Slot}, q_H D A s (wX5_looksFar cI cJ cZ cS a_t a_s a_keptS a_statuses a_pile a_tape a_steps a_wish a_mark a_bitsOf a_sizeOf a_number a_moved v_isKept v_taped v_at v_fault v_laid v_open v_s v_pile v_mark) H locs → lv_has ls 5 [(0, .ref a_t), (1, .int y1), (2, .int y2)] → ag40 v_pile v_mark y1 y2 = some kk' → W p l e rX5_looksFar s m args below meth c H locs 0 0 (MQ below (q_Rv D A ((fun k : (Nat → Int32) × (Nat → Int32) => (wX5_looksFar cI cJ cZ cS a_t a_s a_keptS a_statuses a_pile a_tape a_steps a_wish a_mark a_bitsOf a_sizeOf a_number a_moved v_isKept v_taped v_at v_fault v_laid v_open v_s k.1 k.2)) kk')) args s 0 0 A) (F0 m 40 ls [])) : ∀ {v_pile : Nat → Int32} {v_mark : Nat → Int32} {y1 : Int32} {y2 : Int32} {H : Heap} {locs : List Loc} {ls : Array Slot}, q_H D A s (wX5_looksFar cI cJ cZ cS a_t a_s a_keptS a_statuses a_pile a_tape a_steps a_wish a_mark a_bitsOf a_sizeOf a_number a_moved v_isKept v_taped v_at v_fault v_laid v_open v_s v_pile v_mark) H locs → lv_has ls 5 [(0, .ref a_t), (1, .int y1), (2, .int y2)] → fX5_looksFar_40 v_s ag40 v_pile v_mark y1 y2 = some kk' → W p l e rX5_looksFar s m args below meth c H locs 0 0 (MQ below (q_Rv D A ((fun k : (Nat → Int32) × (Nat → Int32) => (wX5_looksFar cI cJ cZ cS a_t a_s a_keptS a_statuses a_pile a_tape a_steps a_wish a_mark a_bitsOf a_sizeOf a_number a_moved v_isKept v_taped v_at v_fault v_laid v_open v_s k.1 k.2)) kk')) args s 0 0 A) (F0 m 40 ls []) := by
  intro v_pile v_mark y1 y2 H locs ls h hl hf
  have hx := fx.1
  have hb := fx.2.1
  unfold fX5_looksFar_40 at hf
  refine lv_iload_n hx hb dX5_looksFar_40 rfl (lv_at hl 1 rfl) ?_
  refine lv_if_eq (tgt := 124) hx hb dX5_looksFar_41 (by decide) (fun c13 => ?_) (fun c13 => ?_)
  · have hf := it_t c13 hf
    exact q_retv (fun k : (Nat → Int32) × (Nat → Int32) => (wX5_looksFar cI cJ cZ cS a_t a_s a_keptS a_statuses a_pile a_tape a_steps a_wish a_mark a_bitsOf a_sizeOf a_number a_moved v_isKept v_taped v_at v_fault v_laid v_open v_s k.1 k.2)) fx hf h dX5_looksFar_124
  have hf := it_f c13 hf
  refine lv_iconst (v := 0) hx hb dX5_looksFar_44 (by decide) ?_
  refine lv_istore_n (lv' := [(1, .int 0), (0, .ref a_t), (2, .int y2)]) hx hb dX5_looksFar_45 rfl hl (by decide) rfl (fun ls hl => ?_)
  refine lv_iconst (v := 0) hx hb dX5_looksFar_46 (by decide) ?_
  refine lv_istore_n (lv' := [(3, .int 0), (1, .int 0), (0, .ref a_t), (2, .int y2)]) hx hb dX5_looksFar_47 rfl hl (by decide) rfl (fun ls hl => ?_)
  exact EX5_looksFar_48 fx hag40 qF h (lv_sub hl [2, 1, 3, 0] rfl) hf
set_option maxRecDepth 100000 in
theorem EX5_looksFar_40 {p : Program} {l : Launch} {e : Env} {s : State} {m : MethodId} {args : Array Value} {below : List Frame} {meth : Method} {c : Code} {D : va_G} {cI cJ cZ cS : ClassId} {tb : Nat} {A : Nat → Prop} {a_t a_s a_keptS a_statuses a_pile a_tape a_steps a_wish a_mark a_bitsOf a_sizeOf a_number a_moved : Nat} {v_isKept : Int32} {v_taped : Int32} {v_at : Int32} {v_fault : Int32} {v_laid : Int32} {v_open : Int32} {v_s : Nat → Int32} {kk' : (Nat → Int32) × (Nat → Int32)} (fx : q_Fx p s m args meth c cX5_looksFar 5 RX5 none D cI cJ cZ cS tb A) : ∀ (n : Nat), ∀ {v_pile : Nat → Int32} {v_mark : Nat → Int32} {y1 : Int32} {y2 : Int32} {H : Heap} {locs : List Loc} {ls : Array Slot}, q_H D A s (wX5_looksFar cI cJ cZ cS a_t a_s a_keptS a_statuses a_pile a_tape a_steps a_wish a_mark a_bitsOf a_sizeOf a_number a_moved v_isKept v_taped v_at v_fault v_laid v_open v_s v_pile v_mark) H locs → lv_has ls 5 [(0, .ref a_t), (1, .int y1), (2, .int y2)] → ll4 (fX5_looksFar_40 v_s) n v_pile v_mark y1 y2 = some kk' → W p l e rX5_looksFar s m args below meth c H locs 0 0 (MQ below (q_Rv D A ((fun k : (Nat → Int32) × (Nat → Int32) => (wX5_looksFar cI cJ cZ cS a_t a_s a_keptS a_statuses a_pile a_tape a_steps a_wish a_mark a_bitsOf a_sizeOf a_number a_moved v_isKept v_taped v_at v_fault v_laid v_open v_s k.1 k.2)) kk')) args s 0 0 A) (F0 m 40 ls []) := by
  intro n
  induction n with
  | zero => intro v_pile v_mark y1 y2 H locs ls h hl hf; exact (ll4_z hf).elim
  | succ n ih => intro v_pile v_mark y1 y2 H locs ls h hl hf; exact LX5_looksFar_40 fx ih h hl (ll4_s hf)
def fX5_looksFar_29 (v_s : Nat → Int32) (ag2 : (Nat → Int32) → (Nat → Int32) → Int32 → Option ((Nat → Int32) × (Nat → Int32))) (v_pile : Nat → Int32) (v_mark : Nat → Int32) (s1 : Int32) (s2 : Int32) (y1 : Int32) : Option ((Nat → Int32) × (Nat → Int32)) :=
  gIn s1 256 (
  nm (y1 + 1) (fun u15 =>
  ag2 v_pile (upd v_mark s1.toNatClampNeg s2) u15))
set_option maxRecDepth 100000 in
set_option maxHeartbeats 4000000 in
theorem LX5_looksFar_29 {p : Program} {l : Launch} {e : Env} {s : State} {m : MethodId} {args : Array Value} {below : List Frame} {meth : Method} {c : Code} {D : va_G} {cI cJ cZ cS : ClassId} {tb : Nat} {A : Nat → Prop} {a_t a_s a_keptS a_statuses a_pile a_tape a_steps a_wish a_mark a_bitsOf a_sizeOf a_number a_moved : Nat} {v_isKept : Int32} {v_taped : Int32} {v_at : Int32} {v_fault : Int32} {v_laid : Int32} {v_open : Int32} {v_s : Nat → Int32} {kk' : (Nat → Int32) × (Nat → Int32)} (fx : q_Fx p s m args meth c cX5_looksFar 5 RX5 none D cI cJ cZ cS tb A) {ag2 : (Nat → Int32) → (Nat → Int32) → Int32 → Option ((Nat → Int32) × (Nat → Int32))} (hag2 : ∀ {v_pile : Nat → Int32} {v_mark : Nat → Int32} {y1 : Int32} {H : Heap} {locs : List Loc} {ls : Array Slot}, q_H D A s (wX5_looksFar cI cJ cZ cS a_t a_s a_keptS a_statuses a_pile a_tape a_steps a_wish a_mark a_bitsOf a_sizeOf a_number a_moved v_isKept v_taped v_at v_fault v_laid v_open v_s v_pile v_mark) H locs → lv_has ls 5 [(0, .ref a_t), (1, .int y1)] → ag2 v_pile v_mark y1 = some kk' → W p l e rX5_looksFar s m args below meth c H locs 0 0 (MQ below (q_Rv D A ((fun k : (Nat → Int32) × (Nat → Int32) => (wX5_looksFar cI cJ cZ cS a_t a_s a_keptS a_statuses a_pile a_tape a_steps a_wish a_mark a_bitsOf a_sizeOf a_number a_moved v_isKept v_taped v_at v_fault v_laid v_open v_s k.1 k.2)) kk')) args s 0 0 A) (F0 m 2 ls [])) : ∀ {v_pile : Nat → Int32} {v_mark : Nat → Int32} {s1 : Int32} {s2 : Int32} {y1 : Int32} {H : Heap} {locs : List Loc} {ls : Array Slot}, q_H D A s (wX5_looksFar cI cJ cZ cS a_t a_s a_keptS a_statuses a_pile a_tape a_steps a_wish a_mark a_bitsOf a_sizeOf a_number a_moved v_isKept v_taped v_at v_fault v_laid v_open v_s v_pile v_mark) H locs → lv_has ls 5 [(0, .ref a_t), (1, .int y1)] → fX5_looksFar_29 v_s ag2 v_pile v_mark s1 s2 y1 = some kk' → W p l e rX5_looksFar s m args below meth c H locs 0 0 (MQ below (q_Rv D A ((fun k : (Nat → Int32) × (Nat → Int32) => (wX5_looksFar cI cJ cZ cS a_t a_s a_keptS a_statuses a_pile a_tape a_steps a_wish a_mark a_bitsOf a_sizeOf a_number a_moved v_isKept v_taped v_at v_fault v_laid v_open v_s k.1 k.2)) kk')) args s 0 0 A) (F0 m 29 ls [.int s2, .int s1, .ref a_mark]) := by
  intro v_pile v_mark s1 s2 y1 H locs ls h hl hf
  have hx := fx.1
  have hb := fx.2.1
  unfold fX5_looksFar_29 at hf
  obtain ⟨i14, hf⟩ := gIn_inv hf
  refine q_iast (ws' := (wX5_looksFar cI cJ cZ cS a_t a_s a_keptS a_statuses a_pile a_tape a_steps a_wish a_mark a_bitsOf a_sizeOf a_number a_moved v_isKept v_taped v_at v_fault v_laid v_open v_s v_pile (upd v_mark s1.toNatClampNeg s2))) fx h 3 rfl i14 rfl dX5_looksFar_29 (fun H locs h => ?_)
  obtain ⟨u15, eu15, hf⟩ := nm_inv hf
  refine lv_iinc (v := u15) (lv' := [(1, .int u15), (0, .ref a_t)]) hx hb dX5_looksFar_30 hl (k := 1) rfl (by rw [eu15]; rfl) (by decide) rfl (fun ls hl => ?_)
  refine lv_goto (tgt := 2) hx hb dX5_looksFar_33 (by decide) ?_
  exact hag2 h (lv_sub hl [1, 0] rfl) hf
def fX5_looksFar_2 (v_s : Nat → Int32) (ag2 : (Nat → Int32) → (Nat → Int32) → Int32 → Option ((Nat → Int32) × (Nat → Int32))) (v_pile : Nat → Int32) (v_mark : Nat → Int32) (y1 : Int32) : Option ((Nat → Int32) × (Nat → Int32)) :=
  bR (fX5_lists v_s) (fun r16 k16 =>
  (if r16 ≤ y1 then (
  ll4 (fX5_looksFar_40 v_s) qF v_pile v_mark 1 1)
  else (
  bR (fX5_would v_s v_pile y1) (fun r18 k18 =>
  (if r18 = y1 then (
  fX5_looksFar_29 v_s ag2 k18 v_mark y1 0 y1)
  else (
  fX5_looksFar_29 v_s ag2 k18 v_mark y1 (-1) y1))))))
set_option maxRecDepth 100000 in
set_option maxHeartbeats 4000000 in
theorem LX5_looksFar_2 {p : Program} {l : Launch} {e : Env} {s : State} {m : MethodId} {args : Array Value} {below : List Frame} {meth : Method} {c : Code} {D : va_G} {cI cJ cZ cS : ClassId} {tb : Nat} {A : Nat → Prop} {a_t a_s a_keptS a_statuses a_pile a_tape a_steps a_wish a_mark a_bitsOf a_sizeOf a_number a_moved : Nat} {v_isKept : Int32} {v_taped : Int32} {v_at : Int32} {v_fault : Int32} {v_laid : Int32} {v_open : Int32} {v_s : Nat → Int32} {kk' : (Nat → Int32) × (Nat → Int32)} (fx : q_Fx p s m args meth c cX5_looksFar 5 RX5 none D cI cJ cZ cS tb A) {ag2 : (Nat → Int32) → (Nat → Int32) → Int32 → Option ((Nat → Int32) × (Nat → Int32))} (hag2 : ∀ {v_pile : Nat → Int32} {v_mark : Nat → Int32} {y1 : Int32} {H : Heap} {locs : List Loc} {ls : Array Slot}, q_H D A s (wX5_looksFar cI cJ cZ cS a_t a_s a_keptS a_statuses a_pile a_tape a_steps a_wish a_mark a_bitsOf a_sizeOf a_number a_moved v_isKept v_taped v_at v_fault v_laid v_open v_s v_pile v_mark) H locs → lv_has ls 5 [(0, .ref a_t), (1, .int y1)] → ag2 v_pile v_mark y1 = some kk' → W p l e rX5_looksFar s m args below meth c H locs 0 0 (MQ below (q_Rv D A ((fun k : (Nat → Int32) × (Nat → Int32) => (wX5_looksFar cI cJ cZ cS a_t a_s a_keptS a_statuses a_pile a_tape a_steps a_wish a_mark a_bitsOf a_sizeOf a_number a_moved v_isKept v_taped v_at v_fault v_laid v_open v_s k.1 k.2)) kk')) args s 0 0 A) (F0 m 2 ls [])) : ∀ {v_pile : Nat → Int32} {v_mark : Nat → Int32} {y1 : Int32} {H : Heap} {locs : List Loc} {ls : Array Slot}, q_H D A s (wX5_looksFar cI cJ cZ cS a_t a_s a_keptS a_statuses a_pile a_tape a_steps a_wish a_mark a_bitsOf a_sizeOf a_number a_moved v_isKept v_taped v_at v_fault v_laid v_open v_s v_pile v_mark) H locs → lv_has ls 5 [(0, .ref a_t), (1, .int y1)] → fX5_looksFar_2 v_s ag2 v_pile v_mark y1 = some kk' → W p l e rX5_looksFar s m args below meth c H locs 0 0 (MQ below (q_Rv D A ((fun k : (Nat → Int32) × (Nat → Int32) => (wX5_looksFar cI cJ cZ cS a_t a_s a_keptS a_statuses a_pile a_tape a_steps a_wish a_mark a_bitsOf a_sizeOf a_number a_moved v_isKept v_taped v_at v_fault v_laid v_open v_s k.1 k.2)) kk')) args s 0 0 A) (F0 m 2 ls []) := by
  intro v_pile v_mark y1 H locs ls h hl hf
  have hx := fx.1
  have hb := fx.2.1
  unfold fX5_looksFar_2 at hf
  refine lv_iload_n hx hb dX5_looksFar_2 rfl (lv_at hl 1 rfl) ?_
  refine lv_aload_n hx hb dX5_looksFar_3 rfl (lv_at hl 0 rfl) ?_
  obtain ⟨r16, k16, hg, hf⟩ := bR_inv hf
  refine q_ci (rest := [.int y1]) (ws' := (wX5_looksFar cI cJ cZ cS a_t a_s a_keptS a_statuses a_pile a_tape a_steps a_wish a_mark a_bitsOf a_sizeOf a_number a_moved v_isKept v_taped v_at v_fault v_laid v_open v_s v_pile v_mark)) (w1 := (wX5_lists cI cJ cZ cS a_t a_s a_keptS a_statuses a_pile a_tape a_steps a_wish a_mark a_bitsOf a_sizeOf a_number a_moved v_isKept v_taped v_at v_fault v_laid v_open v_s)) fx h [0, 1] rfl rfl rfl rfl (q_runV fx h hl.1 [0, 1] rfl rfl (tX5_lists l D cI cJ cZ cS tb a_t a_s a_keptS a_statuses a_pile a_tape a_steps a_wish a_mark a_bitsOf a_sizeOf a_number a_moved H.size v_isKept v_taped v_at v_fault v_laid v_open v_s r16 k16 hg) mvX5_lists k_810 ⟨rfl, rfl⟩ ⟨Nat.le_of_ble_eq_true rfl, Nat.le_of_ble_eq_true rfl⟩ rfl rfl rfl rfl (Nat.le_of_ble_eq_true rfl) dX5_looksFar_4 ⟨Nat.le_of_ble_eq_true rfl, Nat.le_of_ble_eq_true rfl⟩) (fun H locs h => ?_)
  refine lv_icmp_ge (tgt := 36) hx hb dX5_looksFar_7 (by decide) (fun c17 => ?_) (fun c17 => ?_)
  · have hf := it_t c17 hf
    refine lv_iconst (v := 1) hx hb dX5_looksFar_36 (by decide) ?_
    refine lv_istore_n (lv' := [(1, .int 1), (0, .ref a_t)]) hx hb dX5_looksFar_37 rfl hl (by decide) rfl (fun ls hl => ?_)
    refine lv_iconst (v := 1) hx hb dX5_looksFar_38 (by decide) ?_
    refine lv_istore_n (lv' := [(2, .int 1), (1, .int 1), (0, .ref a_t)]) hx hb dX5_looksFar_39 rfl hl (by decide) rfl (fun ls hl => ?_)
    exact EX5_looksFar_40 fx qF h (lv_sub hl [2, 1, 0] rfl) hf
  have hf := it_f c17 hf
  refine lv_aload_n hx hb dX5_looksFar_10 rfl (lv_at hl 0 rfl) ?_
  refine q_get (v := .ref a_mark) fx inX5 h 0 rfl rfl 13 (by decide) k_649 rfl dX5_looksFar_11 ?_
  refine lv_iload_n hx hb dX5_looksFar_14 rfl (lv_at hl 1 rfl) ?_
  refine lv_aload_n hx hb dX5_looksFar_15 rfl (lv_at hl 0 rfl) ?_
  refine lv_iload_n hx hb dX5_looksFar_16 rfl (lv_at hl 1 rfl) ?_
  obtain ⟨r18, k18, hg, hf⟩ := bR_inv hf
  refine q_ci (rest := [.int y1, .ref a_mark]) (ws' := (wX5_looksFar cI cJ cZ cS a_t a_s a_keptS a_statuses a_pile a_tape a_steps a_wish a_mark a_bitsOf a_sizeOf a_number a_moved v_isKept v_taped v_at v_fault v_laid v_open v_s k18 v_mark)) (w1 := (wX5_would cI cJ cZ cS a_t a_s a_keptS a_statuses a_pile a_tape a_steps a_wish a_mark a_bitsOf a_sizeOf a_number a_moved v_isKept v_taped v_at v_fault v_laid v_open v_s k18)) fx h [0, 1, 2] rfl rfl rfl rfl (q_runV fx h hl.1 [0, 1, 2] rfl rfl (tX5_would l D cI cJ cZ cS tb a_t a_s a_keptS a_statuses a_pile a_tape a_steps a_wish a_mark a_bitsOf a_sizeOf a_number a_moved H.size v_isKept v_taped v_at v_fault v_laid v_open v_s v_pile y1 r18 k18 hg) mvX5_would k_818 ⟨rfl, rfl⟩ ⟨Nat.le_of_ble_eq_true rfl, Nat.le_of_ble_eq_true rfl⟩ rfl rfl rfl rfl (Nat.le_of_ble_eq_true rfl) dX5_looksFar_17 ⟨Nat.le_of_ble_eq_true rfl, Nat.le_of_ble_eq_true rfl⟩) (fun H locs h => ?_)
  refine lv_iload_n hx hb dX5_looksFar_20 rfl (lv_at hl 1 rfl) ?_
  refine lv_icmp_ne (tgt := 28) hx hb dX5_looksFar_21 (by decide) (fun c19 => ?_) (fun c19 => ?_)
  · have hf := it_f c19 hf
    refine lv_iconst (v := -1) hx hb dX5_looksFar_28 (by decide) ?_
    exact LX5_looksFar_29 fx hag2 h (lv_sub hl [0, 1] rfl) hf
  have hf := it_t c19 hf
  refine lv_iconst (v := 0) hx hb dX5_looksFar_24 (by decide) ?_
  refine lv_goto (tgt := 29) hx hb dX5_looksFar_25 (by decide) ?_
  exact LX5_looksFar_29 fx hag2 h (lv_sub hl [0, 1] rfl) hf
set_option maxRecDepth 100000 in
theorem EX5_looksFar_2 {p : Program} {l : Launch} {e : Env} {s : State} {m : MethodId} {args : Array Value} {below : List Frame} {meth : Method} {c : Code} {D : va_G} {cI cJ cZ cS : ClassId} {tb : Nat} {A : Nat → Prop} {a_t a_s a_keptS a_statuses a_pile a_tape a_steps a_wish a_mark a_bitsOf a_sizeOf a_number a_moved : Nat} {v_isKept : Int32} {v_taped : Int32} {v_at : Int32} {v_fault : Int32} {v_laid : Int32} {v_open : Int32} {v_s : Nat → Int32} {kk' : (Nat → Int32) × (Nat → Int32)} (fx : q_Fx p s m args meth c cX5_looksFar 5 RX5 none D cI cJ cZ cS tb A) : ∀ (n : Nat), ∀ {v_pile : Nat → Int32} {v_mark : Nat → Int32} {y1 : Int32} {H : Heap} {locs : List Loc} {ls : Array Slot}, q_H D A s (wX5_looksFar cI cJ cZ cS a_t a_s a_keptS a_statuses a_pile a_tape a_steps a_wish a_mark a_bitsOf a_sizeOf a_number a_moved v_isKept v_taped v_at v_fault v_laid v_open v_s v_pile v_mark) H locs → lv_has ls 5 [(0, .ref a_t), (1, .int y1)] → ll3 (fX5_looksFar_2 v_s) n v_pile v_mark y1 = some kk' → W p l e rX5_looksFar s m args below meth c H locs 0 0 (MQ below (q_Rv D A ((fun k : (Nat → Int32) × (Nat → Int32) => (wX5_looksFar cI cJ cZ cS a_t a_s a_keptS a_statuses a_pile a_tape a_steps a_wish a_mark a_bitsOf a_sizeOf a_number a_moved v_isKept v_taped v_at v_fault v_laid v_open v_s k.1 k.2)) kk')) args s 0 0 A) (F0 m 2 ls []) := by
  intro n
  induction n with
  | zero => intro v_pile v_mark y1 H locs ls h hl hf; exact (ll3_z hf).elim
  | succ n ih => intro v_pile v_mark y1 H locs ls h hl hf; exact LX5_looksFar_2 fx ih h hl (ll3_s hf)
def fX5_looksFar (v_s : Nat → Int32) (v_pile : Nat → Int32) (v_mark : Nat → Int32) : Option ((Nat → Int32) × (Nat → Int32)) :=
  ll3 (fX5_looksFar_2 v_s) qF v_pile v_mark 0
set_option maxRecDepth 100000 in
set_option maxHeartbeats 4000000 in
theorem tX5_looksFar (l : Launch) (D : va_G) (cI cJ cZ cS : ClassId) (tb : Nat) (a_t a_s a_keptS a_statuses a_pile a_tape a_steps a_wish a_mark a_bitsOf a_sizeOf a_number a_moved : Nat) (sz : Nat) (v_isKept : Int32) (v_taped : Int32) (v_at : Int32) (v_fault : Int32) (v_laid : Int32) (v_open : Int32) (v_s : Nat → Int32) (v_pile : Nat → Int32) (v_mark : Nat → Int32) (kk' : (Nat → Int32) × (Nat → Int32)) (hf : fX5_looksFar v_s v_pile v_mark = some kk') : Met l yX5_looksFar (Cond.code yX5_looksFar cX5_looksFar 5 none :: wA) rX5_looksFar (q_Pre D cI cJ cZ cS tb [.ref a_t] sz (wX5_looksFar cI cJ cZ cS a_t a_s a_keptS a_statuses a_pile a_tape a_steps a_wish a_mark a_bitsOf a_sizeOf a_number a_moved v_isKept v_taped v_at v_fault v_laid v_open v_s v_pile v_mark)) (q_Rv D (va_A (wX5_looksFar cI cJ cZ cS a_t a_s a_keptS a_statuses a_pile a_tape a_steps a_wish a_mark a_bitsOf a_sizeOf a_number a_moved v_isKept v_taped v_at v_fault v_laid v_open v_s v_pile v_mark) sz) ((fun k : (Nat → Int32) × (Nat → Int32) => (wX5_looksFar cI cJ cZ cS a_t a_s a_keptS a_statuses a_pile a_tape a_steps a_wish a_mark a_bitsOf a_sizeOf a_number a_moved v_isKept v_taped v_at v_fault v_laid v_open v_s k.1 k.2)) kk')) 0 0 (va_A (wX5_looksFar cI cJ cZ cS a_t a_s a_keptS a_statuses a_pile a_tape a_steps a_wish a_mark a_bitsOf a_sizeOf a_number a_moved v_isKept v_taped v_at v_fault v_laid v_open v_s v_pile v_mark) sz) := by
  refine q_enter (Qf := fun A => (q_Rv D A ((fun k : (Nat → Int32) × (Nat → Int32) => (wX5_looksFar cI cJ cZ cS a_t a_s a_keptS a_statuses a_pile a_tape a_steps a_wish a_mark a_bitsOf a_sizeOf a_number a_moved v_isKept v_taped v_at v_fault v_laid v_open v_s k.1 k.2)) kk'))) (by decide) rfl (Nat.le_of_ble_eq_true rfl) ?_
  intro p e s m below meth c A ls fx hname h hl
  have hx := fx.1
  have hb := fx.2.1
  have hl : lv_has ls 5 [(0, .ref a_t)] := hl
  generalize h9 : s.heap = H at h ⊢
  clear h9
  generalize h9 : ([] : List Loc) = locs at h ⊢
  clear h9
  unfold fX5_looksFar at hf
  refine lv_iconst (v := 0) hx hb dX5_looksFar_0 (by decide) ?_
  refine lv_istore_n (lv' := [(1, .int 0), (0, .ref a_t)]) hx hb dX5_looksFar_1 rfl hl (by decide) rfl (fun ls hl => ?_)
  exact EX5_looksFar_2 fx qF h (lv_sub hl [1, 0] rfl) hf
/-! X5_fewest -/
abbrev wX5_fewest (cI cJ cZ cS : ClassId) (a_t a_s a_keptS a_statuses a_pile a_tape a_steps a_wish a_mark a_bitsOf a_sizeOf a_number a_moved : Nat) (v_isKept : Int32) (v_taped : Int32) (v_at : Int32) (v_fault : Int32) (v_laid : Int32) (v_open : Int32) (v_s : Nat → Int32) (v_statuses : Nat → Int32) (v_pile : Nat → Int32) (v_mark : Nat → Int32) : va_W := [(a_t, .inr (5, [.ref a_s, .ref a_keptS, .ref a_statuses, .int v_isKept, .ref a_pile, .ref a_tape, .ref a_steps, .int v_taped, .int v_at, .int v_fault, .int v_laid, .int v_open, .ref a_wish, .ref a_mark, .ref a_bitsOf, .ref a_sizeOf, .ref a_number, .ref a_moved])), (a_s, .inl (cI, 538, .inl v_s)), (a_statuses, .inl (cI, 7, .inl v_statuses)), (a_pile, .inl (cZ, 64, .inl v_pile)), (a_mark, .inl (cI, 256, .inl v_mark))]
abbrev rX5_fewest : Room := { frames := 6, cells := 0, slots := 0, locals := 140 }
def fX5_fewest (v_s : Nat → Int32) (v_statuses : Nat → Int32) (v_pile : Nat → Int32) (v_mark : Nat → Int32) : Option (Int32 × (Nat → Int32) × (Nat → Int32) × (Nat → Int32)) :=
  bV (fX5_looksFar v_s v_pile v_mark) (fun k1 =>
  gIn (v_s 1) 256 (
  bR (fX5_orNone v_statuses (k1.2 (v_s 1).toNatClampNeg)) (fun r3 k3 =>
  some (r3, (k3, k1.1, k1.2)))))
set_option maxRecDepth 100000 in
set_option maxHeartbeats 4000000 in
theorem tX5_fewest (l : Launch) (D : va_G) (cI cJ cZ cS : ClassId) (tb : Nat) (a_t a_s a_keptS a_statuses a_pile a_tape a_steps a_wish a_mark a_bitsOf a_sizeOf a_number a_moved : Nat) (sz : Nat) (v_isKept : Int32) (v_taped : Int32) (v_at : Int32) (v_fault : Int32) (v_laid : Int32) (v_open : Int32) (v_s : Nat → Int32) (v_statuses : Nat → Int32) (v_pile : Nat → Int32) (v_mark : Nat → Int32) (rr : Int32) (kk' : (Nat → Int32) × (Nat → Int32) × (Nat → Int32)) (hf : fX5_fewest v_s v_statuses v_pile v_mark = some (rr, kk')) : Met l yX5_fewest (Cond.code yX5_fewest cX5_fewest 1 (some .int) :: wA) rX5_fewest (q_Pre D cI cJ cZ cS tb [.ref a_t] sz (wX5_fewest cI cJ cZ cS a_t a_s a_keptS a_statuses a_pile a_tape a_steps a_wish a_mark a_bitsOf a_sizeOf a_number a_moved v_isKept v_taped v_at v_fault v_laid v_open v_s v_statuses v_pile v_mark)) (q_Ri D rr (va_A (wX5_fewest cI cJ cZ cS a_t a_s a_keptS a_statuses a_pile a_tape a_steps a_wish a_mark a_bitsOf a_sizeOf a_number a_moved v_isKept v_taped v_at v_fault v_laid v_open v_s v_statuses v_pile v_mark) sz) ((fun k : (Nat → Int32) × (Nat → Int32) × (Nat → Int32) => (wX5_fewest cI cJ cZ cS a_t a_s a_keptS a_statuses a_pile a_tape a_steps a_wish a_mark a_bitsOf a_sizeOf a_number a_moved v_isKept v_taped v_at v_fault v_laid v_open v_s k.1 k.2.1 k.2.2)) kk')) 0 0 (va_A (wX5_fewest cI cJ cZ cS a_t a_s a_keptS a_statuses a_pile a_tape a_steps a_wish a_mark a_bitsOf a_sizeOf a_number a_moved v_isKept v_taped v_at v_fault v_laid v_open v_s v_statuses v_pile v_mark) sz) := by
  refine q_enter (Qf := fun A => (q_Ri D rr A ((fun k : (Nat → Int32) × (Nat → Int32) × (Nat → Int32) => (wX5_fewest cI cJ cZ cS a_t a_s a_keptS a_statuses a_pile a_tape a_steps a_wish a_mark a_bitsOf a_sizeOf a_number a_moved v_isKept v_taped v_at v_fault v_laid v_open v_s k.1 k.2.1 k.2.2)) kk'))) (by decide) rfl (Nat.le_of_ble_eq_true rfl) ?_
  intro p e s m below meth c A ls fx hname h hl
  have hx := fx.1
  have hb := fx.2.1
  have hl : lv_has ls 1 [(0, .ref a_t)] := hl
  generalize h9 : s.heap = H at h ⊢
  clear h9
  generalize h9 : ([] : List Loc) = locs at h ⊢
  clear h9
  unfold fX5_fewest at hf
  refine lv_aload_n hx hb dX5_fewest_0 rfl (lv_at hl 0 rfl) ?_
  obtain ⟨k1, hg, hf⟩ := bV_inv hf
  refine q_cv (rest := []) (ws' := (wX5_fewest cI cJ cZ cS a_t a_s a_keptS a_statuses a_pile a_tape a_steps a_wish a_mark a_bitsOf a_sizeOf a_number a_moved v_isKept v_taped v_at v_fault v_laid v_open v_s v_statuses k1.1 k1.2)) (w1 := (wX5_looksFar cI cJ cZ cS a_t a_s a_keptS a_statuses a_pile a_tape a_steps a_wish a_mark a_bitsOf a_sizeOf a_number a_moved v_isKept v_taped v_at v_fault v_laid v_open v_s k1.1 k1.2)) fx h [0, 1, 3, 4] rfl rfl rfl rfl (q_runV fx h hl.1 [0, 1, 3, 4] rfl rfl (tX5_looksFar l D cI cJ cZ cS tb a_t a_s a_keptS a_statuses a_pile a_tape a_steps a_wish a_mark a_bitsOf a_sizeOf a_number a_moved H.size v_isKept v_taped v_at v_fault v_laid v_open v_s v_pile v_mark k1 hg) mvX5_looksFar k_873 ⟨rfl, rfl⟩ ⟨Nat.le_of_ble_eq_true rfl, Nat.le_of_ble_eq_true rfl⟩ rfl rfl rfl rfl (Nat.le_of_ble_eq_true rfl) dX5_fewest_1 ⟨Nat.le_of_ble_eq_true rfl, Nat.le_of_ble_eq_true rfl⟩) (fun H locs h => ?_)
  refine lv_aload_n hx hb dX5_fewest_4 rfl (lv_at hl 0 rfl) ?_
  refine lv_aload_n hx hb dX5_fewest_5 rfl (lv_at hl 0 rfl) ?_
  refine q_get (v := .ref a_mark) fx inX5 h 0 rfl rfl 13 (by decide) k_649 rfl dX5_fewest_6 ?_
  refine lv_aload_n hx hb dX5_fewest_9 rfl (lv_at hl 0 rfl) ?_
  refine q_get (v := .ref a_s) fx inX5 h 0 rfl rfl 0 (by decide) k_636 rfl dX5_fewest_10 ?_
  refine lv_iconst (v := 1) hx hb dX5_fewest_13 (by decide) ?_
  refine q_ialdK fx h 1 rfl 1 (vinK (by decide)) (by decide) dX5_fewest_14 ?_
  obtain ⟨i2, hf⟩ := gIn_inv hf
  refine q_iald fx h 4 rfl i2 dX5_fewest_15 ?_
  obtain ⟨r3, k3, hg, hf⟩ := bR_inv hf
  refine q_ci (rest := []) (ws' := (wX5_fewest cI cJ cZ cS a_t a_s a_keptS a_statuses a_pile a_tape a_steps a_wish a_mark a_bitsOf a_sizeOf a_number a_moved v_isKept v_taped v_at v_fault v_laid v_open v_s k3 k1.1 k1.2)) (w1 := (wX5_orNone cI cJ cZ cS a_t a_s a_keptS a_statuses a_pile a_tape a_steps a_wish a_mark a_bitsOf a_sizeOf a_number a_moved v_isKept v_taped v_at v_fault v_laid v_open k3)) fx h [0, 2] rfl rfl rfl rfl (q_runV fx h hl.1 [0, 2] rfl rfl (tX5_orNone l D cI cJ cZ cS tb a_t a_s a_keptS a_statuses a_pile a_tape a_steps a_wish a_mark a_bitsOf a_sizeOf a_number a_moved H.size v_isKept v_taped v_at v_fault v_laid v_open v_statuses (k1.2 (v_s 1).toNatClampNeg) r3 k3 hg) mvX5_orNone k_877 ⟨rfl, rfl⟩ ⟨Nat.le_of_ble_eq_true rfl, Nat.le_of_ble_eq_true rfl⟩ rfl rfl rfl rfl (Nat.le_of_ble_eq_true rfl) dX5_fewest_16 ⟨Nat.le_of_ble_eq_true rfl, Nat.le_of_ble_eq_true rfl⟩) (fun H locs h => ?_)
  exact q_reti (fun k : (Nat → Int32) × (Nat → Int32) × (Nat → Int32) => (wX5_fewest cI cJ cZ cS a_t a_s a_keptS a_statuses a_pile a_tape a_steps a_wish a_mark a_bitsOf a_sizeOf a_number a_moved v_isKept v_taped v_at v_fault v_laid v_open v_s k.1 k.2.1 k.2.2)) fx hf h dX5_fewest_19
/-! X5_first -/
abbrev wX5_first (cI cJ cZ cS : ClassId) (a_t a_s a_keptS a_statuses a_pile a_tape a_steps a_wish a_mark a_bitsOf a_sizeOf a_number a_moved : Nat) (v_isKept : Int32) (v_taped : Int32) (v_at : Int32) (v_fault : Int32) (v_laid : Int32) (v_open : Int32) (v_s : Nat → Int32) (v_statuses : Nat → Int32) (v_pile : Nat → Int32) (v_mark : Nat → Int32) : va_W := [(a_t, .inr (5, [.ref a_s, .ref a_keptS, .ref a_statuses, .int v_isKept, .ref a_pile, .ref a_tape, .ref a_steps, .int v_taped, .int v_at, .int v_fault, .int v_laid, .int v_open, .ref a_wish, .ref a_mark, .ref a_bitsOf, .ref a_sizeOf, .ref a_number, .ref a_moved])), (a_s, .inl (cI, 538, .inl v_s)), (a_statuses, .inl (cI, 7, .inl v_statuses)), (a_pile, .inl (cZ, 64, .inl v_pile)), (a_mark, .inl (cI, 256, .inl v_mark))]
abbrev rX5_first : Room := { frames := 6, cells := 0, slots := 0, locals := 140 }
def fX5_first_62 (v_s : Nat → Int32) (ag27 : (Nat → Int32) → (Nat → Int32) → (Nat → Int32) → Int32 → Int32 → Int32 → Option (Int32 × (Nat → Int32) × (Nat → Int32) × (Nat → Int32))) (v_statuses : Nat → Int32) (v_pile : Nat → Int32) (v_mark : Nat → Int32) (s0 : Int32) (y1 : Int32) (y3 : Int32) : Option (Int32 × (Nat → Int32) × (Nat → Int32) × (Nat → Int32)) :=
  nm (y3 + (-1)) (fun u1 =>
  ag27 v_statuses v_pile v_mark y1 s0 u1)
set_option maxRecDepth 100000 in
set_option maxHeartbeats 4000000 in
theorem LX5_first_62 {p : Program} {l : Launch} {e : Env} {s : State} {m : MethodId} {args : Array Value} {below : List Frame} {meth : Method} {c : Code} {D : va_G} {cI cJ cZ cS : ClassId} {tb : Nat} {A : Nat → Prop} {a_t a_s a_keptS a_statuses a_pile a_tape a_steps a_wish a_mark a_bitsOf a_sizeOf a_number a_moved : Nat} {v_isKept : Int32} {v_taped : Int32} {v_at : Int32} {v_fault : Int32} {v_laid : Int32} {v_open : Int32} {v_s : Nat → Int32} {rr : Int32} {kk' : (Nat → Int32) × (Nat → Int32) × (Nat → Int32)} (fx : q_Fx p s m args meth c cX5_first 4 RX5 (some .int) D cI cJ cZ cS tb A) {ag27 : (Nat → Int32) → (Nat → Int32) → (Nat → Int32) → Int32 → Int32 → Int32 → Option (Int32 × (Nat → Int32) × (Nat → Int32) × (Nat → Int32))} (hag27 : ∀ {v_statuses : Nat → Int32} {v_pile : Nat → Int32} {v_mark : Nat → Int32} {y1 : Int32} {y2 : Int32} {y3 : Int32} {H : Heap} {locs : List Loc} {ls : Array Slot}, q_H D A s (wX5_first cI cJ cZ cS a_t a_s a_keptS a_statuses a_pile a_tape a_steps a_wish a_mark a_bitsOf a_sizeOf a_number a_moved v_isKept v_taped v_at v_fault v_laid v_open v_s v_statuses v_pile v_mark) H locs → lv_has ls 4 [(0, .ref a_t), (1, .int y1), (2, .int y2), (3, .int y3)] → ag27 v_statuses v_pile v_mark y1 y2 y3 = some (rr, kk') → W p l e rX5_first s m args below meth c H locs 0 0 (MQ below (q_Ri D rr A ((fun k : (Nat → Int32) × (Nat → Int32) × (Nat → Int32) => (wX5_first cI cJ cZ cS a_t a_s a_keptS a_statuses a_pile a_tape a_steps a_wish a_mark a_bitsOf a_sizeOf a_number a_moved v_isKept v_taped v_at v_fault v_laid v_open v_s k.1 k.2.1 k.2.2)) kk')) args s 0 0 A) (F0 m 27 ls [])) : ∀ {v_statuses : Nat → Int32} {v_pile : Nat → Int32} {v_mark : Nat → Int32} {s0 : Int32} {y1 : Int32} {y3 : Int32} {H : Heap} {locs : List Loc} {ls : Array Slot}, q_H D A s (wX5_first cI cJ cZ cS a_t a_s a_keptS a_statuses a_pile a_tape a_steps a_wish a_mark a_bitsOf a_sizeOf a_number a_moved v_isKept v_taped v_at v_fault v_laid v_open v_s v_statuses v_pile v_mark) H locs → lv_has ls 4 [(0, .ref a_t), (1, .int y1), (3, .int y3)] → fX5_first_62 v_s ag27 v_statuses v_pile v_mark s0 y1 y3 = some (rr, kk') → W p l e rX5_first s m args below meth c H locs 0 0 (MQ below (q_Ri D rr A ((fun k : (Nat → Int32) × (Nat → Int32) × (Nat → Int32) => (wX5_first cI cJ cZ cS a_t a_s a_keptS a_statuses a_pile a_tape a_steps a_wish a_mark a_bitsOf a_sizeOf a_number a_moved v_isKept v_taped v_at v_fault v_laid v_open v_s k.1 k.2.1 k.2.2)) kk')) args s 0 0 A) (F0 m 62 ls [.int s0]) := by
  intro v_statuses v_pile v_mark s0 y1 y3 H locs ls h hl hf
  have hx := fx.1
  have hb := fx.2.1
  unfold fX5_first_62 at hf
  refine lv_istore_n (lv' := [(2, .int s0), (0, .ref a_t), (1, .int y1), (3, .int y3)]) hx hb dX5_first_62 rfl hl (by decide) rfl (fun ls hl => ?_)
  obtain ⟨u1, eu1, hf⟩ := nm_inv hf
  refine lv_iinc (v := u1) (lv' := [(3, .int u1), (2, .int s0), (0, .ref a_t), (1, .int y1)]) hx hb dX5_first_63 hl (k := 3) rfl (by rw [eu1]; rfl) (by decide) rfl (fun ls hl => ?_)
  refine lv_goto (tgt := 27) hx hb dX5_first_66 (by decide) ?_
  exact hag27 h (lv_sub hl [2, 3, 1, 0] rfl) hf
def fX5_first_61 (v_s : Nat → Int32) (ag27 : (Nat → Int32) → (Nat → Int32) → (Nat → Int32) → Int32 → Int32 → Int32 → Option (Int32 × (Nat → Int32) × (Nat → Int32) × (Nat → Int32))) (v_statuses : Nat → Int32) (v_pile : Nat → Int32) (v_mark : Nat → Int32) (y1 : Int32) (y2 : Int32) (y3 : Int32) : Option (Int32 × (Nat → Int32) × (Nat → Int32) × (Nat → Int32)) :=
  fX5_first_62 v_s ag27 v_statuses v_pile v_mark y2 y1 y3
set_option maxRecDepth 100000 in
set_option maxHeartbeats 4000000 in
theorem LX5_first_61 {p : Program} {l : Launch} {e : Env} {s : State} {m : MethodId} {args : Array Value} {below : List Frame} {meth : Method} {c : Code} {D : va_G} {cI cJ cZ cS : ClassId} {tb : Nat} {A : Nat → Prop} {a_t a_s a_keptS a_statuses a_pile a_tape a_steps a_wish a_mark a_bitsOf a_sizeOf a_number a_moved : Nat} {v_isKept : Int32} {v_taped : Int32} {v_at : Int32} {v_fault : Int32} {v_laid : Int32} {v_open : Int32} {v_s : Nat → Int32} {rr : Int32} {kk' : (Nat → Int32) × (Nat → Int32) × (Nat → Int32)} (fx : q_Fx p s m args meth c cX5_first 4 RX5 (some .int) D cI cJ cZ cS tb A) {ag27 : (Nat → Int32) → (Nat → Int32) → (Nat → Int32) → Int32 → Int32 → Int32 → Option (Int32 × (Nat → Int32) × (Nat → Int32) × (Nat → Int32))} (hag27 : ∀ {v_statuses : Nat → Int32} {v_pile : Nat → Int32} {v_mark : Nat → Int32} {y1 : Int32} {y2 : Int32} {y3 : Int32} {H : Heap} {locs : List Loc} {ls : Array Slot}, q_H D A s (wX5_first cI cJ cZ cS a_t a_s a_keptS a_statuses a_pile a_tape a_steps a_wish a_mark a_bitsOf a_sizeOf a_number a_moved v_isKept v_taped v_at v_fault v_laid v_open v_s v_statuses v_pile v_mark) H locs → lv_has ls 4 [(0, .ref a_t), (1, .int y1), (2, .int y2), (3, .int y3)] → ag27 v_statuses v_pile v_mark y1 y2 y3 = some (rr, kk') → W p l e rX5_first s m args below meth c H locs 0 0 (MQ below (q_Ri D rr A ((fun k : (Nat → Int32) × (Nat → Int32) × (Nat → Int32) => (wX5_first cI cJ cZ cS a_t a_s a_keptS a_statuses a_pile a_tape a_steps a_wish a_mark a_bitsOf a_sizeOf a_number a_moved v_isKept v_taped v_at v_fault v_laid v_open v_s k.1 k.2.1 k.2.2)) kk')) args s 0 0 A) (F0 m 27 ls [])) : ∀ {v_statuses : Nat → Int32} {v_pile : Nat → Int32} {v_mark : Nat → Int32} {y1 : Int32} {y2 : Int32} {y3 : Int32} {H : Heap} {locs : List Loc} {ls : Array Slot}, q_H D A s (wX5_first cI cJ cZ cS a_t a_s a_keptS a_statuses a_pile a_tape a_steps a_wish a_mark a_bitsOf a_sizeOf a_number a_moved v_isKept v_taped v_at v_fault v_laid v_open v_s v_statuses v_pile v_mark) H locs → lv_has ls 4 [(0, .ref a_t), (1, .int y1), (2, .int y2), (3, .int y3)] → fX5_first_61 v_s ag27 v_statuses v_pile v_mark y1 y2 y3 = some (rr, kk') → W p l e rX5_first s m args below meth c H locs 0 0 (MQ below (q_Ri D rr A ((fun k : (Nat → Int32) × (Nat → Int32) × (Nat → Int32) => (wX5_first cI cJ cZ cS a_t a_s a_keptS a_statuses a_pile a_tape a_steps a_wish a_mark a_bitsOf a_sizeOf a_number a_moved v_isKept v_taped v_at v_fault v_laid v_open v_s k.1 k.2.1 k.2.2)) kk')) args s 0 0 A) (F0 m 61 ls []) := by
  intro v_statuses v_pile v_mark y1 y2 y3 H locs ls h hl hf
  have hx := fx.1
  have hb := fx.2.1
  unfold fX5_first_61 at hf
  refine lv_iload_n hx hb dX5_first_61 rfl (lv_at hl 2 rfl) ?_
  exact LX5_first_62 fx hag27 h (lv_sub hl [0, 1, 3] rfl) hf
def fX5_first_27 (v_s : Nat → Int32) (ag27 : (Nat → Int32) → (Nat → Int32) → (Nat → Int32) → Int32 → Int32 → Int32 → Option (Int32 × (Nat → Int32) × (Nat → Int32) × (Nat → Int32))) (v_statuses : Nat → Int32) (v_pile : Nat → Int32) (v_mark : Nat → Int32) (y1 : Int32) (y2 : Int32) (y3 : Int32) : Option (Int32 × (Nat → Int32) × (Nat → Int32) × (Nat → Int32)) :=
  (if y3 < 0 then (
  bR (fX5_orNone v_statuses y2) (fun r3 k3 =>
  some (r3, (k3, v_pile, v_mark))))
  else (
  (if y1 ≤ 0 then (
  fX5_first_61 v_s ag27 v_statuses v_pile v_mark y1 y2 y3)
  else (
  bR (fX5_called v_s v_pile (v_s 1) y3) (fun r5 k5 =>
  gIn r5 256 (
  (if (v_mark r5.toNatClampNeg) = (y1 - 1) then (
  fX5_first_62 v_s ag27 v_statuses k5 v_mark y3 y1 y3)
  else (
  fX5_first_61 v_s ag27 v_statuses k5 v_mark y1 y2 y3))))))))
set_option maxRecDepth 100000 in
set_option maxHeartbeats 4000000 in
theorem LX5_first_27 {p : Program} {l : Launch} {e : Env} {s : State} {m : MethodId} {args : Array Value} {below : List Frame} {meth : Method} {c : Code} {D : va_G} {cI cJ cZ cS : ClassId} {tb : Nat} {A : Nat → Prop} {a_t a_s a_keptS a_statuses a_pile a_tape a_steps a_wish a_mark a_bitsOf a_sizeOf a_number a_moved : Nat} {v_isKept : Int32} {v_taped : Int32} {v_at : Int32} {v_fault : Int32} {v_laid : Int32} {v_open : Int32} {v_s : Nat → Int32} {rr : Int32} {kk' : (Nat → Int32) × (Nat → Int32) × (Nat → Int32)} (fx : q_Fx p s m args meth c cX5_first 4 RX5 (some .int) D cI cJ cZ cS tb A) {ag27 : (Nat → Int32) → (Nat → Int32) → (Nat → Int32) → Int32 → Int32 → Int32 → Option (Int32 × (Nat → Int32) × (Nat → Int32) × (Nat → Int32))} (hag27 : ∀ {v_statuses : Nat → Int32} {v_pile : Nat → Int32} {v_mark : Nat → Int32} {y1 : Int32} {y2 : Int32} {y3 : Int32} {H : Heap} {locs : List Loc} {ls : Array Slot}, q_H D A s (wX5_first cI cJ cZ cS a_t a_s a_keptS a_statuses a_pile a_tape a_steps a_wish a_mark a_bitsOf a_sizeOf a_number a_moved v_isKept v_taped v_at v_fault v_laid v_open v_s v_statuses v_pile v_mark) H locs → lv_has ls 4 [(0, .ref a_t), (1, .int y1), (2, .int y2), (3, .int y3)] → ag27 v_statuses v_pile v_mark y1 y2 y3 = some (rr, kk') → W p l e rX5_first s m args below meth c H locs 0 0 (MQ below (q_Ri D rr A ((fun k : (Nat → Int32) × (Nat → Int32) × (Nat → Int32) => (wX5_first cI cJ cZ cS a_t a_s a_keptS a_statuses a_pile a_tape a_steps a_wish a_mark a_bitsOf a_sizeOf a_number a_moved v_isKept v_taped v_at v_fault v_laid v_open v_s k.1 k.2.1 k.2.2)) kk')) args s 0 0 A) (F0 m 27 ls [])) : ∀ {v_statuses : Nat → Int32} {v_pile : Nat → Int32} {v_mark : Nat → Int32} {y1 : Int32} {y2 : Int32} {y3 : Int32} {H : Heap} {locs : List Loc} {ls : Array Slot}, q_H D A s (wX5_first cI cJ cZ cS a_t a_s a_keptS a_statuses a_pile a_tape a_steps a_wish a_mark a_bitsOf a_sizeOf a_number a_moved v_isKept v_taped v_at v_fault v_laid v_open v_s v_statuses v_pile v_mark) H locs → lv_has ls 4 [(0, .ref a_t), (1, .int y1), (2, .int y2), (3, .int y3)] → fX5_first_27 v_s ag27 v_statuses v_pile v_mark y1 y2 y3 = some (rr, kk') → W p l e rX5_first s m args below meth c H locs 0 0 (MQ below (q_Ri D rr A ((fun k : (Nat → Int32) × (Nat → Int32) × (Nat → Int32) => (wX5_first cI cJ cZ cS a_t a_s a_keptS a_statuses a_pile a_tape a_steps a_wish a_mark a_bitsOf a_sizeOf a_number a_moved v_isKept v_taped v_at v_fault v_laid v_open v_s k.1 k.2.1 k.2.2)) kk')) args s 0 0 A) (F0 m 27 ls []) := by
  intro v_statuses v_pile v_mark y1 y2 y3 H locs ls h hl hf
  have hx := fx.1
  have hb := fx.2.1
  unfold fX5_first_27 at hf
  refine lv_iload_n hx hb dX5_first_27 rfl (lv_at hl 3 rfl) ?_
  refine lv_if_lt (tgt := 69) hx hb dX5_first_28 (by decide) (fun c2 => ?_) (fun c2 => ?_)
  · have hf := it_t c2 hf
    refine lv_aload_n hx hb dX5_first_69 rfl (lv_at hl 0 rfl) ?_
    refine lv_iload_n hx hb dX5_first_70 rfl (lv_at hl 2 rfl) ?_
    obtain ⟨r3, k3, hg, hf⟩ := bR_inv hf
    refine q_ci (rest := []) (ws' := (wX5_first cI cJ cZ cS a_t a_s a_keptS a_statuses a_pile a_tape a_steps a_wish a_mark a_bitsOf a_sizeOf a_number a_moved v_isKept v_taped v_at v_fault v_laid v_open v_s k3 v_pile v_mark)) (w1 := (wX5_orNone cI cJ cZ cS a_t a_s a_keptS a_statuses a_pile a_tape a_steps a_wish a_mark a_bitsOf a_sizeOf a_number a_moved v_isKept v_taped v_at v_fault v_laid v_open k3)) fx h [0, 2] rfl rfl rfl rfl (q_runV fx h hl.1 [0, 2] rfl rfl (tX5_orNone l D cI cJ cZ cS tb a_t a_s a_keptS a_statuses a_pile a_tape a_steps a_wish a_mark a_bitsOf a_sizeOf a_number a_moved H.size v_isKept v_taped v_at v_fault v_laid v_open v_statuses y2 r3 k3 hg) mvX5_orNone k_877 ⟨rfl, rfl⟩ ⟨Nat.le_of_ble_eq_true rfl, Nat.le_of_ble_eq_true rfl⟩ rfl rfl rfl rfl (Nat.le_of_ble_eq_true rfl) dX5_first_71 ⟨Nat.le_of_ble_eq_true rfl, Nat.le_of_ble_eq_true rfl⟩) (fun H locs h => ?_)
    exact q_reti (fun k : (Nat → Int32) × (Nat → Int32) × (Nat → Int32) => (wX5_first cI cJ cZ cS a_t a_s a_keptS a_statuses a_pile a_tape a_steps a_wish a_mark a_bitsOf a_sizeOf a_number a_moved v_isKept v_taped v_at v_fault v_laid v_open v_s k.1 k.2.1 k.2.2)) fx hf h dX5_first_74
  have hf := it_f c2 hf
  refine lv_iload_n hx hb dX5_first_31 rfl (lv_at hl 1 rfl) ?_
  refine lv_if_le (tgt := 61) hx hb dX5_first_32 (by decide) (fun c4 => ?_) (fun c4 => ?_)
  · have hf := it_t c4 hf
    exact LX5_first_61 fx hag27 h (lv_sub hl [0, 1, 2, 3] rfl) hf
  have hf := it_f c4 hf
  refine lv_aload_n hx hb dX5_first_35 rfl (lv_at hl 0 rfl) ?_
  refine q_get (v := .ref a_mark) fx inX5 h 0 rfl rfl 13 (by decide) k_649 rfl dX5_first_36 ?_
  refine lv_aload_n hx hb dX5_first_39 rfl (lv_at hl 0 rfl) ?_
  refine lv_aload_n hx hb dX5_first_40 rfl (lv_at hl 0 rfl) ?_
  refine q_get (v := .ref a_s) fx inX5 h 0 rfl rfl 0 (by decide) k_636 rfl dX5_first_41 ?_
  refine lv_iconst (v := 1) hx hb dX5_first_44 (by decide) ?_
  refine q_ialdK fx h 1 rfl 1 (vinK (by decide)) (by decide) dX5_first_45 ?_
  refine lv_iload_n hx hb dX5_first_46 rfl (lv_at hl 3 rfl) ?_
  obtain ⟨r5, k5, hg, hf⟩ := bR_inv hf
  refine q_ci (rest := [.ref a_mark]) (ws' := (wX5_first cI cJ cZ cS a_t a_s a_keptS a_statuses a_pile a_tape a_steps a_wish a_mark a_bitsOf a_sizeOf a_number a_moved v_isKept v_taped v_at v_fault v_laid v_open v_s v_statuses k5 v_mark)) (w1 := (wX5_called cI cJ cZ cS a_t a_s a_keptS a_statuses a_pile a_tape a_steps a_wish a_mark a_bitsOf a_sizeOf a_number a_moved v_isKept v_taped v_at v_fault v_laid v_open v_s k5)) fx h [0, 1, 3] rfl rfl rfl rfl (q_runV fx h hl.1 [0, 1, 3] rfl rfl (tX5_called l D cI cJ cZ cS tb a_t a_s a_keptS a_statuses a_pile a_tape a_steps a_wish a_mark a_bitsOf a_sizeOf a_number a_moved H.size v_isKept v_taped v_at v_fault v_laid v_open v_s v_pile (v_s 1) y3 r5 k5 hg) mvX5_called k_834 ⟨rfl, rfl⟩ ⟨Nat.le_of_ble_eq_true rfl, Nat.le_of_ble_eq_true rfl⟩ rfl rfl rfl rfl (Nat.le_of_ble_eq_true rfl) dX5_first_47 ⟨Nat.le_of_ble_eq_true rfl, Nat.le_of_ble_eq_true rfl⟩) (fun H locs h => ?_)
  obtain ⟨i6, hf⟩ := gIn_inv hf
  refine q_iald fx h 4 rfl i6 dX5_first_50 ?_
  refine lv_iload_n hx hb dX5_first_51 rfl (lv_at hl 1 rfl) ?_
  refine lv_iconst (v := 1) hx hb dX5_first_52 (by decide) ?_
  refine lv_isub hx hb dX5_first_53 ?_
  refine lv_icmp_ne (tgt := 61) hx hb dX5_first_54 (by decide) (fun c7 => ?_) (fun c7 => ?_)
  · have hf := it_f c7 hf
    exact LX5_first_61 fx hag27 h (lv_sub hl [0, 1, 2, 3] rfl) hf
  have hf := it_t c7 hf
  refine lv_iload_n hx hb dX5_first_57 rfl (lv_at hl 3 rfl) ?_
  refine lv_goto (tgt := 62) hx hb dX5_first_58 (by decide) ?_
  exact LX5_first_62 fx hag27 h (lv_sub hl [0, 1, 3] rfl) hf
set_option maxRecDepth 100000 in
theorem EX5_first_27 {p : Program} {l : Launch} {e : Env} {s : State} {m : MethodId} {args : Array Value} {below : List Frame} {meth : Method} {c : Code} {D : va_G} {cI cJ cZ cS : ClassId} {tb : Nat} {A : Nat → Prop} {a_t a_s a_keptS a_statuses a_pile a_tape a_steps a_wish a_mark a_bitsOf a_sizeOf a_number a_moved : Nat} {v_isKept : Int32} {v_taped : Int32} {v_at : Int32} {v_fault : Int32} {v_laid : Int32} {v_open : Int32} {v_s : Nat → Int32} {rr : Int32} {kk' : (Nat → Int32) × (Nat → Int32) × (Nat → Int32)} (fx : q_Fx p s m args meth c cX5_first 4 RX5 (some .int) D cI cJ cZ cS tb A) : ∀ (n : Nat), ∀ {v_statuses : Nat → Int32} {v_pile : Nat → Int32} {v_mark : Nat → Int32} {y1 : Int32} {y2 : Int32} {y3 : Int32} {H : Heap} {locs : List Loc} {ls : Array Slot}, q_H D A s (wX5_first cI cJ cZ cS a_t a_s a_keptS a_statuses a_pile a_tape a_steps a_wish a_mark a_bitsOf a_sizeOf a_number a_moved v_isKept v_taped v_at v_fault v_laid v_open v_s v_statuses v_pile v_mark) H locs → lv_has ls 4 [(0, .ref a_t), (1, .int y1), (2, .int y2), (3, .int y3)] → ll6 (fX5_first_27 v_s) n v_statuses v_pile v_mark y1 y2 y3 = some (rr, kk') → W p l e rX5_first s m args below meth c H locs 0 0 (MQ below (q_Ri D rr A ((fun k : (Nat → Int32) × (Nat → Int32) × (Nat → Int32) => (wX5_first cI cJ cZ cS a_t a_s a_keptS a_statuses a_pile a_tape a_steps a_wish a_mark a_bitsOf a_sizeOf a_number a_moved v_isKept v_taped v_at v_fault v_laid v_open v_s k.1 k.2.1 k.2.2)) kk')) args s 0 0 A) (F0 m 27 ls []) := by
  intro n
  induction n with
  | zero => intro v_statuses v_pile v_mark y1 y2 y3 H locs ls h hl hf; exact (ll6_z hf).elim
  | succ n ih => intro v_statuses v_pile v_mark y1 y2 y3 H locs ls h hl hf; exact LX5_first_27 fx ih h hl (ll6_s hf)
def fX5_first (v_s : Nat → Int32) (v_statuses : Nat → Int32) (v_pile : Nat → Int32) (v_mark : Nat → Int32) : Option (Int32 × (Nat → Int32) × (Nat → Int32) × (Nat → Int32)) :=
  bV (fX5_looksFar v_s v_pile v_mark) (fun k8 =>
  gIn (v_s 1) 256 (
  nm (k8.2 (v_s 1).toNatClampNeg) (fun u10 =>
  nm ((v_s 0) - 1) (fun u11 =>
  ll6 (fX5_first_27 v_s) qF v_statuses k8.1 k8.2 u10 (-1) u11))))
set_option maxRecDepth 100000 in
set_option maxHeartbeats 4000000 in
theorem tX5_first (l : Launch) (D : va_G) (cI cJ cZ cS : ClassId) (tb : Nat) (a_t a_s a_keptS a_statuses a_pile a_tape a_steps a_wish a_mark a_bitsOf a_sizeOf a_number a_moved : Nat) (sz : Nat) (v_isKept : Int32) (v_taped : Int32) (v_at : Int32) (v_fault : Int32) (v_laid : Int32) (v_open : Int32) (v_s : Nat → Int32) (v_statuses : Nat → Int32) (v_pile : Nat → Int32) (v_mark : Nat → Int32) (rr : Int32) (kk' : (Nat → Int32) × (Nat → Int32) × (Nat → Int32)) (hf : fX5_first v_s v_statuses v_pile v_mark = some (rr, kk')) : Met l yX5_first (Cond.code yX5_first cX5_first 4 (some .int) :: wA) rX5_first (q_Pre D cI cJ cZ cS tb [.ref a_t] sz (wX5_first cI cJ cZ cS a_t a_s a_keptS a_statuses a_pile a_tape a_steps a_wish a_mark a_bitsOf a_sizeOf a_number a_moved v_isKept v_taped v_at v_fault v_laid v_open v_s v_statuses v_pile v_mark)) (q_Ri D rr (va_A (wX5_first cI cJ cZ cS a_t a_s a_keptS a_statuses a_pile a_tape a_steps a_wish a_mark a_bitsOf a_sizeOf a_number a_moved v_isKept v_taped v_at v_fault v_laid v_open v_s v_statuses v_pile v_mark) sz) ((fun k : (Nat → Int32) × (Nat → Int32) × (Nat → Int32) => (wX5_first cI cJ cZ cS a_t a_s a_keptS a_statuses a_pile a_tape a_steps a_wish a_mark a_bitsOf a_sizeOf a_number a_moved v_isKept v_taped v_at v_fault v_laid v_open v_s k.1 k.2.1 k.2.2)) kk')) 0 0 (va_A (wX5_first cI cJ cZ cS a_t a_s a_keptS a_statuses a_pile a_tape a_steps a_wish a_mark a_bitsOf a_sizeOf a_number a_moved v_isKept v_taped v_at v_fault v_laid v_open v_s v_statuses v_pile v_mark) sz) := by
  refine q_enter (Qf := fun A => (q_Ri D rr A ((fun k : (Nat → Int32) × (Nat → Int32) × (Nat → Int32) => (wX5_first cI cJ cZ cS a_t a_s a_keptS a_statuses a_pile a_tape a_steps a_wish a_mark a_bitsOf a_sizeOf a_number a_moved v_isKept v_taped v_at v_fault v_laid v_open v_s k.1 k.2.1 k.2.2)) kk'))) (by decide) rfl (Nat.le_of_ble_eq_true rfl) ?_
  intro p e s m below meth c A ls fx hname h hl
  have hx := fx.1
  have hb := fx.2.1
  have hl : lv_has ls 4 [(0, .ref a_t)] := hl
  generalize h9 : s.heap = H at h ⊢
  clear h9
  generalize h9 : ([] : List Loc) = locs at h ⊢
  clear h9
  unfold fX5_first at hf
  refine lv_aload_n hx hb dX5_first_0 rfl (lv_at hl 0 rfl) ?_
  obtain ⟨k8, hg, hf⟩ := bV_inv hf
  refine q_cv (rest := []) (ws' := (wX5_first cI cJ cZ cS a_t a_s a_keptS a_statuses a_pile a_tape a_steps a_wish a_mark a_bitsOf a_sizeOf a_number a_moved v_isKept v_taped v_at v_fault v_laid v_open v_s v_statuses k8.1 k8.2)) (w1 := (wX5_looksFar cI cJ cZ cS a_t a_s a_keptS a_statuses a_pile a_tape a_steps a_wish a_mark a_bitsOf a_sizeOf a_number a_moved v_isKept v_taped v_at v_fault v_laid v_open v_s k8.1 k8.2)) fx h [0, 1, 3, 4] rfl rfl rfl rfl (q_runV fx h hl.1 [0, 1, 3, 4] rfl rfl (tX5_looksFar l D cI cJ cZ cS tb a_t a_s a_keptS a_statuses a_pile a_tape a_steps a_wish a_mark a_bitsOf a_sizeOf a_number a_moved H.size v_isKept v_taped v_at v_fault v_laid v_open v_s v_pile v_mark k8 hg) mvX5_looksFar k_873 ⟨rfl, rfl⟩ ⟨Nat.le_of_ble_eq_true rfl, Nat.le_of_ble_eq_true rfl⟩ rfl rfl rfl rfl (Nat.le_of_ble_eq_true rfl) dX5_first_1 ⟨Nat.le_of_ble_eq_true rfl, Nat.le_of_ble_eq_true rfl⟩) (fun H locs h => ?_)
  refine lv_aload_n hx hb dX5_first_4 rfl (lv_at hl 0 rfl) ?_
  refine q_get (v := .ref a_mark) fx inX5 h 0 rfl rfl 13 (by decide) k_649 rfl dX5_first_5 ?_
  refine lv_aload_n hx hb dX5_first_8 rfl (lv_at hl 0 rfl) ?_
  refine q_get (v := .ref a_s) fx inX5 h 0 rfl rfl 0 (by decide) k_636 rfl dX5_first_9 ?_
  refine lv_iconst (v := 1) hx hb dX5_first_12 (by decide) ?_
  refine q_ialdK fx h 1 rfl 1 (vinK (by decide)) (by decide) dX5_first_13 ?_
  obtain ⟨i9, hf⟩ := gIn_inv hf
  refine q_iald fx h 4 rfl i9 dX5_first_14 ?_
  obtain ⟨u10, eu10, hf⟩ := nm_inv hf
  refine lv_eqi eu10 ?_
  refine lv_istore_n (lv' := [(1, .int u10), (0, .ref a_t)]) hx hb dX5_first_15 rfl hl (by decide) rfl (fun ls hl => ?_)
  refine lv_iconst (v := -1) hx hb dX5_first_16 (by decide) ?_
  refine lv_istore_n (lv' := [(2, .int (-1)), (1, .int u10), (0, .ref a_t)]) hx hb dX5_first_17 rfl hl (by decide) rfl (fun ls hl => ?_)
  refine lv_aload_n hx hb dX5_first_18 rfl (lv_at hl 2 rfl) ?_
  refine q_get (v := .ref a_s) fx inX5 h 0 rfl rfl 0 (by decide) k_636 rfl dX5_first_19 ?_
  refine lv_iconst (v := 0) hx hb dX5_first_22 (by decide) ?_
  refine q_ialdK fx h 1 rfl 0 (vinK (by decide)) (by decide) dX5_first_23 ?_
  refine lv_iconst (v := 1) hx hb dX5_first_24 (by decide) ?_
  refine lv_isub hx hb dX5_first_25 ?_
  obtain ⟨u11, eu11, hf⟩ := nm_inv hf
  refine lv_eqi eu11 ?_
  refine lv_istore_n (lv' := [(3, .int u11), (2, .int (-1)), (1, .int u10), (0, .ref a_t)]) hx hb dX5_first_26 rfl hl (by decide) rfl (fun ls hl => ?_)
  exact EX5_first_27 fx qF h (lv_sub hl [3, 2, 1, 0] rfl) hf
/-! X5_manySettled -/
abbrev wX5_manySettled (cI cJ cZ cS : ClassId) (a_t a_s a_keptS a_statuses a_pile a_tape a_steps a_wish a_mark a_bitsOf a_sizeOf a_number a_moved : Nat) (v_isKept : Int32) (v_taped : Int32) (v_at : Int32) (v_fault : Int32) (v_laid : Int32) (v_open : Int32) (v_s : Nat → Int32) (v_pile : Nat → Int32) (v_wish : Nat → Int32) : va_W := [(a_t, .inr (5, [.ref a_s, .ref a_keptS, .ref a_statuses, .int v_isKept, .ref a_pile, .ref a_tape, .ref a_steps, .int v_taped, .int v_at, .int v_fault, .int v_laid, .int v_open, .ref a_wish, .ref a_mark, .ref a_bitsOf, .ref a_sizeOf, .ref a_number, .ref a_moved])), (a_s, .inl (cI, 538, .inl v_s)), (a_pile, .inl (cZ, 64, .inl v_pile)), (a_wish, .inl (cI, 256, .inl v_wish))]
abbrev rX5_manySettled : Room := { frames := 6, cells := 0, slots := 0, locals := 137 }
def fX5_manySettled_32 (v_s : Nat → Int32) (ag8 : (Nat → Int32) → (Nat → Int32) → Int32 → Int32 → Option (Int32 × (Nat → Int32) × (Nat → Int32))) (v_pile : Nat → Int32) (v_wish : Nat → Int32) (s0 : Int32) (s1 : Int32) (y2 : Int32) : Option (Int32 × (Nat → Int32) × (Nat → Int32)) :=
  nm (s0 + s1) (fun u1 =>
  nm (y2 + 1) (fun u2 =>
  ag8 v_pile v_wish u1 u2))
set_option maxRecDepth 100000 in
set_option maxHeartbeats 4000000 in
theorem LX5_manySettled_32 {p : Program} {l : Launch} {e : Env} {s : State} {m : MethodId} {args : Array Value} {below : List Frame} {meth : Method} {c : Code} {D : va_G} {cI cJ cZ cS : ClassId} {tb : Nat} {A : Nat → Prop} {a_t a_s a_keptS a_statuses a_pile a_tape a_steps a_wish a_mark a_bitsOf a_sizeOf a_number a_moved : Nat} {v_isKept : Int32} {v_taped : Int32} {v_at : Int32} {v_fault : Int32} {v_laid : Int32} {v_open : Int32} {v_s : Nat → Int32} {rr : Int32} {kk' : (Nat → Int32) × (Nat → Int32)} (fx : q_Fx p s m args meth c cX5_manySettled 3 RX5 (some .int) D cI cJ cZ cS tb A) {ag8 : (Nat → Int32) → (Nat → Int32) → Int32 → Int32 → Option (Int32 × (Nat → Int32) × (Nat → Int32))} (hag8 : ∀ {v_pile : Nat → Int32} {v_wish : Nat → Int32} {y1 : Int32} {y2 : Int32} {H : Heap} {locs : List Loc} {ls : Array Slot}, q_H D A s (wX5_manySettled cI cJ cZ cS a_t a_s a_keptS a_statuses a_pile a_tape a_steps a_wish a_mark a_bitsOf a_sizeOf a_number a_moved v_isKept v_taped v_at v_fault v_laid v_open v_s v_pile v_wish) H locs → lv_has ls 3 [(0, .ref a_t), (1, .int y1), (2, .int y2)] → ag8 v_pile v_wish y1 y2 = some (rr, kk') → W p l e rX5_manySettled s m args below meth c H locs 0 0 (MQ below (q_Ri D rr A ((fun k : (Nat → Int32) × (Nat → Int32) => (wX5_manySettled cI cJ cZ cS a_t a_s a_keptS a_statuses a_pile a_tape a_steps a_wish a_mark a_bitsOf a_sizeOf a_number a_moved v_isKept v_taped v_at v_fault v_laid v_open v_s k.1 k.2)) kk')) args s 0 0 A) (F0 m 8 ls [])) : ∀ {v_pile : Nat → Int32} {v_wish : Nat → Int32} {s0 : Int32} {s1 : Int32} {y2 : Int32} {H : Heap} {locs : List Loc} {ls : Array Slot}, q_H D A s (wX5_manySettled cI cJ cZ cS a_t a_s a_keptS a_statuses a_pile a_tape a_steps a_wish a_mark a_bitsOf a_sizeOf a_number a_moved v_isKept v_taped v_at v_fault v_laid v_open v_s v_pile v_wish) H locs → lv_has ls 3 [(0, .ref a_t), (2, .int y2)] → fX5_manySettled_32 v_s ag8 v_pile v_wish s0 s1 y2 = some (rr, kk') → W p l e rX5_manySettled s m args below meth c H locs 0 0 (MQ below (q_Ri D rr A ((fun k : (Nat → Int32) × (Nat → Int32) => (wX5_manySettled cI cJ cZ cS a_t a_s a_keptS a_statuses a_pile a_tape a_steps a_wish a_mark a_bitsOf a_sizeOf a_number a_moved v_isKept v_taped v_at v_fault v_laid v_open v_s k.1 k.2)) kk')) args s 0 0 A) (F0 m 32 ls [.int s1, .int s0]) := by
  intro v_pile v_wish s0 s1 y2 H locs ls h hl hf
  have hx := fx.1
  have hb := fx.2.1
  unfold fX5_manySettled_32 at hf
  refine lv_iadd hx hb dX5_manySettled_32 ?_
  obtain ⟨u1, eu1, hf⟩ := nm_inv hf
  refine lv_eqi eu1 ?_
  refine lv_istore_n (lv' := [(1, .int u1), (0, .ref a_t), (2, .int y2)]) hx hb dX5_manySettled_33 rfl hl (by decide) rfl (fun ls hl => ?_)
  obtain ⟨u2, eu2, hf⟩ := nm_inv hf
  refine lv_iinc (v := u2) (lv' := [(2, .int u2), (1, .int u1), (0, .ref a_t)]) hx hb dX5_manySettled_34 hl (k := 2) rfl (by rw [eu2]; rfl) (by decide) rfl (fun ls hl => ?_)
  refine lv_goto (tgt := 8) hx hb dX5_manySettled_37 (by decide) ?_
  exact hag8 h (lv_sub hl [2, 1, 0] rfl) hf
def fX5_manySettled_8 (v_s : Nat → Int32) (ag8 : (Nat → Int32) → (Nat → Int32) → Int32 → Int32 → Option (Int32 × (Nat → Int32) × (Nat → Int32))) (v_pile : Nat → Int32) (v_wish : Nat → Int32) (y1 : Int32) (y2 : Int32) : Option (Int32 × (Nat → Int32) × (Nat → Int32)) :=
  bR (fX5_lists v_s) (fun r3 k3 =>
  (if r3 ≤ y2 then (
  some (y1, (v_pile, v_wish)))
  else (
  gIn y2 256 (
  (if (v_wish y2.toNatClampNeg) = y2 then (
  fX5_manySettled_32 v_s ag8 v_pile v_wish y1 1 y2)
  else (
  fX5_manySettled_32 v_s ag8 v_pile v_wish y1 0 y2))))))
set_option maxRecDepth 100000 in
set_option maxHeartbeats 4000000 in
theorem LX5_manySettled_8 {p : Program} {l : Launch} {e : Env} {s : State} {m : MethodId} {args : Array Value} {below : List Frame} {meth : Method} {c : Code} {D : va_G} {cI cJ cZ cS : ClassId} {tb : Nat} {A : Nat → Prop} {a_t a_s a_keptS a_statuses a_pile a_tape a_steps a_wish a_mark a_bitsOf a_sizeOf a_number a_moved : Nat} {v_isKept : Int32} {v_taped : Int32} {v_at : Int32} {v_fault : Int32} {v_laid : Int32} {v_open : Int32} {v_s : Nat → Int32} {rr : Int32} {kk' : (Nat → Int32) × (Nat → Int32)} (fx : q_Fx p s m args meth c cX5_manySettled 3 RX5 (some .int) D cI cJ cZ cS tb A) {ag8 : (Nat → Int32) → (Nat → Int32) → Int32 → Int32 → Option (Int32 × (Nat → Int32) × (Nat → Int32))} (hag8 : ∀ {v_pile : Nat → Int32} {v_wish : Nat → Int32} {y1 : Int32} {y2 : Int32} {H : Heap} {locs : List Loc} {ls : Array Slot}, q_H D A s (wX5_manySettled cI cJ cZ cS a_t a_s a_keptS a_statuses a_pile a_tape a_steps a_wish a_mark a_bitsOf a_sizeOf a_number a_moved v_isKept v_taped v_at v_fault v_laid v_open v_s v_pile v_wish) H locs → lv_has ls 3 [(0, .ref a_t), (1, .int y1), (2, .int y2)] → ag8 v_pile v_wish y1 y2 = some (rr, kk') → W p l e rX5_manySettled s m args below meth c H locs 0 0 (MQ below (q_Ri D rr A ((fun k : (Nat → Int32) × (Nat → Int32) => (wX5_manySettled cI cJ cZ cS a_t a_s a_keptS a_statuses a_pile a_tape a_steps a_wish a_mark a_bitsOf a_sizeOf a_number a_moved v_isKept v_taped v_at v_fault v_laid v_open v_s k.1 k.2)) kk')) args s 0 0 A) (F0 m 8 ls [])) : ∀ {v_pile : Nat → Int32} {v_wish : Nat → Int32} {y1 : Int32} {y2 : Int32} {H : Heap} {locs : List Loc} {ls : Array Slot}, q_H D A s (wX5_manySettled cI cJ cZ cS a_t a_s a_keptS a_statuses a_pile a_tape a_steps a_wish a_mark a_bitsOf a_sizeOf a_number a_moved v_isKept v_taped v_at v_fault v_laid v_open v_s v_pile v_wish) H locs → lv_has ls 3 [(0, .ref a_t), (1, .int y1), (2, .int y2)] → fX5_manySettled_8 v_s ag8 v_pile v_wish y1 y2 = some (rr, kk') → W p l e rX5_manySettled s m args below meth c H locs 0 0 (MQ below (q_Ri D rr A ((fun k : (Nat → Int32) × (Nat → Int32) => (wX5_manySettled cI cJ cZ cS a_t a_s a_keptS a_statuses a_pile a_tape a_steps a_wish a_mark a_bitsOf a_sizeOf a_number a_moved v_isKept v_taped v_at v_fault v_laid v_open v_s k.1 k.2)) kk')) args s 0 0 A) (F0 m 8 ls []) := by
  intro v_pile v_wish y1 y2 H locs ls h hl hf
  have hx := fx.1
  have hb := fx.2.1
  unfold fX5_manySettled_8 at hf
  refine lv_iload_n hx hb dX5_manySettled_8 rfl (lv_at hl 2 rfl) ?_
  refine lv_aload_n hx hb dX5_manySettled_9 rfl (lv_at hl 0 rfl) ?_
  obtain ⟨r3, k3, hg, hf⟩ := bR_inv hf
  refine q_ci (rest := [.int y2]) (ws' := (wX5_manySettled cI cJ cZ cS a_t a_s a_keptS a_statuses a_pile a_tape a_steps a_wish a_mark a_bitsOf a_sizeOf a_number a_moved v_isKept v_taped v_at v_fault v_laid v_open v_s v_pile v_wish)) (w1 := (wX5_lists cI cJ cZ cS a_t a_s a_keptS a_statuses a_pile a_tape a_steps a_wish a_mark a_bitsOf a_sizeOf a_number a_moved v_isKept v_taped v_at v_fault v_laid v_open v_s)) fx h [0, 1] rfl rfl rfl rfl (q_runV fx h hl.1 [0, 1] rfl rfl (tX5_lists l D cI cJ cZ cS tb a_t a_s a_keptS a_statuses a_pile a_tape a_steps a_wish a_mark a_bitsOf a_sizeOf a_number a_moved H.size v_isKept v_taped v_at v_fault v_laid v_open v_s r3 k3 hg) mvX5_lists k_810 ⟨rfl, rfl⟩ ⟨Nat.le_of_ble_eq_true rfl, Nat.le_of_ble_eq_true rfl⟩ rfl rfl rfl rfl (Nat.le_of_ble_eq_true rfl) dX5_manySettled_10 ⟨Nat.le_of_ble_eq_true rfl, Nat.le_of_ble_eq_true rfl⟩) (fun H locs h => ?_)
  refine lv_icmp_ge (tgt := 40) hx hb dX5_manySettled_13 (by decide) (fun c4 => ?_) (fun c4 => ?_)
  · have hf := it_t c4 hf
    refine lv_iload_n hx hb dX5_manySettled_40 rfl (lv_at hl 1 rfl) ?_
    exact q_reti (fun k : (Nat → Int32) × (Nat → Int32) => (wX5_manySettled cI cJ cZ cS a_t a_s a_keptS a_statuses a_pile a_tape a_steps a_wish a_mark a_bitsOf a_sizeOf a_number a_moved v_isKept v_taped v_at v_fault v_laid v_open v_s k.1 k.2)) fx hf h dX5_manySettled_41
  have hf := it_f c4 hf
  refine lv_iload_n hx hb dX5_manySettled_16 rfl (lv_at hl 1 rfl) ?_
  refine lv_aload_n hx hb dX5_manySettled_17 rfl (lv_at hl 0 rfl) ?_
  refine q_get (v := .ref a_wish) fx inX5 h 0 rfl rfl 12 (by decide) k_648 rfl dX5_manySettled_18 ?_
  refine lv_iload_n hx hb dX5_manySettled_21 rfl (lv_at hl 2 rfl) ?_
  obtain ⟨i5, hf⟩ := gIn_inv hf
  refine q_iald fx h 3 rfl i5 dX5_manySettled_22 ?_
  refine lv_iload_n hx hb dX5_manySettled_23 rfl (lv_at hl 2 rfl) ?_
  refine lv_icmp_ne (tgt := 31) hx hb dX5_manySettled_24 (by decide) (fun c6 => ?_) (fun c6 => ?_)
  · have hf := it_f c6 hf
    refine lv_iconst (v := 0) hx hb dX5_manySettled_31 (by decide) ?_
    exact LX5_manySettled_32 fx hag8 h (lv_sub hl [0, 2] rfl) hf
  have hf := it_t c6 hf
  refine lv_iconst (v := 1) hx hb dX5_manySettled_27 (by decide) ?_
  refine lv_goto (tgt := 32) hx hb dX5_manySettled_28 (by decide) ?_
  exact LX5_manySettled_32 fx hag8 h (lv_sub hl [0, 2] rfl) hf
set_option maxRecDepth 100000 in
theorem EX5_manySettled_8 {p : Program} {l : Launch} {e : Env} {s : State} {m : MethodId} {args : Array Value} {below : List Frame} {meth : Method} {c : Code} {D : va_G} {cI cJ cZ cS : ClassId} {tb : Nat} {A : Nat → Prop} {a_t a_s a_keptS a_statuses a_pile a_tape a_steps a_wish a_mark a_bitsOf a_sizeOf a_number a_moved : Nat} {v_isKept : Int32} {v_taped : Int32} {v_at : Int32} {v_fault : Int32} {v_laid : Int32} {v_open : Int32} {v_s : Nat → Int32} {rr : Int32} {kk' : (Nat → Int32) × (Nat → Int32)} (fx : q_Fx p s m args meth c cX5_manySettled 3 RX5 (some .int) D cI cJ cZ cS tb A) : ∀ (n : Nat), ∀ {v_pile : Nat → Int32} {v_wish : Nat → Int32} {y1 : Int32} {y2 : Int32} {H : Heap} {locs : List Loc} {ls : Array Slot}, q_H D A s (wX5_manySettled cI cJ cZ cS a_t a_s a_keptS a_statuses a_pile a_tape a_steps a_wish a_mark a_bitsOf a_sizeOf a_number a_moved v_isKept v_taped v_at v_fault v_laid v_open v_s v_pile v_wish) H locs → lv_has ls 3 [(0, .ref a_t), (1, .int y1), (2, .int y2)] → ll4 (fX5_manySettled_8 v_s) n v_pile v_wish y1 y2 = some (rr, kk') → W p l e rX5_manySettled s m args below meth c H locs 0 0 (MQ below (q_Ri D rr A ((fun k : (Nat → Int32) × (Nat → Int32) => (wX5_manySettled cI cJ cZ cS a_t a_s a_keptS a_statuses a_pile a_tape a_steps a_wish a_mark a_bitsOf a_sizeOf a_number a_moved v_isKept v_taped v_at v_fault v_laid v_open v_s k.1 k.2)) kk')) args s 0 0 A) (F0 m 8 ls []) := by
  intro n
  induction n with
  | zero => intro v_pile v_wish y1 y2 H locs ls h hl hf; exact (ll4_z hf).elim
  | succ n ih => intro v_pile v_wish y1 y2 H locs ls h hl hf; exact LX5_manySettled_8 fx ih h hl (ll4_s hf)
def fX5_manySettled (v_s : Nat → Int32) (v_pile : Nat → Int32) (v_wish : Nat → Int32) : Option (Int32 × (Nat → Int32) × (Nat → Int32)) :=
  bV (fX5_looksAll v_s v_pile v_wish) (fun k7 =>
  ll4 (fX5_manySettled_8 v_s) qF k7.1 k7.2 0 0)
set_option maxRecDepth 100000 in
set_option maxHeartbeats 4000000 in
theorem tX5_manySettled (l : Launch) (D : va_G) (cI cJ cZ cS : ClassId) (tb : Nat) (a_t a_s a_keptS a_statuses a_pile a_tape a_steps a_wish a_mark a_bitsOf a_sizeOf a_number a_moved : Nat) (sz : Nat) (v_isKept : Int32) (v_taped : Int32) (v_at : Int32) (v_fault : Int32) (v_laid : Int32) (v_open : Int32) (v_s : Nat → Int32) (v_pile : Nat → Int32) (v_wish : Nat → Int32) (rr : Int32) (kk' : (Nat → Int32) × (Nat → Int32)) (hf : fX5_manySettled v_s v_pile v_wish = some (rr, kk')) : Met l yX5_manySettled (Cond.code yX5_manySettled cX5_manySettled 3 (some .int) :: wA) rX5_manySettled (q_Pre D cI cJ cZ cS tb [.ref a_t] sz (wX5_manySettled cI cJ cZ cS a_t a_s a_keptS a_statuses a_pile a_tape a_steps a_wish a_mark a_bitsOf a_sizeOf a_number a_moved v_isKept v_taped v_at v_fault v_laid v_open v_s v_pile v_wish)) (q_Ri D rr (va_A (wX5_manySettled cI cJ cZ cS a_t a_s a_keptS a_statuses a_pile a_tape a_steps a_wish a_mark a_bitsOf a_sizeOf a_number a_moved v_isKept v_taped v_at v_fault v_laid v_open v_s v_pile v_wish) sz) ((fun k : (Nat → Int32) × (Nat → Int32) => (wX5_manySettled cI cJ cZ cS a_t a_s a_keptS a_statuses a_pile a_tape a_steps a_wish a_mark a_bitsOf a_sizeOf a_number a_moved v_isKept v_taped v_at v_fault v_laid v_open v_s k.1 k.2)) kk')) 0 0 (va_A (wX5_manySettled cI cJ cZ cS a_t a_s a_keptS a_statuses a_pile a_tape a_steps a_wish a_mark a_bitsOf a_sizeOf a_number a_moved v_isKept v_taped v_at v_fault v_laid v_open v_s v_pile v_wish) sz) := by
  refine q_enter (Qf := fun A => (q_Ri D rr A ((fun k : (Nat → Int32) × (Nat → Int32) => (wX5_manySettled cI cJ cZ cS a_t a_s a_keptS a_statuses a_pile a_tape a_steps a_wish a_mark a_bitsOf a_sizeOf a_number a_moved v_isKept v_taped v_at v_fault v_laid v_open v_s k.1 k.2)) kk'))) (by decide) rfl (Nat.le_of_ble_eq_true rfl) ?_
  intro p e s m below meth c A ls fx hname h hl
  have hx := fx.1
  have hb := fx.2.1
  have hl : lv_has ls 3 [(0, .ref a_t)] := hl
  generalize h9 : s.heap = H at h ⊢
  clear h9
  generalize h9 : ([] : List Loc) = locs at h ⊢
  clear h9
  unfold fX5_manySettled at hf
  refine lv_aload_n hx hb dX5_manySettled_0 rfl (lv_at hl 0 rfl) ?_
  obtain ⟨k7, hg, hf⟩ := bV_inv hf
  refine q_cv (rest := []) (ws' := (wX5_manySettled cI cJ cZ cS a_t a_s a_keptS a_statuses a_pile a_tape a_steps a_wish a_mark a_bitsOf a_sizeOf a_number a_moved v_isKept v_taped v_at v_fault v_laid v_open v_s k7.1 k7.2)) (w1 := (wX5_looksAll cI cJ cZ cS a_t a_s a_keptS a_statuses a_pile a_tape a_steps a_wish a_mark a_bitsOf a_sizeOf a_number a_moved v_isKept v_taped v_at v_fault v_laid v_open v_s k7.1 k7.2)) fx h [0, 1, 2, 3] rfl rfl rfl rfl (q_runV fx h hl.1 [0, 1, 2, 3] rfl rfl (tX5_looksAll l D cI cJ cZ cS tb a_t a_s a_keptS a_statuses a_pile a_tape a_steps a_wish a_mark a_bitsOf a_sizeOf a_number a_moved H.size v_isKept v_taped v_at v_fault v_laid v_open v_s v_pile v_wish k7 hg) mvX5_looksAll k_860 ⟨rfl, rfl⟩ ⟨Nat.le_of_ble_eq_true rfl, Nat.le_of_ble_eq_true rfl⟩ rfl rfl rfl rfl (Nat.le_of_ble_eq_true rfl) dX5_manySettled_1 ⟨Nat.le_of_ble_eq_true rfl, Nat.le_of_ble_eq_true rfl⟩) (fun H locs h => ?_)
  refine lv_iconst (v := 0) hx hb dX5_manySettled_4 (by decide) ?_
  refine lv_istore_n (lv' := [(1, .int 0), (0, .ref a_t)]) hx hb dX5_manySettled_5 rfl hl (by decide) rfl (fun ls hl => ?_)
  refine lv_iconst (v := 0) hx hb dX5_manySettled_6 (by decide) ?_
  refine lv_istore_n (lv' := [(2, .int 0), (1, .int 0), (0, .ref a_t)]) hx hb dX5_manySettled_7 rfl hl (by decide) rfl (fun ls hl => ?_)
  exact EX5_manySettled_8 fx qF h (lv_sub hl [2, 1, 0] rfl) hf
/-! X5_settled -/
abbrev wX5_settled (cI cJ cZ cS : ClassId) (a_t a_s a_keptS a_statuses a_pile a_tape a_steps a_wish a_mark a_bitsOf a_sizeOf a_number a_moved : Nat) (v_isKept : Int32) (v_taped : Int32) (v_at : Int32) (v_fault : Int32) (v_laid : Int32) (v_open : Int32) (v_s : Nat → Int32) (v_pile : Nat → Int32) (v_wish : Nat → Int32) : va_W := [(a_t, .inr (5, [.ref a_s, .ref a_keptS, .ref a_statuses, .int v_isKept, .ref a_pile, .ref a_tape, .ref a_steps, .int v_taped, .int v_at, .int v_fault, .int v_laid, .int v_open, .ref a_wish, .ref a_mark, .ref a_bitsOf, .ref a_sizeOf, .ref a_number, .ref a_moved])), (a_s, .inl (cI, 538, .inl v_s)), (a_pile, .inl (cZ, 64, .inl v_pile)), (a_wish, .inl (cI, 256, .inl v_wish))]
abbrev rX5_settled : Room := { frames := 7, cells := 0, slots := 0, locals := 159 }
def fX5_settled (v_s : Nat → Int32) (v_pile : Nat → Int32) (v_wish : Nat → Int32) : Option (Int32 × (Nat → Int32) × (Nat → Int32)) :=
  bR (fX5_manySettled v_s v_pile v_wish) (fun r1 k1 =>
  some (r1, (k1.1, k1.2)))
set_option maxRecDepth 100000 in
set_option maxHeartbeats 4000000 in
theorem tX5_settled (l : Launch) (D : va_G) (cI cJ cZ cS : ClassId) (tb : Nat) (a_t a_s a_keptS a_statuses a_pile a_tape a_steps a_wish a_mark a_bitsOf a_sizeOf a_number a_moved : Nat) (sz : Nat) (v_isKept : Int32) (v_taped : Int32) (v_at : Int32) (v_fault : Int32) (v_laid : Int32) (v_open : Int32) (v_s : Nat → Int32) (v_pile : Nat → Int32) (v_wish : Nat → Int32) (rr : Int32) (kk' : (Nat → Int32) × (Nat → Int32)) (hf : fX5_settled v_s v_pile v_wish = some (rr, kk')) : Met l yX5_settled (Cond.code yX5_settled cX5_settled 1 (some .int) :: wA) rX5_settled (q_Pre D cI cJ cZ cS tb [.ref a_t] sz (wX5_settled cI cJ cZ cS a_t a_s a_keptS a_statuses a_pile a_tape a_steps a_wish a_mark a_bitsOf a_sizeOf a_number a_moved v_isKept v_taped v_at v_fault v_laid v_open v_s v_pile v_wish)) (q_Ri D rr (va_A (wX5_settled cI cJ cZ cS a_t a_s a_keptS a_statuses a_pile a_tape a_steps a_wish a_mark a_bitsOf a_sizeOf a_number a_moved v_isKept v_taped v_at v_fault v_laid v_open v_s v_pile v_wish) sz) ((fun k : (Nat → Int32) × (Nat → Int32) => (wX5_settled cI cJ cZ cS a_t a_s a_keptS a_statuses a_pile a_tape a_steps a_wish a_mark a_bitsOf a_sizeOf a_number a_moved v_isKept v_taped v_at v_fault v_laid v_open v_s k.1 k.2)) kk')) 0 0 (va_A (wX5_settled cI cJ cZ cS a_t a_s a_keptS a_statuses a_pile a_tape a_steps a_wish a_mark a_bitsOf a_sizeOf a_number a_moved v_isKept v_taped v_at v_fault v_laid v_open v_s v_pile v_wish) sz) := by
  refine q_enter (Qf := fun A => (q_Ri D rr A ((fun k : (Nat → Int32) × (Nat → Int32) => (wX5_settled cI cJ cZ cS a_t a_s a_keptS a_statuses a_pile a_tape a_steps a_wish a_mark a_bitsOf a_sizeOf a_number a_moved v_isKept v_taped v_at v_fault v_laid v_open v_s k.1 k.2)) kk'))) (by decide) rfl (Nat.le_of_ble_eq_true rfl) ?_
  intro p e s m below meth c A ls fx hname h hl
  have hx := fx.1
  have hb := fx.2.1
  have hl : lv_has ls 1 [(0, .ref a_t)] := hl
  generalize h9 : s.heap = H at h ⊢
  clear h9
  generalize h9 : ([] : List Loc) = locs at h ⊢
  clear h9
  unfold fX5_settled at hf
  refine lv_aload_n hx hb dX5_settled_0 rfl (lv_at hl 0 rfl) ?_
  obtain ⟨r1, k1, hg, hf⟩ := bR_inv hf
  refine q_ci (rest := []) (ws' := (wX5_settled cI cJ cZ cS a_t a_s a_keptS a_statuses a_pile a_tape a_steps a_wish a_mark a_bitsOf a_sizeOf a_number a_moved v_isKept v_taped v_at v_fault v_laid v_open v_s k1.1 k1.2)) (w1 := (wX5_manySettled cI cJ cZ cS a_t a_s a_keptS a_statuses a_pile a_tape a_steps a_wish a_mark a_bitsOf a_sizeOf a_number a_moved v_isKept v_taped v_at v_fault v_laid v_open v_s k1.1 k1.2)) fx h [0, 1, 2, 3] rfl rfl rfl rfl (q_runV fx h hl.1 [0, 1, 2, 3] rfl rfl (tX5_manySettled l D cI cJ cZ cS tb a_t a_s a_keptS a_statuses a_pile a_tape a_steps a_wish a_mark a_bitsOf a_sizeOf a_number a_moved H.size v_isKept v_taped v_at v_fault v_laid v_open v_s v_pile v_wish r1 k1 hg) mvX5_manySettled k_889 ⟨rfl, rfl⟩ ⟨Nat.le_of_ble_eq_true rfl, Nat.le_of_ble_eq_true rfl⟩ rfl rfl rfl rfl (Nat.le_of_ble_eq_true rfl) dX5_settled_1 ⟨Nat.le_of_ble_eq_true rfl, Nat.le_of_ble_eq_true rfl⟩) (fun H locs h => ?_)
  exact q_reti (fun k : (Nat → Int32) × (Nat → Int32) => (wX5_settled cI cJ cZ cS a_t a_s a_keptS a_statuses a_pile a_tape a_steps a_wish a_mark a_bitsOf a_sizeOf a_number a_moved v_isKept v_taped v_at v_fault v_laid v_open v_s k.1 k.2)) fx hf h dX5_settled_4
/-! X5_ith -/
abbrev wX5_ith (cI cJ cZ cS : ClassId) (a_t a_s a_keptS a_statuses a_pile a_tape a_steps a_wish a_mark a_bitsOf a_sizeOf a_number a_moved : Nat) (v_isKept : Int32) (v_taped : Int32) (v_at : Int32) (v_fault : Int32) (v_laid : Int32) (v_open : Int32) (v_s : Nat → Int32) (v_statuses : Nat → Int32) (v_pile : Nat → Int32) (v_wish : Nat → Int32) : va_W := [(a_t, .inr (5, [.ref a_s, .ref a_keptS, .ref a_statuses, .int v_isKept, .ref a_pile, .ref a_tape, .ref a_steps, .int v_taped, .int v_at, .int v_fault, .int v_laid, .int v_open, .ref a_wish, .ref a_mark, .ref a_bitsOf, .ref a_sizeOf, .ref a_number, .ref a_moved])), (a_s, .inl (cI, 538, .inl v_s)), (a_statuses, .inl (cI, 7, .inl v_statuses)), (a_pile, .inl (cZ, 64, .inl v_pile)), (a_wish, .inl (cI, 256, .inl v_wish))]
abbrev rX5_ith : Room := { frames := 6, cells := 0, slots := 0, locals := 137 }
def fX5_ith_46 (v_s : Nat → Int32) (ag19 : (Nat → Int32) → (Nat → Int32) → (Nat → Int32) → Int32 → Int32 → Option (Int32 × (Nat → Int32) × (Nat → Int32) × (Nat → Int32))) (v_statuses : Nat → Int32) (v_pile : Nat → Int32) (v_wish : Nat → Int32) (y2 : Int32) (y3 : Int32) : Option (Int32 × (Nat → Int32) × (Nat → Int32) × (Nat → Int32)) :=
  nm (y3 + 1) (fun u1 =>
  ag19 v_statuses v_pile v_wish y2 u1)
set_option maxRecDepth 100000 in
set_option maxHeartbeats 4000000 in
theorem LX5_ith_46 {p : Program} {l : Launch} {e : Env} {s : State} {m : MethodId} {args : Array Value} {below : List Frame} {meth : Method} {c : Code} {D : va_G} {cI cJ cZ cS : ClassId} {tb : Nat} {A : Nat → Prop} {a_t a_s a_keptS a_statuses a_pile a_tape a_steps a_wish a_mark a_bitsOf a_sizeOf a_number a_moved : Nat} {v_isKept : Int32} {v_taped : Int32} {v_at : Int32} {v_fault : Int32} {v_laid : Int32} {v_open : Int32} {v_s : Nat → Int32} {rr : Int32} {kk' : (Nat → Int32) × (Nat → Int32) × (Nat → Int32)} (fx : q_Fx p s m args meth c cX5_ith 4 RX5 (some .int) D cI cJ cZ cS tb A) {ag19 : (Nat → Int32) → (Nat → Int32) → (Nat → Int32) → Int32 → Int32 → Option (Int32 × (Nat → Int32) × (Nat → Int32) × (Nat → Int32))} (hag19 : ∀ {v_statuses : Nat → Int32} {v_pile : Nat → Int32} {v_wish : Nat → Int32} {y2 : Int32} {y3 : Int32} {H : Heap} {locs : List Loc} {ls : Array Slot}, q_H D A s (wX5_ith cI cJ cZ cS a_t a_s a_keptS a_statuses a_pile a_tape a_steps a_wish a_mark a_bitsOf a_sizeOf a_number a_moved v_isKept v_taped v_at v_fault v_laid v_open v_s v_statuses v_pile v_wish) H locs → lv_has ls 4 [(0, .ref a_t), (2, .int y2), (3, .int y3)] → ag19 v_statuses v_pile v_wish y2 y3 = some (rr, kk') → W p l e rX5_ith s m args below meth c H locs 0 0 (MQ below (q_Ri D rr A ((fun k : (Nat → Int32) × (Nat → Int32) × (Nat → Int32) => (wX5_ith cI cJ cZ cS a_t a_s a_keptS a_statuses a_pile a_tape a_steps a_wish a_mark a_bitsOf a_sizeOf a_number a_moved v_isKept v_taped v_at v_fault v_laid v_open v_s k.1 k.2.1 k.2.2)) kk')) args s 0 0 A) (F0 m 19 ls [])) : ∀ {v_statuses : Nat → Int32} {v_pile : Nat → Int32} {v_wish : Nat → Int32} {y2 : Int32} {y3 : Int32} {H : Heap} {locs : List Loc} {ls : Array Slot}, q_H D A s (wX5_ith cI cJ cZ cS a_t a_s a_keptS a_statuses a_pile a_tape a_steps a_wish a_mark a_bitsOf a_sizeOf a_number a_moved v_isKept v_taped v_at v_fault v_laid v_open v_s v_statuses v_pile v_wish) H locs → lv_has ls 4 [(0, .ref a_t), (2, .int y2), (3, .int y3)] → fX5_ith_46 v_s ag19 v_statuses v_pile v_wish y2 y3 = some (rr, kk') → W p l e rX5_ith s m args below meth c H locs 0 0 (MQ below (q_Ri D rr A ((fun k : (Nat → Int32) × (Nat → Int32) × (Nat → Int32) => (wX5_ith cI cJ cZ cS a_t a_s a_keptS a_statuses a_pile a_tape a_steps a_wish a_mark a_bitsOf a_sizeOf a_number a_moved v_isKept v_taped v_at v_fault v_laid v_open v_s k.1 k.2.1 k.2.2)) kk')) args s 0 0 A) (F0 m 46 ls []) := by
  intro v_statuses v_pile v_wish y2 y3 H locs ls h hl hf
  have hx := fx.1
  have hb := fx.2.1
  unfold fX5_ith_46 at hf
  obtain ⟨u1, eu1, hf⟩ := nm_inv hf
  refine lv_iinc (v := u1) (lv' := [(3, .int u1), (0, .ref a_t), (2, .int y2)]) hx hb dX5_ith_46 hl (k := 2) rfl (by rw [eu1]; rfl) (by decide) rfl (fun ls hl => ?_)
  refine lv_goto (tgt := 19) hx hb dX5_ith_49 (by decide) ?_
  exact hag19 h (lv_sub hl [1, 2, 0] rfl) hf
def fX5_ith_19 (v_s : Nat → Int32) (ag19 : (Nat → Int32) → (Nat → Int32) → (Nat → Int32) → Int32 → Int32 → Option (Int32 × (Nat → Int32) × (Nat → Int32) × (Nat → Int32))) (v_statuses : Nat → Int32) (v_pile : Nat → Int32) (v_wish : Nat → Int32) (y2 : Int32) (y3 : Int32) : Option (Int32 × (Nat → Int32) × (Nat → Int32) × (Nat → Int32)) :=
  bR (fX5_lists v_s) (fun r2 k2 =>
  (if r2 ≤ y3 then (
  bR (fX5_finds v_statuses (-1000000004)) (fun r4 k4 =>
  some (r4, (k4, v_pile, v_wish))))
  else (
  gIn y3 256 (
  (if (v_wish y3.toNatClampNeg) = y3 then (
  (if y2 = 0 then (
  some (y3, (v_statuses, v_pile, v_wish)))
  else (
  nm (y2 + (-1)) (fun u8 =>
  fX5_ith_46 v_s ag19 v_statuses v_pile v_wish u8 y3))))
  else (
  fX5_ith_46 v_s ag19 v_statuses v_pile v_wish y2 y3))))))
set_option maxRecDepth 100000 in
set_option maxHeartbeats 4000000 in
theorem LX5_ith_19 {p : Program} {l : Launch} {e : Env} {s : State} {m : MethodId} {args : Array Value} {below : List Frame} {meth : Method} {c : Code} {D : va_G} {cI cJ cZ cS : ClassId} {tb : Nat} {A : Nat → Prop} {a_t a_s a_keptS a_statuses a_pile a_tape a_steps a_wish a_mark a_bitsOf a_sizeOf a_number a_moved : Nat} {v_isKept : Int32} {v_taped : Int32} {v_at : Int32} {v_fault : Int32} {v_laid : Int32} {v_open : Int32} {v_s : Nat → Int32} {rr : Int32} {kk' : (Nat → Int32) × (Nat → Int32) × (Nat → Int32)} (fx : q_Fx p s m args meth c cX5_ith 4 RX5 (some .int) D cI cJ cZ cS tb A) {ag19 : (Nat → Int32) → (Nat → Int32) → (Nat → Int32) → Int32 → Int32 → Option (Int32 × (Nat → Int32) × (Nat → Int32) × (Nat → Int32))} (hag19 : ∀ {v_statuses : Nat → Int32} {v_pile : Nat → Int32} {v_wish : Nat → Int32} {y2 : Int32} {y3 : Int32} {H : Heap} {locs : List Loc} {ls : Array Slot}, q_H D A s (wX5_ith cI cJ cZ cS a_t a_s a_keptS a_statuses a_pile a_tape a_steps a_wish a_mark a_bitsOf a_sizeOf a_number a_moved v_isKept v_taped v_at v_fault v_laid v_open v_s v_statuses v_pile v_wish) H locs → lv_has ls 4 [(0, .ref a_t), (2, .int y2), (3, .int y3)] → ag19 v_statuses v_pile v_wish y2 y3 = some (rr, kk') → W p l e rX5_ith s m args below meth c H locs 0 0 (MQ below (q_Ri D rr A ((fun k : (Nat → Int32) × (Nat → Int32) × (Nat → Int32) => (wX5_ith cI cJ cZ cS a_t a_s a_keptS a_statuses a_pile a_tape a_steps a_wish a_mark a_bitsOf a_sizeOf a_number a_moved v_isKept v_taped v_at v_fault v_laid v_open v_s k.1 k.2.1 k.2.2)) kk')) args s 0 0 A) (F0 m 19 ls [])) : ∀ {v_statuses : Nat → Int32} {v_pile : Nat → Int32} {v_wish : Nat → Int32} {y2 : Int32} {y3 : Int32} {H : Heap} {locs : List Loc} {ls : Array Slot}, q_H D A s (wX5_ith cI cJ cZ cS a_t a_s a_keptS a_statuses a_pile a_tape a_steps a_wish a_mark a_bitsOf a_sizeOf a_number a_moved v_isKept v_taped v_at v_fault v_laid v_open v_s v_statuses v_pile v_wish) H locs → lv_has ls 4 [(0, .ref a_t), (2, .int y2), (3, .int y3)] → fX5_ith_19 v_s ag19 v_statuses v_pile v_wish y2 y3 = some (rr, kk') → W p l e rX5_ith s m args below meth c H locs 0 0 (MQ below (q_Ri D rr A ((fun k : (Nat → Int32) × (Nat → Int32) × (Nat → Int32) => (wX5_ith cI cJ cZ cS a_t a_s a_keptS a_statuses a_pile a_tape a_steps a_wish a_mark a_bitsOf a_sizeOf a_number a_moved v_isKept v_taped v_at v_fault v_laid v_open v_s k.1 k.2.1 k.2.2)) kk')) args s 0 0 A) (F0 m 19 ls []) := by
  intro v_statuses v_pile v_wish y2 y3 H locs ls h hl hf
  have hx := fx.1
  have hb := fx.2.1
  unfold fX5_ith_19 at hf
  refine lv_iload_n hx hb dX5_ith_19 rfl (lv_at hl 2 rfl) ?_
  refine lv_aload_n hx hb dX5_ith_20 rfl (lv_at hl 0 rfl) ?_
  obtain ⟨r2, k2, hg, hf⟩ := bR_inv hf
  refine q_ci (rest := [.int y3]) (ws' := (wX5_ith cI cJ cZ cS a_t a_s a_keptS a_statuses a_pile a_tape a_steps a_wish a_mark a_bitsOf a_sizeOf a_number a_moved v_isKept v_taped v_at v_fault v_laid v_open v_s v_statuses v_pile v_wish)) (w1 := (wX5_lists cI cJ cZ cS a_t a_s a_keptS a_statuses a_pile a_tape a_steps a_wish a_mark a_bitsOf a_sizeOf a_number a_moved v_isKept v_taped v_at v_fault v_laid v_open v_s)) fx h [0, 1] rfl rfl rfl rfl (q_runV fx h hl.1 [0, 1] rfl rfl (tX5_lists l D cI cJ cZ cS tb a_t a_s a_keptS a_statuses a_pile a_tape a_steps a_wish a_mark a_bitsOf a_sizeOf a_number a_moved H.size v_isKept v_taped v_at v_fault v_laid v_open v_s r2 k2 hg) mvX5_lists k_810 ⟨rfl, rfl⟩ ⟨Nat.le_of_ble_eq_true rfl, Nat.le_of_ble_eq_true rfl⟩ rfl rfl rfl rfl (Nat.le_of_ble_eq_true rfl) dX5_ith_21 ⟨Nat.le_of_ble_eq_true rfl, Nat.le_of_ble_eq_true rfl⟩) (fun H locs h => ?_)
  refine lv_icmp_ge (tgt := 52) hx hb dX5_ith_24 (by decide) (fun c3 => ?_) (fun c3 => ?_)
  · have hf := it_t c3 hf
    refine lv_aload_n hx hb dX5_ith_52 rfl (lv_at hl 0 rfl) ?_
    refine q_ldc fx k_864 dX5_ith_53 ?_
    obtain ⟨r4, k4, hg, hf⟩ := bR_inv hf
    refine q_ci (rest := []) (ws' := (wX5_ith cI cJ cZ cS a_t a_s a_keptS a_statuses a_pile a_tape a_steps a_wish a_mark a_bitsOf a_sizeOf a_number a_moved v_isKept v_taped v_at v_fault v_laid v_open v_s k4 v_pile v_wish)) (w1 := (wX5_finds cI cJ cZ cS a_t a_s a_keptS a_statuses a_pile a_tape a_steps a_wish a_mark a_bitsOf a_sizeOf a_number a_moved v_isKept v_taped v_at v_fault v_laid v_open k4)) fx h [0, 2] rfl rfl rfl rfl (q_runV fx h hl.1 [0, 2] rfl rfl (tX5_finds l D cI cJ cZ cS tb a_t a_s a_keptS a_statuses a_pile a_tape a_steps a_wish a_mark a_bitsOf a_sizeOf a_number a_moved H.size v_isKept v_taped v_at v_fault v_laid v_open v_statuses (-1000000004) r4 k4 hg) mvX5_finds k_702 ⟨rfl, rfl⟩ ⟨Nat.le_of_ble_eq_true rfl, Nat.le_of_ble_eq_true rfl⟩ rfl rfl rfl rfl (Nat.le_of_ble_eq_true rfl) dX5_ith_55 ⟨Nat.le_of_ble_eq_true rfl, Nat.le_of_ble_eq_true rfl⟩) (fun H locs h => ?_)
    exact q_reti (fun k : (Nat → Int32) × (Nat → Int32) × (Nat → Int32) => (wX5_ith cI cJ cZ cS a_t a_s a_keptS a_statuses a_pile a_tape a_steps a_wish a_mark a_bitsOf a_sizeOf a_number a_moved v_isKept v_taped v_at v_fault v_laid v_open v_s k.1 k.2.1 k.2.2)) fx hf h dX5_ith_58
  have hf := it_f c3 hf
  refine lv_aload_n hx hb dX5_ith_27 rfl (lv_at hl 0 rfl) ?_
  refine q_get (v := .ref a_wish) fx inX5 h 0 rfl rfl 12 (by decide) k_648 rfl dX5_ith_28 ?_
  refine lv_iload_n hx hb dX5_ith_31 rfl (lv_at hl 2 rfl) ?_
  obtain ⟨i5, hf⟩ := gIn_inv hf
  refine q_iald fx h 4 rfl i5 dX5_ith_32 ?_
  refine lv_iload_n hx hb dX5_ith_33 rfl (lv_at hl 2 rfl) ?_
  refine lv_icmp_ne (tgt := 46) hx hb dX5_ith_34 (by decide) (fun c6 => ?_) (fun c6 => ?_)
  · have hf := it_f c6 hf
    exact LX5_ith_46 fx hag19 h (lv_sub hl [0, 1, 2] rfl) hf
  have hf := it_t c6 hf
  refine lv_iload_n hx hb dX5_ith_37 rfl (lv_at hl 1 rfl) ?_
  refine lv_if_ne (tgt := 43) hx hb dX5_ith_38 (by decide) (fun c7 => ?_) (fun c7 => ?_)
  · have hf := it_f c7 hf
    obtain ⟨u8, eu8, hf⟩ := nm_inv hf
    refine lv_iinc (v := u8) (lv' := [(2, .int u8), (0, .ref a_t), (3, .int y3)]) hx hb dX5_ith_43 hl (k := 1) rfl (by rw [eu8]; rfl) (by decide) rfl (fun ls hl => ?_)
    exact LX5_ith_46 fx hag19 h (lv_sub hl [1, 0, 2] rfl) hf
  have hf := it_t c7 hf
  refine lv_iload_n hx hb dX5_ith_41 rfl (lv_at hl 2 rfl) ?_
  exact q_reti (fun k : (Nat → Int32) × (Nat → Int32) × (Nat → Int32) => (wX5_ith cI cJ cZ cS a_t a_s a_keptS a_statuses a_pile a_tape a_steps a_wish a_mark a_bitsOf a_sizeOf a_number a_moved v_isKept v_taped v_at v_fault v_laid v_open v_s k.1 k.2.1 k.2.2)) fx hf h dX5_ith_42
set_option maxRecDepth 100000 in
theorem EX5_ith_19 {p : Program} {l : Launch} {e : Env} {s : State} {m : MethodId} {args : Array Value} {below : List Frame} {meth : Method} {c : Code} {D : va_G} {cI cJ cZ cS : ClassId} {tb : Nat} {A : Nat → Prop} {a_t a_s a_keptS a_statuses a_pile a_tape a_steps a_wish a_mark a_bitsOf a_sizeOf a_number a_moved : Nat} {v_isKept : Int32} {v_taped : Int32} {v_at : Int32} {v_fault : Int32} {v_laid : Int32} {v_open : Int32} {v_s : Nat → Int32} {rr : Int32} {kk' : (Nat → Int32) × (Nat → Int32) × (Nat → Int32)} (fx : q_Fx p s m args meth c cX5_ith 4 RX5 (some .int) D cI cJ cZ cS tb A) : ∀ (n : Nat), ∀ {v_statuses : Nat → Int32} {v_pile : Nat → Int32} {v_wish : Nat → Int32} {y2 : Int32} {y3 : Int32} {H : Heap} {locs : List Loc} {ls : Array Slot}, q_H D A s (wX5_ith cI cJ cZ cS a_t a_s a_keptS a_statuses a_pile a_tape a_steps a_wish a_mark a_bitsOf a_sizeOf a_number a_moved v_isKept v_taped v_at v_fault v_laid v_open v_s v_statuses v_pile v_wish) H locs → lv_has ls 4 [(0, .ref a_t), (2, .int y2), (3, .int y3)] → ll5 (fX5_ith_19 v_s) n v_statuses v_pile v_wish y2 y3 = some (rr, kk') → W p l e rX5_ith s m args below meth c H locs 0 0 (MQ below (q_Ri D rr A ((fun k : (Nat → Int32) × (Nat → Int32) × (Nat → Int32) => (wX5_ith cI cJ cZ cS a_t a_s a_keptS a_statuses a_pile a_tape a_steps a_wish a_mark a_bitsOf a_sizeOf a_number a_moved v_isKept v_taped v_at v_fault v_laid v_open v_s k.1 k.2.1 k.2.2)) kk')) args s 0 0 A) (F0 m 19 ls []) := by
  intro n
  induction n with
  | zero => intro v_statuses v_pile v_wish y2 y3 H locs ls h hl hf; exact (ll5_z hf).elim
  | succ n ih => intro v_statuses v_pile v_wish y2 y3 H locs ls h hl hf; exact LX5_ith_19 fx ih h hl (ll5_s hf)
def fX5_ith (v_s : Nat → Int32) (v_statuses : Nat → Int32) (v_pile : Nat → Int32) (v_wish : Nat → Int32) (x1 : Int32) : Option (Int32 × (Nat → Int32) × (Nat → Int32) × (Nat → Int32)) :=
  (if (0 : Int32) ≤ x1 then (
  bV (fX5_looksAll v_s v_pile v_wish) (fun k10 =>
  ll5 (fX5_ith_19 v_s) qF v_statuses k10.1 k10.2 x1 0))
  else (
  bR (fX5_finds v_statuses (-1000000001)) (fun r11 k11 =>
  some (r11, (k11, v_pile, v_wish)))))
set_option maxRecDepth 100000 in
set_option maxHeartbeats 4000000 in
theorem tX5_ith (l : Launch) (D : va_G) (cI cJ cZ cS : ClassId) (tb : Nat) (a_t a_s a_keptS a_statuses a_pile a_tape a_steps a_wish a_mark a_bitsOf a_sizeOf a_number a_moved : Nat) (sz : Nat) (v_isKept : Int32) (v_taped : Int32) (v_at : Int32) (v_fault : Int32) (v_laid : Int32) (v_open : Int32) (v_s : Nat → Int32) (v_statuses : Nat → Int32) (v_pile : Nat → Int32) (v_wish : Nat → Int32) (x1 : Int32) (rr : Int32) (kk' : (Nat → Int32) × (Nat → Int32) × (Nat → Int32)) (hf : fX5_ith v_s v_statuses v_pile v_wish x1 = some (rr, kk')) : Met l yX5_ith (Cond.code yX5_ith cX5_ith 4 (some .int) :: wA) rX5_ith (q_Pre D cI cJ cZ cS tb [.ref a_t, .int x1] sz (wX5_ith cI cJ cZ cS a_t a_s a_keptS a_statuses a_pile a_tape a_steps a_wish a_mark a_bitsOf a_sizeOf a_number a_moved v_isKept v_taped v_at v_fault v_laid v_open v_s v_statuses v_pile v_wish)) (q_Ri D rr (va_A (wX5_ith cI cJ cZ cS a_t a_s a_keptS a_statuses a_pile a_tape a_steps a_wish a_mark a_bitsOf a_sizeOf a_number a_moved v_isKept v_taped v_at v_fault v_laid v_open v_s v_statuses v_pile v_wish) sz) ((fun k : (Nat → Int32) × (Nat → Int32) × (Nat → Int32) => (wX5_ith cI cJ cZ cS a_t a_s a_keptS a_statuses a_pile a_tape a_steps a_wish a_mark a_bitsOf a_sizeOf a_number a_moved v_isKept v_taped v_at v_fault v_laid v_open v_s k.1 k.2.1 k.2.2)) kk')) 0 0 (va_A (wX5_ith cI cJ cZ cS a_t a_s a_keptS a_statuses a_pile a_tape a_steps a_wish a_mark a_bitsOf a_sizeOf a_number a_moved v_isKept v_taped v_at v_fault v_laid v_open v_s v_statuses v_pile v_wish) sz) := by
  refine q_enter (Qf := fun A => (q_Ri D rr A ((fun k : (Nat → Int32) × (Nat → Int32) × (Nat → Int32) => (wX5_ith cI cJ cZ cS a_t a_s a_keptS a_statuses a_pile a_tape a_steps a_wish a_mark a_bitsOf a_sizeOf a_number a_moved v_isKept v_taped v_at v_fault v_laid v_open v_s k.1 k.2.1 k.2.2)) kk'))) (by decide) rfl (Nat.le_of_ble_eq_true rfl) ?_
  intro p e s m below meth c A ls fx hname h hl
  have hx := fx.1
  have hb := fx.2.1
  have hl : lv_has ls 4 [(0, .ref a_t), (1, .int x1)] := hl
  generalize h9 : s.heap = H at h ⊢
  clear h9
  generalize h9 : ([] : List Loc) = locs at h ⊢
  clear h9
  unfold fX5_ith at hf
  refine lv_iload_n hx hb dX5_ith_0 rfl (lv_at hl 1 rfl) ?_
  refine lv_if_ge (tgt := 11) hx hb dX5_ith_1 (by decide) (fun c9 => ?_) (fun c9 => ?_)
  · have hf := it_t c9 hf
    refine lv_aload_n hx hb dX5_ith_11 rfl (lv_at hl 0 rfl) ?_
    obtain ⟨k10, hg, hf⟩ := bV_inv hf
    refine q_cv (rest := []) (ws' := (wX5_ith cI cJ cZ cS a_t a_s a_keptS a_statuses a_pile a_tape a_steps a_wish a_mark a_bitsOf a_sizeOf a_number a_moved v_isKept v_taped v_at v_fault v_laid v_open v_s v_statuses k10.1 k10.2)) (w1 := (wX5_looksAll cI cJ cZ cS a_t a_s a_keptS a_statuses a_pile a_tape a_steps a_wish a_mark a_bitsOf a_sizeOf a_number a_moved v_isKept v_taped v_at v_fault v_laid v_open v_s k10.1 k10.2)) fx h [0, 1, 3, 4] rfl rfl rfl rfl (q_runV fx h hl.1 [0, 1, 3, 4] rfl rfl (tX5_looksAll l D cI cJ cZ cS tb a_t a_s a_keptS a_statuses a_pile a_tape a_steps a_wish a_mark a_bitsOf a_sizeOf a_number a_moved H.size v_isKept v_taped v_at v_fault v_laid v_open v_s v_pile v_wish k10 hg) mvX5_looksAll k_860 ⟨rfl, rfl⟩ ⟨Nat.le_of_ble_eq_true rfl, Nat.le_of_ble_eq_true rfl⟩ rfl rfl rfl rfl (Nat.le_of_ble_eq_true rfl) dX5_ith_12 ⟨Nat.le_of_ble_eq_true rfl, Nat.le_of_ble_eq_true rfl⟩) (fun H locs h => ?_)
    refine lv_iload_n hx hb dX5_ith_15 rfl (lv_at hl 1 rfl) ?_
    refine lv_istore_n (lv' := [(2, .int x1), (0, .ref a_t), (1, .int x1)]) hx hb dX5_ith_16 rfl hl (by decide) rfl (fun ls hl => ?_)
    refine lv_iconst (v := 0) hx hb dX5_ith_17 (by decide) ?_
    refine lv_istore_n (lv' := [(3, .int 0), (2, .int x1), (0, .ref a_t), (1, .int x1)]) hx hb dX5_ith_18 rfl hl (by decide) rfl (fun ls hl => ?_)
    exact EX5_ith_19 fx qF h (lv_sub hl [2, 1, 0] rfl) hf
  have hf := it_f c9 hf
  refine lv_aload_n hx hb dX5_ith_4 rfl (lv_at hl 0 rfl) ?_
  refine q_ldc fx k_701 dX5_ith_5 ?_
  obtain ⟨r11, k11, hg, hf⟩ := bR_inv hf
  refine q_ci (rest := []) (ws' := (wX5_ith cI cJ cZ cS a_t a_s a_keptS a_statuses a_pile a_tape a_steps a_wish a_mark a_bitsOf a_sizeOf a_number a_moved v_isKept v_taped v_at v_fault v_laid v_open v_s k11 v_pile v_wish)) (w1 := (wX5_finds cI cJ cZ cS a_t a_s a_keptS a_statuses a_pile a_tape a_steps a_wish a_mark a_bitsOf a_sizeOf a_number a_moved v_isKept v_taped v_at v_fault v_laid v_open k11)) fx h [0, 2] rfl rfl rfl rfl (q_runV fx h hl.1 [0, 2] rfl rfl (tX5_finds l D cI cJ cZ cS tb a_t a_s a_keptS a_statuses a_pile a_tape a_steps a_wish a_mark a_bitsOf a_sizeOf a_number a_moved H.size v_isKept v_taped v_at v_fault v_laid v_open v_statuses (-1000000001) r11 k11 hg) mvX5_finds k_702 ⟨rfl, rfl⟩ ⟨Nat.le_of_ble_eq_true rfl, Nat.le_of_ble_eq_true rfl⟩ rfl rfl rfl rfl (Nat.le_of_ble_eq_true rfl) dX5_ith_7 ⟨Nat.le_of_ble_eq_true rfl, Nat.le_of_ble_eq_true rfl⟩) (fun H locs h => ?_)
  exact q_reti (fun k : (Nat → Int32) × (Nat → Int32) × (Nat → Int32) => (wX5_ith cI cJ cZ cS a_t a_s a_keptS a_statuses a_pile a_tape a_steps a_wish a_mark a_bitsOf a_sizeOf a_number a_moved v_isKept v_taped v_at v_fault v_laid v_open v_s k.1 k.2.1 k.2.2)) fx hf h dX5_ith_10
end
