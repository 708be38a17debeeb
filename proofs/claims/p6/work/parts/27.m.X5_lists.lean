/-! X5_lists -/
abbrev wX5_lists (cI cJ cZ cS : ClassId) (a_t a_s a_keptS a_statuses a_pile a_tape a_steps a_wish a_mark a_bitsOf a_sizeOf a_number a_moved : Nat) (v_isKept : Int32) (v_taped : Int32) (v_at : Int32) (v_fault : Int32) (v_laid : Int32) (v_open : Int32) (v_s : Nat → Int32) : va_W := [(a_t, .inr (5, [.ref a_s, .ref a_keptS, .ref a_statuses, .int v_isKept, .ref a_pile, .ref a_tape, .ref a_steps, .int v_taped, .int v_at, .int v_fault, .int v_laid, .int v_open, .ref a_wish, .ref a_mark, .ref a_bitsOf, .ref a_sizeOf, .ref a_number, .ref a_moved])), (a_s, .inl (cI, 538, .inl v_s))]
abbrev rX5_lists : Room := { frames := 0, cells := 0, slots := 0, locals := 0 }
def fX5_lists (v_s : Nat → Int32) : Option (Int32 × Unit) :=
  some (jshl 1 (v_s 0), ())
set_option maxRecDepth 100000 in
set_option maxHeartbeats 4000000 in
theorem tX5_lists (l : Launch) (D : va_G) (cI cJ cZ cS : ClassId) (tb : Nat) (a_t a_s a_keptS a_statuses a_pile a_tape a_steps a_wish a_mark a_bitsOf a_sizeOf a_number a_moved : Nat) (sz : Nat) (v_isKept : Int32) (v_taped : Int32) (v_at : Int32) (v_fault : Int32) (v_laid : Int32) (v_open : Int32) (v_s : Nat → Int32) (rr : Int32) (kk' : Unit) (hf : fX5_lists v_s = some (rr, kk')) : Met l yX5_lists (Cond.code yX5_lists cX5_lists 1 (some .int) :: wA) rX5_lists (q_Pre D cI cJ cZ cS tb [.ref a_t] sz (wX5_lists cI cJ cZ cS a_t a_s a_keptS a_statuses a_pile a_tape a_steps a_wish a_mark a_bitsOf a_sizeOf a_number a_moved v_isKept v_taped v_at v_fault v_laid v_open v_s)) (q_Ri D rr (va_A (wX5_lists cI cJ cZ cS a_t a_s a_keptS a_statuses a_pile a_tape a_steps a_wish a_mark a_bitsOf a_sizeOf a_number a_moved v_isKept v_taped v_at v_fault v_laid v_open v_s) sz) ((fun k : Unit => (wX5_lists cI cJ cZ cS a_t a_s a_keptS a_statuses a_pile a_tape a_steps a_wish a_mark a_bitsOf a_sizeOf a_number a_moved v_isKept v_taped v_at v_fault v_laid v_open v_s)) kk')) 0 0 (va_A (wX5_lists cI cJ cZ cS a_t a_s a_keptS a_statuses a_pile a_tape a_steps a_wish a_mark a_bitsOf a_sizeOf a_number a_moved v_isKept v_taped v_at v_fault v_laid v_open v_s) sz) := by
  refine q_enter (Qf := fun A => (q_Ri D rr A ((fun k : Unit => (wX5_lists cI cJ cZ cS a_t a_s a_keptS a_statuses a_pile a_tape a_steps a_wish a_mark a_bitsOf a_sizeOf a_number a_moved v_isKept v_taped v_at v_fault v_laid v_open v_s)) kk'))) (by decide) rfl (Nat.le_of_ble_eq_true rfl) ?_
  intro p e s m below meth c A ls fx hname h hl
  have hx := fx.1
  have hb := fx.2.1
  have hl : lv_has ls 1 [(0, .ref a_t)] := hl
  generalize h9 : s.heap = H at h ⊢
  clear h9
  generalize h9 : ([] : List Loc) = locs at h ⊢
  clear h9
  unfold fX5_lists at hf
  refine lv_iconst (v := 1) hx hb dX5_lists_0 (by decide) ?_
  refine lv_aload_n hx hb dX5_lists_1 rfl (lv_at hl 0 rfl) ?_
  refine q_get (v := .ref a_s) fx inX5 h 0 rfl rfl 0 (by decide) k_636 rfl dX5_lists_2 ?_
  refine lv_iconst (v := 0) hx hb dX5_lists_5 (by decide) ?_
  refine q_ialdK fx h 1 rfl 0 (vinK (by decide)) (by decide) dX5_lists_6 ?_
  refine lv_ishl hx hb dX5_lists_7 ?_
  exact q_reti (fun k : Unit => (wX5_lists cI cJ cZ cS a_t a_s a_keptS a_statuses a_pile a_tape a_steps a_wish a_mark a_bitsOf a_sizeOf a_number a_moved v_isKept v_taped v_at v_fault v_laid v_open v_s)) fx hf h dX5_lists_8
/-! X5_isList -/
abbrev wX5_isList (cI cJ cZ cS : ClassId) (a_t a_s a_keptS a_statuses a_pile a_tape a_steps a_wish a_mark a_bitsOf a_sizeOf a_number a_moved : Nat) (v_isKept : Int32) (v_taped : Int32) (v_at : Int32) (v_fault : Int32) (v_laid : Int32) (v_open : Int32) (v_s : Nat → Int32) : va_W := [(a_t, .inr (5, [.ref a_s, .ref a_keptS, .ref a_statuses, .int v_isKept, .ref a_pile, .ref a_tape, .ref a_steps, .int v_taped, .int v_at, .int v_fault, .int v_laid, .int v_open, .ref a_wish, .ref a_mark, .ref a_bitsOf, .ref a_sizeOf, .ref a_number, .ref a_moved])), (a_s, .inl (cI, 538, .inl v_s))]
abbrev rX5_isList : Room := { frames := 1, cells := 0, slots := 0, locals := 25 }
def fX5_isList (v_s : Nat → Int32) (x1 : Int64) : Option (Int32 × Unit) :=
  bR (fX5_lists v_s) (fun r1 k1 =>
  bR (fX5_in x1 0 ((r1 - 1).toInt64)) (fun r2 k2 =>
  gB r2 (some (r2, ()))))
set_option maxRecDepth 100000 in
set_option maxHeartbeats 4000000 in
theorem tX5_isList (l : Launch) (D : va_G) (cI cJ cZ cS : ClassId) (tb : Nat) (a_t a_s a_keptS a_statuses a_pile a_tape a_steps a_wish a_mark a_bitsOf a_sizeOf a_number a_moved : Nat) (sz : Nat) (v_isKept : Int32) (v_taped : Int32) (v_at : Int32) (v_fault : Int32) (v_laid : Int32) (v_open : Int32) (v_s : Nat → Int32) (x1 : Int64) (rr : Int32) (kk' : Unit) (hf : fX5_isList v_s x1 = some (rr, kk')) : Met l yX5_isList (Cond.code yX5_isList cX5_isList 3 (some .boolean) :: wA) rX5_isList (q_Pre D cI cJ cZ cS tb [.ref a_t, .long x1] sz (wX5_isList cI cJ cZ cS a_t a_s a_keptS a_statuses a_pile a_tape a_steps a_wish a_mark a_bitsOf a_sizeOf a_number a_moved v_isKept v_taped v_at v_fault v_laid v_open v_s)) (q_Ri D rr (va_A (wX5_isList cI cJ cZ cS a_t a_s a_keptS a_statuses a_pile a_tape a_steps a_wish a_mark a_bitsOf a_sizeOf a_number a_moved v_isKept v_taped v_at v_fault v_laid v_open v_s) sz) ((fun k : Unit => (wX5_isList cI cJ cZ cS a_t a_s a_keptS a_statuses a_pile a_tape a_steps a_wish a_mark a_bitsOf a_sizeOf a_number a_moved v_isKept v_taped v_at v_fault v_laid v_open v_s)) kk')) 0 0 (va_A (wX5_isList cI cJ cZ cS a_t a_s a_keptS a_statuses a_pile a_tape a_steps a_wish a_mark a_bitsOf a_sizeOf a_number a_moved v_isKept v_taped v_at v_fault v_laid v_open v_s) sz) := by
  refine q_enter (Qf := fun A => (q_Ri D rr A ((fun k : Unit => (wX5_isList cI cJ cZ cS a_t a_s a_keptS a_statuses a_pile a_tape a_steps a_wish a_mark a_bitsOf a_sizeOf a_number a_moved v_isKept v_taped v_at v_fault v_laid v_open v_s)) kk'))) (by decide) rfl (Nat.le_of_ble_eq_true rfl) ?_
  intro p e s m below meth c A ls fx hname h hl
  have hx := fx.1
  have hb := fx.2.1
  have hl : lv_has ls 3 [(0, .ref a_t), (1, .long x1)] := hl
  generalize h9 : s.heap = H at h ⊢
  clear h9
  generalize h9 : ([] : List Loc) = locs at h ⊢
  clear h9
  unfold fX5_isList at hf
  refine lv_lload_n hx hb dX5_isList_0 rfl (lv_at hl 1 rfl) ?_
  refine lv_lconst (v := 0) hx hb dX5_isList_1 (by decide) ?_
  refine lv_aload_n hx hb dX5_isList_2 rfl (lv_at hl 0 rfl) ?_
  obtain ⟨r1, k1, hg, hf⟩ := bR_inv hf
  refine q_ci (rest := [.long 0, .long x1]) (ws' := (wX5_isList cI cJ cZ cS a_t a_s a_keptS a_statuses a_pile a_tape a_steps a_wish a_mark a_bitsOf a_sizeOf a_number a_moved v_isKept v_taped v_at v_fault v_laid v_open v_s)) (w1 := (wX5_lists cI cJ cZ cS a_t a_s a_keptS a_statuses a_pile a_tape a_steps a_wish a_mark a_bitsOf a_sizeOf a_number a_moved v_isKept v_taped v_at v_fault v_laid v_open v_s)) fx h [0, 1] rfl rfl rfl rfl (q_runV fx h hl.1 [0, 1] rfl rfl (tX5_lists l D cI cJ cZ cS tb a_t a_s a_keptS a_statuses a_pile a_tape a_steps a_wish a_mark a_bitsOf a_sizeOf a_number a_moved H.size v_isKept v_taped v_at v_fault v_laid v_open v_s r1 k1 hg) mvX5_lists k_810 ⟨rfl, rfl⟩ ⟨Nat.le_of_ble_eq_true rfl, Nat.le_of_ble_eq_true rfl⟩ rfl rfl rfl rfl (Nat.le_of_ble_eq_true rfl) dX5_isList_3 ⟨Nat.le_of_ble_eq_true rfl, Nat.le_of_ble_eq_true rfl⟩) (fun H locs h => ?_)
  refine lv_iconst (v := 1) hx hb dX5_isList_6 (by decide) ?_
  refine lv_isub hx hb dX5_isList_7 ?_
  refine lv_i2l hx hb dX5_isList_8 rfl ?_
  obtain ⟨r2, k2, hg, hf⟩ := bR_inv hf
  refine q_ci (rest := []) (ws' := (wX5_isList cI cJ cZ cS a_t a_s a_keptS a_statuses a_pile a_tape a_steps a_wish a_mark a_bitsOf a_sizeOf a_number a_moved v_isKept v_taped v_at v_fault v_laid v_open v_s)) (w1 := (wX5_in cI cJ cZ cS)) fx h [] rfl rfl rfl rfl (q_runS fx h hl.1 [] rfl rfl (tX5_in l D cI cJ cZ cS tb H.size x1 0 ((r1 - 1).toInt64) r2 k2 hg) msX5_in k_697 ⟨rfl, rfl⟩ ⟨Nat.le_of_ble_eq_true rfl, Nat.le_of_ble_eq_true rfl⟩ rfl rfl (Nat.le_of_ble_eq_true rfl) dX5_isList_9 ⟨Nat.le_of_ble_eq_true rfl, Nat.le_of_ble_eq_true rfl⟩) (fun H locs h => ?_)
  obtain ⟨b3, hf⟩ := gB_inv hf
  exact q_retz (fun k : Unit => (wX5_isList cI cJ cZ cS a_t a_s a_keptS a_statuses a_pile a_tape a_steps a_wish a_mark a_bitsOf a_sizeOf a_number a_moved v_isKept v_taped v_at v_fault v_laid v_open v_s)) fx b3 hf h dX5_isList_12
/-! X5_guest -/
abbrev wX5_guest (cI cJ cZ cS : ClassId) (a_t a_s a_keptS a_statuses a_pile a_tape a_steps a_wish a_mark a_bitsOf a_sizeOf a_number a_moved : Nat) (v_isKept : Int32) (v_taped : Int32) (v_at : Int32) (v_fault : Int32) (v_laid : Int32) (v_open : Int32) (v_s : Nat → Int32) (v_statuses : Nat → Int32) : va_W := [(a_t, .inr (5, [.ref a_s, .ref a_keptS, .ref a_statuses, .int v_isKept, .ref a_pile, .ref a_tape, .ref a_steps, .int v_taped, .int v_at, .int v_fault, .int v_laid, .int v_open, .ref a_wish, .ref a_mark, .ref a_bitsOf, .ref a_sizeOf, .ref a_number, .ref a_moved])), (a_s, .inl (cI, 538, .inl v_s)), (a_statuses, .inl (cI, 7, .inl v_statuses))]
abbrev rX5_guest : Room := { frames := 1, cells := 0, slots := 0, locals := 25 }
def fX5_guest_24 (v_s : Nat → Int32) (v_statuses : Nat → Int32) : Option (Int32 × (Nat → Int32) × (Nat → Int32)) :=
  bR (fX5_finds v_statuses (-1000000001)) (fun r1 k1 =>
  some (r1, (v_s, k1)))
set_option maxRecDepth 100000 in
set_option maxHeartbeats 4000000 in
theorem LX5_guest_24 {p : Program} {l : Launch} {e : Env} {s : State} {m : MethodId} {args : Array Value} {below : List Frame} {meth : Method} {c : Code} {D : va_G} {cI cJ cZ cS : ClassId} {tb : Nat} {A : Nat → Prop} {a_t a_s a_keptS a_statuses a_pile a_tape a_steps a_wish a_mark a_bitsOf a_sizeOf a_number a_moved : Nat} {v_isKept : Int32} {v_taped : Int32} {v_at : Int32} {v_fault : Int32} {v_laid : Int32} {v_open : Int32} {rr : Int32} {kk' : (Nat → Int32) × (Nat → Int32)} (fx : q_Fx p s m args meth c cX5_guest 4 RX5 (some .int) D cI cJ cZ cS tb A) : ∀ {v_s : Nat → Int32} {v_statuses : Nat → Int32} {H : Heap} {locs : List Loc} {ls : Array Slot}, q_H D A s (wX5_guest cI cJ cZ cS a_t a_s a_keptS a_statuses a_pile a_tape a_steps a_wish a_mark a_bitsOf a_sizeOf a_number a_moved v_isKept v_taped v_at v_fault v_laid v_open v_s v_statuses) H locs → lv_has ls 4 [(0, .ref a_t)] → fX5_guest_24 v_s v_statuses = some (rr, kk') → W p l e rX5_guest s m args below meth c H locs 0 0 (MQ below (q_Ri D rr A ((fun k : (Nat → Int32) × (Nat → Int32) => (wX5_guest cI cJ cZ cS a_t a_s a_keptS a_statuses a_pile a_tape a_steps a_wish a_mark a_bitsOf a_sizeOf a_number a_moved v_isKept v_taped v_at v_fault v_laid v_open k.1 k.2)) kk')) args s 0 0 A) (F0 m 24 ls []) := by
  intro v_s v_statuses H locs ls h hl hf
  have hx := fx.1
  have hb := fx.2.1
  unfold fX5_guest_24 at hf
  refine lv_aload_n hx hb dX5_guest_24 rfl (lv_at hl 0 rfl) ?_
  refine q_ldc fx k_701 dX5_guest_25 ?_
  obtain ⟨r1, k1, hg, hf⟩ := bR_inv hf
  refine q_ci (rest := []) (ws' := (wX5_guest cI cJ cZ cS a_t a_s a_keptS a_statuses a_pile a_tape a_steps a_wish a_mark a_bitsOf a_sizeOf a_number a_moved v_isKept v_taped v_at v_fault v_laid v_open v_s k1)) (w1 := (wX5_finds cI cJ cZ cS a_t a_s a_keptS a_statuses a_pile a_tape a_steps a_wish a_mark a_bitsOf a_sizeOf a_number a_moved v_isKept v_taped v_at v_fault v_laid v_open k1)) fx h [0, 2] rfl rfl rfl rfl (q_runV fx h hl.1 [0, 2] rfl rfl (tX5_finds l D cI cJ cZ cS tb a_t a_s a_keptS a_statuses a_pile a_tape a_steps a_wish a_mark a_bitsOf a_sizeOf a_number a_moved H.size v_isKept v_taped v_at v_fault v_laid v_open v_statuses (-1000000001) r1 k1 hg) mvX5_finds k_702 ⟨rfl, rfl⟩ ⟨Nat.le_of_ble_eq_true rfl, Nat.le_of_ble_eq_true rfl⟩ rfl rfl rfl rfl (Nat.le_of_ble_eq_true rfl) dX5_guest_27 ⟨Nat.le_of_ble_eq_true rfl, Nat.le_of_ble_eq_true rfl⟩) (fun H locs h => ?_)
  exact q_reti (fun k : (Nat → Int32) × (Nat → Int32) => (wX5_guest cI cJ cZ cS a_t a_s a_keptS a_statuses a_pile a_tape a_steps a_wish a_mark a_bitsOf a_sizeOf a_number a_moved v_isKept v_taped v_at v_fault v_laid v_open k.1 k.2)) fx hf h dX5_guest_30
def fX5_guest (v_s : Nat → Int32) (v_statuses : Nat → Int32) (x1 : Int32) (x2 : Int32) : Option (Int32 × (Nat → Int32) × (Nat → Int32)) :=
  bR (fX5_in (x1.toInt64) 0 5) (fun r2 k2 =>
  (if r2 = 0 then (
  fX5_guest_24  v_s v_statuses)
  else (
  bR (fX5_in (x2.toInt64) 0 99) (fun r4 k4 =>
  (if r4 = 0 then (
  fX5_guest_24  v_s v_statuses)
  else (
  (if (v_s 0) = 8 then (
  bR (fX5_finds v_statuses (-1000000002)) (fun r11 k11 =>
  some (r11, (v_s, k11))))
  else (
  nm (2 + (3 * (v_s 0))) (fun u7 =>
  gIn u7 538 (
  gIn (u7 + 1) 538 (
  gIn (u7 + 2) 538 (
  some (((upd (upd (upd (upd v_s u7.toNatClampNeg x1) (u7 + 1).toNatClampNeg x2) (u7 + 2).toNatClampNeg 0) 0 (((upd (upd (upd v_s u7.toNatClampNeg x1) (u7 + 1).toNatClampNeg x2) (u7 + 2).toNatClampNeg 0) 0) + 1)) 0) - 1, ((upd (upd (upd (upd v_s u7.toNatClampNeg x1) (u7 + 1).toNatClampNeg x2) (u7 + 2).toNatClampNeg 0) 0 (((upd (upd (upd v_s u7.toNatClampNeg x1) (u7 + 1).toNatClampNeg x2) (u7 + 2).toNatClampNeg 0) 0) + 1)), v_statuses))))))))))))))
set_option maxRecDepth 100000 in
set_option maxHeartbeats 4000000 in
theorem tX5_guest (l : Launch) (D : va_G) (cI cJ cZ cS : ClassId) (tb : Nat) (a_t a_s a_keptS a_statuses a_pile a_tape a_steps a_wish a_mark a_bitsOf a_sizeOf a_number a_moved : Nat) (sz : Nat) (v_isKept : Int32) (v_taped : Int32) (v_at : Int32) (v_fault : Int32) (v_laid : Int32) (v_open : Int32) (v_s : Nat → Int32) (v_statuses : Nat → Int32) (x1 : Int32) (x2 : Int32) (rr : Int32) (kk' : (Nat → Int32) × (Nat → Int32)) (hf : fX5_guest v_s v_statuses x1 x2 = some (rr, kk')) : Met l yX5_guest (Cond.code yX5_guest cX5_guest 4 (some .int) :: wA) rX5_guest (q_Pre D cI cJ cZ cS tb [.ref a_t, .int x1, .int x2] sz (wX5_guest cI cJ cZ cS a_t a_s a_keptS a_statuses a_pile a_tape a_steps a_wish a_mark a_bitsOf a_sizeOf a_number a_moved v_isKept v_taped v_at v_fault v_laid v_open v_s v_statuses)) (q_Ri D rr (va_A (wX5_guest cI cJ cZ cS a_t a_s a_keptS a_statuses a_pile a_tape a_steps a_wish a_mark a_bitsOf a_sizeOf a_number a_moved v_isKept v_taped v_at v_fault v_laid v_open v_s v_statuses) sz) ((fun k : (Nat → Int32) × (Nat → Int32) => (wX5_guest cI cJ cZ cS a_t a_s a_keptS a_statuses a_pile a_tape a_steps a_wish a_mark a_bitsOf a_sizeOf a_number a_moved v_isKept v_taped v_at v_fault v_laid v_open k.1 k.2)) kk')) 0 0 (va_A (wX5_guest cI cJ cZ cS a_t a_s a_keptS a_statuses a_pile a_tape a_steps a_wish a_mark a_bitsOf a_sizeOf a_number a_moved v_isKept v_taped v_at v_fault v_laid v_open v_s v_statuses) sz) := by
  refine q_enter (Qf := fun A => (q_Ri D rr A ((fun k : (Nat → Int32) × (Nat → Int32) => (wX5_guest cI cJ cZ cS a_t a_s a_keptS a_statuses a_pile a_tape a_steps a_wish a_mark a_bitsOf a_sizeOf a_number a_moved v_isKept v_taped v_at v_fault v_laid v_open k.1 k.2)) kk'))) (by decide) rfl (Nat.le_of_ble_eq_true rfl) ?_
  intro p e s m below meth c A ls fx hname h hl
  have hx := fx.1
  have hb := fx.2.1
  have hl : lv_has ls 4 [(0, .ref a_t), (1, .int x1), (2, .int x2)] := hl
  generalize h9 : s.heap = H at h ⊢
  clear h9
  generalize h9 : ([] : List Loc) = locs at h ⊢
  clear h9
  unfold fX5_guest at hf
  refine lv_iload_n hx hb dX5_guest_0 rfl (lv_at hl 1 rfl) ?_
  refine lv_i2l hx hb dX5_guest_1 rfl ?_
  refine lv_lconst (v := 0) hx hb dX5_guest_2 (by decide) ?_
  refine q_ldc2 fx k_696 dX5_guest_3 ?_
  obtain ⟨r2, k2, hg, hf⟩ := bR_inv hf
  refine q_ci (rest := []) (ws' := (wX5_guest cI cJ cZ cS a_t a_s a_keptS a_statuses a_pile a_tape a_steps a_wish a_mark a_bitsOf a_sizeOf a_number a_moved v_isKept v_taped v_at v_fault v_laid v_open v_s v_statuses)) (w1 := (wX5_in cI cJ cZ cS)) fx h [] rfl rfl rfl rfl (q_runS fx h hl.1 [] rfl rfl (tX5_in l D cI cJ cZ cS tb H.size (x1.toInt64) 0 5 r2 k2 hg) msX5_in k_697 ⟨rfl, rfl⟩ ⟨Nat.le_of_ble_eq_true rfl, Nat.le_of_ble_eq_true rfl⟩ rfl rfl (Nat.le_of_ble_eq_true rfl) dX5_guest_6 ⟨Nat.le_of_ble_eq_true rfl, Nat.le_of_ble_eq_true rfl⟩) (fun H locs h => ?_)
  refine lv_if_eq (tgt := 24) hx hb dX5_guest_9 (by decide) (fun c3 => ?_) (fun c3 => ?_)
  · have hf := it_t c3 hf
    exact LX5_guest_24 fx h (lv_sub hl [0] rfl) hf
  have hf := it_f c3 hf
  refine lv_iload_n hx hb dX5_guest_12 rfl (lv_at hl 2 rfl) ?_
  refine lv_i2l hx hb dX5_guest_13 rfl ?_
  refine lv_lconst (v := 0) hx hb dX5_guest_14 (by decide) ?_
  refine q_ldc2 fx k_700 dX5_guest_15 ?_
  obtain ⟨r4, k4, hg, hf⟩ := bR_inv hf
  refine q_ci (rest := []) (ws' := (wX5_guest cI cJ cZ cS a_t a_s a_keptS a_statuses a_pile a_tape a_steps a_wish a_mark a_bitsOf a_sizeOf a_number a_moved v_isKept v_taped v_at v_fault v_laid v_open v_s v_statuses)) (w1 := (wX5_in cI cJ cZ cS)) fx h [] rfl rfl rfl rfl (q_runS fx h hl.1 [] rfl rfl (tX5_in l D cI cJ cZ cS tb H.size (x2.toInt64) 0 99 r4 k4 hg) msX5_in k_697 ⟨rfl, rfl⟩ ⟨Nat.le_of_ble_eq_true rfl, Nat.le_of_ble_eq_true rfl⟩ rfl rfl (Nat.le_of_ble_eq_true rfl) dX5_guest_18 ⟨Nat.le_of_ble_eq_true rfl, Nat.le_of_ble_eq_true rfl⟩) (fun H locs h => ?_)
  refine lv_if_ne (tgt := 31) hx hb dX5_guest_21 (by decide) (fun c5 => ?_) (fun c5 => ?_)
  · have hf := it_f c5 hf
    refine lv_aload_n hx hb dX5_guest_31 rfl (lv_at hl 0 rfl) ?_
    refine q_get (v := .ref a_s) fx inX5 h 0 rfl rfl 0 (by decide) k_636 rfl dX5_guest_32 ?_
    refine lv_iconst (v := 0) hx hb dX5_guest_35 (by decide) ?_
    refine q_ialdK fx h 1 rfl 0 (vinK (by decide)) (by decide) dX5_guest_36 ?_
    refine lv_bipush (v := 8) hx hb dX5_guest_37 (by decide) ?_
    refine lv_icmp_ne (tgt := 49) hx hb dX5_guest_39 (by decide) (fun c6 => ?_) (fun c6 => ?_)
    · have hf := it_f c6 hf
      refine lv_iconst (v := 2) hx hb dX5_guest_49 (by decide) ?_
      refine lv_iconst (v := 3) hx hb dX5_guest_50 (by decide) ?_
      refine lv_aload_n hx hb dX5_guest_51 rfl (lv_at hl 0 rfl) ?_
      refine q_get (v := .ref a_s) fx inX5 h 0 rfl rfl 0 (by decide) k_636 rfl dX5_guest_52 ?_
      refine lv_iconst (v := 0) hx hb dX5_guest_55 (by decide) ?_
      refine q_ialdK fx h 1 rfl 0 (vinK (by decide)) (by decide) dX5_guest_56 ?_
      refine lv_imul hx hb dX5_guest_57 ?_
      refine lv_iadd hx hb dX5_guest_58 ?_
      obtain ⟨u7, eu7, hf⟩ := nm_inv hf
      refine lv_eqi eu7 ?_
      refine lv_istore_n (lv' := [(3, .int u7), (0, .ref a_t), (1, .int x1), (2, .int x2)]) hx hb dX5_guest_59 rfl hl (by decide) rfl (fun ls hl => ?_)
      refine lv_aload_n hx hb dX5_guest_60 rfl (lv_at hl 1 rfl) ?_
      refine q_get (v := .ref a_s) fx inX5 h 0 rfl rfl 0 (by decide) k_636 rfl dX5_guest_61 ?_
      refine lv_iload_n hx hb dX5_guest_64 rfl (lv_at hl 0 rfl) ?_
      refine lv_iload_n hx hb dX5_guest_65 rfl (lv_at hl 2 rfl) ?_
      obtain ⟨i8, hf⟩ := gIn_inv hf
      refine q_iast (ws' := (wX5_guest cI cJ cZ cS a_t a_s a_keptS a_statuses a_pile a_tape a_steps a_wish a_mark a_bitsOf a_sizeOf a_number a_moved v_isKept v_taped v_at v_fault v_laid v_open (upd v_s u7.toNatClampNeg x1) v_statuses)) fx h 1 rfl i8 rfl dX5_guest_66 (fun H locs h => ?_)
      refine lv_aload_n hx hb dX5_guest_67 rfl (lv_at hl 1 rfl) ?_
      refine q_get (v := .ref a_s) fx inX5 h 0 rfl rfl 0 (by decide) k_636 rfl dX5_guest_68 ?_
      refine lv_iload_n hx hb dX5_guest_71 rfl (lv_at hl 0 rfl) ?_
      refine lv_iconst (v := 1) hx hb dX5_guest_72 (by decide) ?_
      refine lv_iadd hx hb dX5_guest_73 ?_
      refine lv_iload_n hx hb dX5_guest_74 rfl (lv_at hl 3 rfl) ?_
      obtain ⟨i9, hf⟩ := gIn_inv hf
      refine q_iast (ws' := (wX5_guest cI cJ cZ cS a_t a_s a_keptS a_statuses a_pile a_tape a_steps a_wish a_mark a_bitsOf a_sizeOf a_number a_moved v_isKept v_taped v_at v_fault v_laid v_open (upd (upd v_s u7.toNatClampNeg x1) (u7 + 1).toNatClampNeg x2) v_statuses)) fx h 1 rfl i9 rfl dX5_guest_75 (fun H locs h => ?_)
      refine lv_aload_n hx hb dX5_guest_76 rfl (lv_at hl 1 rfl) ?_
      refine q_get (v := .ref a_s) fx inX5 h 0 rfl rfl 0 (by decide) k_636 rfl dX5_guest_77 ?_
      refine lv_iload_n hx hb dX5_guest_80 rfl (lv_at hl 0 rfl) ?_
      refine lv_iconst (v := 2) hx hb dX5_guest_81 (by decide) ?_
      refine lv_iadd hx hb dX5_guest_82 ?_
      refine lv_iconst (v := 0) hx hb dX5_guest_83 (by decide) ?_
      obtain ⟨i10, hf⟩ := gIn_inv hf
      refine q_iast (ws' := (wX5_guest cI cJ cZ cS a_t a_s a_keptS a_statuses a_pile a_tape a_steps a_wish a_mark a_bitsOf a_sizeOf a_number a_moved v_isKept v_taped v_at v_fault v_laid v_open (upd (upd (upd v_s u7.toNatClampNeg x1) (u7 + 1).toNatClampNeg x2) (u7 + 2).toNatClampNeg 0) v_statuses)) fx h 1 rfl i10 rfl dX5_guest_84 (fun H locs h => ?_)
      refine lv_aload_n hx hb dX5_guest_85 rfl (lv_at hl 1 rfl) ?_
      refine q_get (v := .ref a_s) fx inX5 h 0 rfl rfl 0 (by decide) k_636 rfl dX5_guest_86 ?_
      refine lv_iconst (v := 0) hx hb dX5_guest_89 (by decide) ?_
      refine lv_dup2_11 hx hb dX5_guest_90 rfl rfl ?_
      refine q_ialdK fx h 1 rfl 0 (vinK (by decide)) (by decide) dX5_guest_91 ?_
      refine lv_iconst (v := 1) hx hb dX5_guest_92 (by decide) ?_
      refine lv_iadd hx hb dX5_guest_93 ?_
      refine q_iastK (ws' := (wX5_guest cI cJ cZ cS a_t a_s a_keptS a_statuses a_pile a_tape a_steps a_wish a_mark a_bitsOf a_sizeOf a_number a_moved v_isKept v_taped v_at v_fault v_laid v_open (upd (upd (upd (upd v_s u7.toNatClampNeg x1) (u7 + 1).toNatClampNeg x2) (u7 + 2).toNatClampNeg 0) 0 (((upd (upd (upd v_s u7.toNatClampNeg x1) (u7 + 1).toNatClampNeg x2) (u7 + 2).toNatClampNeg 0) 0) + 1)) v_statuses)) fx h 1 rfl 0 (vinK (by decide)) (by decide) rfl dX5_guest_94 (fun H locs h => ?_)
      refine lv_aload_n hx hb dX5_guest_95 rfl (lv_at hl 1 rfl) ?_
      refine q_get (v := .ref a_s) fx inX5 h 0 rfl rfl 0 (by decide) k_636 rfl dX5_guest_96 ?_
      refine lv_iconst (v := 0) hx hb dX5_guest_99 (by decide) ?_
      refine q_ialdK fx h 1 rfl 0 (vinK (by decide)) (by decide) dX5_guest_100 ?_
      refine lv_iconst (v := 1) hx hb dX5_guest_101 (by decide) ?_
      refine lv_isub hx hb dX5_guest_102 ?_
      exact q_reti (fun k : (Nat → Int32) × (Nat → Int32) => (wX5_guest cI cJ cZ cS a_t a_s a_keptS a_statuses a_pile a_tape a_steps a_wish a_mark a_bitsOf a_sizeOf a_number a_moved v_isKept v_taped v_at v_fault v_laid v_open k.1 k.2)) fx hf h dX5_guest_103
    have hf := it_t c6 hf
    refine lv_aload_n hx hb dX5_guest_42 rfl (lv_at hl 0 rfl) ?_
    refine q_ldc fx k_706 dX5_guest_43 ?_
    obtain ⟨r11, k11, hg, hf⟩ := bR_inv hf
    refine q_ci (rest := []) (ws' := (wX5_guest cI cJ cZ cS a_t a_s a_keptS a_statuses a_pile a_tape a_steps a_wish a_mark a_bitsOf a_sizeOf a_number a_moved v_isKept v_taped v_at v_fault v_laid v_open v_s k11)) (w1 := (wX5_finds cI cJ cZ cS a_t a_s a_keptS a_statuses a_pile a_tape a_steps a_wish a_mark a_bitsOf a_sizeOf a_number a_moved v_isKept v_taped v_at v_fault v_laid v_open k11)) fx h [0, 2] rfl rfl rfl rfl (q_runV fx h hl.1 [0, 2] rfl rfl (tX5_finds l D cI cJ cZ cS tb a_t a_s a_keptS a_statuses a_pile a_tape a_steps a_wish a_mark a_bitsOf a_sizeOf a_number a_moved H.size v_isKept v_taped v_at v_fault v_laid v_open v_statuses (-1000000002) r11 k11 hg) mvX5_finds k_702 ⟨rfl, rfl⟩ ⟨Nat.le_of_ble_eq_true rfl, Nat.le_of_ble_eq_true rfl⟩ rfl rfl rfl rfl (Nat.le_of_ble_eq_true rfl) dX5_guest_45 ⟨Nat.le_of_ble_eq_true rfl, Nat.le_of_ble_eq_true rfl⟩) (fun H locs h => ?_)
    exact q_reti (fun k : (Nat → Int32) × (Nat → Int32) => (wX5_guest cI cJ cZ cS a_t a_s a_keptS a_statuses a_pile a_tape a_steps a_wish a_mark a_bitsOf a_sizeOf a_number a_moved v_isKept v_taped v_at v_fault v_laid v_open k.1 k.2)) fx hf h dX5_guest_48
  have hf := it_t c5 hf
  exact LX5_guest_24 fx h (lv_sub hl [0] rfl) hf
/-! X5_others -/
abbrev wX5_others (cI cJ cZ cS : ClassId) : va_W := []
abbrev rX5_others : Room := { frames := 1, cells := 0, slots := 0, locals := 22 }
def fX5_others (x0 : Int32) (x1 : Int32) : Option (Int32 × Unit) :=
  bR (fX5_ones (x1 &&& ((jshl 1 x0) ^^^ (-1)))) (fun r1 k1 =>
  some (r1, ()))
set_option maxRecDepth 100000 in
set_option maxHeartbeats 4000000 in
theorem tX5_others (l : Launch) (D : va_G) (cI cJ cZ cS : ClassId) (tb : Nat) (sz : Nat) (x0 : Int32) (x1 : Int32) (rr : Int32) (kk' : Unit) (hf : fX5_others x0 x1 = some (rr, kk')) : Met l yX5_others (Cond.code yX5_others cX5_others 2 (some .int) :: wA) rX5_others (q_Pre D cI cJ cZ cS tb [.int x0, .int x1] sz (wX5_others cI cJ cZ cS)) (q_Ri D rr (va_A (wX5_others cI cJ cZ cS) sz) ((fun k : Unit => (wX5_others cI cJ cZ cS)) kk')) 0 0 (va_A (wX5_others cI cJ cZ cS) sz) := by
  refine q_enter (Qf := fun A => (q_Ri D rr A ((fun k : Unit => (wX5_others cI cJ cZ cS)) kk'))) (by decide) rfl (Nat.le_of_ble_eq_true rfl) ?_
  intro p e s m below meth c A ls fx hname h hl
  have hx := fx.1
  have hb := fx.2.1
  have hl : lv_has ls 2 [(0, .int x0), (1, .int x1)] := hl
  generalize h9 : s.heap = H at h ⊢
  clear h9
  generalize h9 : ([] : List Loc) = locs at h ⊢
  clear h9
  unfold fX5_others at hf
  refine lv_iload_n hx hb dX5_others_0 rfl (lv_at hl 1 rfl) ?_
  refine lv_iconst (v := 1) hx hb dX5_others_1 (by decide) ?_
  refine lv_iload_n hx hb dX5_others_2 rfl (lv_at hl 0 rfl) ?_
  refine lv_ishl hx hb dX5_others_3 ?_
  refine lv_iconst (v := -1) hx hb dX5_others_4 (by decide) ?_
  refine lv_ixor hx hb dX5_others_5 ?_
  refine lv_iand hx hb dX5_others_6 ?_
  obtain ⟨r1, k1, hg, hf⟩ := bR_inv hf
  refine q_ci (rest := []) (ws' := (wX5_others cI cJ cZ cS)) (w1 := (wX5_ones cI cJ cZ cS)) fx h [] rfl rfl rfl rfl (q_runS fx h hl.1 [] rfl rfl (tX5_ones l D cI cJ cZ cS tb H.size (x1 &&& ((jshl 1 x0) ^^^ (-1))) r1 k1 hg) msX5_ones k_722 ⟨rfl, rfl⟩ ⟨Nat.le_of_ble_eq_true rfl, Nat.le_of_ble_eq_true rfl⟩ rfl rfl (Nat.le_of_ble_eq_true rfl) dX5_others_7 ⟨Nat.le_of_ble_eq_true rfl, Nat.le_of_ble_eq_true rfl⟩) (fun H locs h => ?_)
  exact q_reti (fun k : Unit => (wX5_others cI cJ cZ cS)) fx hf h dX5_others_10
/-! X5_holds -/
abbrev wX5_holds (cI cJ cZ cS : ClassId) (a_t a_s a_keptS a_statuses a_pile a_tape a_steps a_wish a_mark a_bitsOf a_sizeOf a_number a_moved : Nat) (v_isKept : Int32) (v_taped : Int32) (v_at : Int32) (v_fault : Int32) (v_laid : Int32) (v_open : Int32) (v_s : Nat → Int32) (v_pile : Nat → Int32) : va_W := [(a_t, .inr (5, [.ref a_s, .ref a_keptS, .ref a_statuses, .int v_isKept, .ref a_pile, .ref a_tape, .ref a_steps, .int v_taped, .int v_at, .int v_fault, .int v_laid, .int v_open, .ref a_wish, .ref a_mark, .ref a_bitsOf, .ref a_sizeOf, .ref a_number, .ref a_moved])), (a_s, .inl (cI, 538, .inl v_s)), (a_pile, .inl (cZ, 64, .inl v_pile))]
abbrev rX5_holds : Room := { frames := 2, cells := 0, slots := 0, locals := 43 }
def fX5_holds_294 (v_s : Nat → Int32) (ag13 : (Nat → Int32) → Int32 → Int32 → Int32 → Int32 → Int32 → Option (Int32 × (Nat → Int32))) (v_pile : Nat → Int32) (y1 : Int32) (y2 : Int32) (y3 : Int32) (y4 : Int32) (y5 : Int32) : Option (Int32 × (Nat → Int32)) :=
  nm (y5 + 1) (fun u1 =>
  ag13 v_pile y1 y2 y3 y4 u1)
set_option maxRecDepth 100000 in
set_option maxHeartbeats 4000000 in
theorem LX5_holds_294 {p : Program} {l : Launch} {e : Env} {s : State} {m : MethodId} {args : Array Value} {below : List Frame} {meth : Method} {c : Code} {D : va_G} {cI cJ cZ cS : ClassId} {tb : Nat} {A : Nat → Prop} {a_t a_s a_keptS a_statuses a_pile a_tape a_steps a_wish a_mark a_bitsOf a_sizeOf a_number a_moved : Nat} {v_isKept : Int32} {v_taped : Int32} {v_at : Int32} {v_fault : Int32} {v_laid : Int32} {v_open : Int32} {v_s : Nat → Int32} {rr : Int32} {kk' : (Nat → Int32)} (fx : q_Fx p s m args meth c cX5_holds 8 RX5 (some .boolean) D cI cJ cZ cS tb A) {ag13 : (Nat → Int32) → Int32 → Int32 → Int32 → Int32 → Int32 → Option (Int32 × (Nat → Int32))} (hag13 : ∀ {v_pile : Nat → Int32} {y1 : Int32} {y2 : Int32} {y3 : Int32} {y4 : Int32} {y5 : Int32} {H : Heap} {locs : List Loc} {ls : Array Slot}, q_H D A s (wX5_holds cI cJ cZ cS a_t a_s a_keptS a_statuses a_pile a_tape a_steps a_wish a_mark a_bitsOf a_sizeOf a_number a_moved v_isKept v_taped v_at v_fault v_laid v_open v_s v_pile) H locs → lv_has ls 8 [(0, .ref a_t), (1, .int y1), (2, .int y2), (3, .int y3), (4, .int y4), (5, .int y5)] → ag13 v_pile y1 y2 y3 y4 y5 = some (rr, kk') → W p l e rX5_holds s m args below meth c H locs 0 0 (MQ below (q_Ri D rr A ((fun k : (Nat → Int32) => (wX5_holds cI cJ cZ cS a_t a_s a_keptS a_statuses a_pile a_tape a_steps a_wish a_mark a_bitsOf a_sizeOf a_number a_moved v_isKept v_taped v_at v_fault v_laid v_open v_s k)) kk')) args s 0 0 A) (F0 m 13 ls [])) : ∀ {v_pile : Nat → Int32} {y1 : Int32} {y2 : Int32} {y3 : Int32} {y4 : Int32} {y5 : Int32} {H : Heap} {locs : List Loc} {ls : Array Slot}, q_H D A s (wX5_holds cI cJ cZ cS a_t a_s a_keptS a_statuses a_pile a_tape a_steps a_wish a_mark a_bitsOf a_sizeOf a_number a_moved v_isKept v_taped v_at v_fault v_laid v_open v_s v_pile) H locs → lv_has ls 8 [(0, .ref a_t), (1, .int y1), (2, .int y2), (3, .int y3), (4, .int y4), (5, .int y5)] → fX5_holds_294 v_s ag13 v_pile y1 y2 y3 y4 y5 = some (rr, kk') → W p l e rX5_holds s m args below meth c H locs 0 0 (MQ below (q_Ri D rr A ((fun k : (Nat → Int32) => (wX5_holds cI cJ cZ cS a_t a_s a_keptS a_statuses a_pile a_tape a_steps a_wish a_mark a_bitsOf a_sizeOf a_number a_moved v_isKept v_taped v_at v_fault v_laid v_open v_s k)) kk')) args s 0 0 A) (F0 m 294 ls []) := by
  intro v_pile y1 y2 y3 y4 y5 H locs ls h hl hf
  have hx := fx.1
  have hb := fx.2.1
  unfold fX5_holds_294 at hf
  obtain ⟨u1, eu1, hf⟩ := nm_inv hf
  refine lv_iinc (v := u1) (lv' := [(5, .int u1), (0, .ref a_t), (1, .int y1), (2, .int y2), (3, .int y3), (4, .int y4)]) hx hb dX5_holds_294 hl (k := 5) rfl (by rw [eu1]; rfl) (by decide) rfl (fun ls hl => ?_)
  refine lv_goto (tgt := 13) hx hb dX5_holds_297 (by decide) ?_
  exact hag13 h (lv_sub hl [1, 2, 3, 4, 5, 0] rfl) hf
def fX5_holds_293 (v_s : Nat → Int32) (ag13 : (Nat → Int32) → Int32 → Int32 → Int32 → Int32 → Int32 → Option (Int32 × (Nat → Int32))) (v_pile : Nat → Int32) (s1 : Int32) (s2 : Int32) (y1 : Int32) (y2 : Int32) (y3 : Int32) (y4 : Int32) (y5 : Int32) : Option (Int32 × (Nat → Int32)) :=
  gIn s1 64 (
  fX5_holds_294 v_s ag13 (upd v_pile s1.toNatClampNeg (vp_nar .boolean s2)) y1 y2 y3 y4 y5)
set_option maxRecDepth 100000 in
set_option maxHeartbeats 4000000 in
theorem LX5_holds_293 {p : Program} {l : Launch} {e : Env} {s : State} {m : MethodId} {args : Array Value} {below : List Frame} {meth : Method} {c : Code} {D : va_G} {cI cJ cZ cS : ClassId} {tb : Nat} {A : Nat → Prop} {a_t a_s a_keptS a_statuses a_pile a_tape a_steps a_wish a_mark a_bitsOf a_sizeOf a_number a_moved : Nat} {v_isKept : Int32} {v_taped : Int32} {v_at : Int32} {v_fault : Int32} {v_laid : Int32} {v_open : Int32} {v_s : Nat → Int32} {rr : Int32} {kk' : (Nat → Int32)} (fx : q_Fx p s m args meth c cX5_holds 8 RX5 (some .boolean) D cI cJ cZ cS tb A) {ag13 : (Nat → Int32) → Int32 → Int32 → Int32 → Int32 → Int32 → Option (Int32 × (Nat → Int32))} (hag13 : ∀ {v_pile : Nat → Int32} {y1 : Int32} {y2 : Int32} {y3 : Int32} {y4 : Int32} {y5 : Int32} {H : Heap} {locs : List Loc} {ls : Array Slot}, q_H D A s (wX5_holds cI cJ cZ cS a_t a_s a_keptS a_statuses a_pile a_tape a_steps a_wish a_mark a_bitsOf a_sizeOf a_number a_moved v_isKept v_taped v_at v_fault v_laid v_open v_s v_pile) H locs → lv_has ls 8 [(0, .ref a_t), (1, .int y1), (2, .int y2), (3, .int y3), (4, .int y4), (5, .int y5)] → ag13 v_pile y1 y2 y3 y4 y5 = some (rr, kk') → W p l e rX5_holds s m args below meth c H locs 0 0 (MQ below (q_Ri D rr A ((fun k : (Nat → Int32) => (wX5_holds cI cJ cZ cS a_t a_s a_keptS a_statuses a_pile a_tape a_steps a_wish a_mark a_bitsOf a_sizeOf a_number a_moved v_isKept v_taped v_at v_fault v_laid v_open v_s k)) kk')) args s 0 0 A) (F0 m 13 ls [])) : ∀ {v_pile : Nat → Int32} {s1 : Int32} {s2 : Int32} {y1 : Int32} {y2 : Int32} {y3 : Int32} {y4 : Int32} {y5 : Int32} {H : Heap} {locs : List Loc} {ls : Array Slot}, q_H D A s (wX5_holds cI cJ cZ cS a_t a_s a_keptS a_statuses a_pile a_tape a_steps a_wish a_mark a_bitsOf a_sizeOf a_number a_moved v_isKept v_taped v_at v_fault v_laid v_open v_s v_pile) H locs → lv_has ls 8 [(0, .ref a_t), (1, .int y1), (2, .int y2), (3, .int y3), (4, .int y4), (5, .int y5)] → fX5_holds_293 v_s ag13 v_pile s1 s2 y1 y2 y3 y4 y5 = some (rr, kk') → W p l e rX5_holds s m args below meth c H locs 0 0 (MQ below (q_Ri D rr A ((fun k : (Nat → Int32) => (wX5_holds cI cJ cZ cS a_t a_s a_keptS a_statuses a_pile a_tape a_steps a_wish a_mark a_bitsOf a_sizeOf a_number a_moved v_isKept v_taped v_at v_fault v_laid v_open v_s k)) kk')) args s 0 0 A) (F0 m 293 ls [.int s2, .int s1, .ref a_pile]) := by
  intro v_pile s1 s2 y1 y2 y3 y4 y5 H locs ls h hl hf
  have hx := fx.1
  have hb := fx.2.1
  unfold fX5_holds_293 at hf
  obtain ⟨i2, hf⟩ := gIn_inv hf
  refine q_zast (ws' := (wX5_holds cI cJ cZ cS a_t a_s a_keptS a_statuses a_pile a_tape a_steps a_wish a_mark a_bitsOf a_sizeOf a_number a_moved v_isKept v_taped v_at v_fault v_laid v_open v_s (upd v_pile s1.toNatClampNeg (vp_nar .boolean s2)))) fx h 2 rfl i2 rfl dX5_holds_293 (fun H locs h => ?_)
  exact LX5_holds_294 fx hag13 h (lv_sub hl [0, 1, 2, 3, 4, 5] rfl) hf
def fX5_holds_288 (v_s : Nat → Int32) (ag13 : (Nat → Int32) → Int32 → Int32 → Int32 → Int32 → Int32 → Option (Int32 × (Nat → Int32))) (v_pile : Nat → Int32) (s1 : Int32) (y1 : Int32) (y2 : Int32) (y3 : Int32) (y4 : Int32) (y5 : Int32) : Option (Int32 × (Nat → Int32)) :=
  fX5_holds_293 v_s ag13 v_pile s1 1 y1 y2 y3 y4 y5
set_option maxRecDepth 100000 in
set_option maxHeartbeats 4000000 in
theorem LX5_holds_288 {p : Program} {l : Launch} {e : Env} {s : State} {m : MethodId} {args : Array Value} {below : List Frame} {meth : Method} {c : Code} {D : va_G} {cI cJ cZ cS : ClassId} {tb : Nat} {A : Nat → Prop} {a_t a_s a_keptS a_statuses a_pile a_tape a_steps a_wish a_mark a_bitsOf a_sizeOf a_number a_moved : Nat} {v_isKept : Int32} {v_taped : Int32} {v_at : Int32} {v_fault : Int32} {v_laid : Int32} {v_open : Int32} {v_s : Nat → Int32} {rr : Int32} {kk' : (Nat → Int32)} (fx : q_Fx p s m args meth c cX5_holds 8 RX5 (some .boolean) D cI cJ cZ cS tb A) {ag13 : (Nat → Int32) → Int32 → Int32 → Int32 → Int32 → Int32 → Option (Int32 × (Nat → Int32))} (hag13 : ∀ {v_pile : Nat → Int32} {y1 : Int32} {y2 : Int32} {y3 : Int32} {y4 : Int32} {y5 : Int32} {H : Heap} {locs : List Loc} {ls : Array Slot}, q_H D A s (wX5_holds cI cJ cZ cS a_t a_s a_keptS a_statuses a_pile a_tape a_steps a_wish a_mark a_bitsOf a_sizeOf a_number a_moved v_isKept v_taped v_at v_fault v_laid v_open v_s v_pile) H locs → lv_has ls 8 [(0, .ref a_t), (1, .int y1), (2, .int y2), (3, .int y3), (4, .int y4), (5, .int y5)] → ag13 v_pile y1 y2 y3 y4 y5 = some (rr, kk') → W p l e rX5_holds s m args below meth c H locs 0 0 (MQ below (q_Ri D rr A ((fun k : (Nat → Int32) => (wX5_holds cI cJ cZ cS a_t a_s a_keptS a_statuses a_pile a_tape a_steps a_wish a_mark a_bitsOf a_sizeOf a_number a_moved v_isKept v_taped v_at v_fault v_laid v_open v_s k)) kk')) args s 0 0 A) (F0 m 13 ls [])) : ∀ {v_pile : Nat → Int32} {s1 : Int32} {y1 : Int32} {y2 : Int32} {y3 : Int32} {y4 : Int32} {y5 : Int32} {H : Heap} {locs : List Loc} {ls : Array Slot}, q_H D A s (wX5_holds cI cJ cZ cS a_t a_s a_keptS a_statuses a_pile a_tape a_steps a_wish a_mark a_bitsOf a_sizeOf a_number a_moved v_isKept v_taped v_at v_fault v_laid v_open v_s v_pile) H locs → lv_has ls 8 [(0, .ref a_t), (1, .int y1), (2, .int y2), (3, .int y3), (4, .int y4), (5, .int y5)] → fX5_holds_288 v_s ag13 v_pile s1 y1 y2 y3 y4 y5 = some (rr, kk') → W p l e rX5_holds s m args below meth c H locs 0 0 (MQ below (q_Ri D rr A ((fun k : (Nat → Int32) => (wX5_holds cI cJ cZ cS a_t a_s a_keptS a_statuses a_pile a_tape a_steps a_wish a_mark a_bitsOf a_sizeOf a_number a_moved v_isKept v_taped v_at v_fault v_laid v_open v_s k)) kk')) args s 0 0 A) (F0 m 288 ls [.int s1, .ref a_pile]) := by
  intro v_pile s1 y1 y2 y3 y4 y5 H locs ls h hl hf
  have hx := fx.1
  have hb := fx.2.1
  unfold fX5_holds_288 at hf
  refine lv_iconst (v := 1) hx hb dX5_holds_288 (by decide) ?_
  refine lv_goto (tgt := 293) hx hb dX5_holds_289 (by decide) ?_
  exact LX5_holds_293 fx hag13 h (lv_sub hl [0, 1, 2, 3, 4, 5] rfl) hf
def fX5_holds_262 (v_s : Nat → Int32) (ag13 : (Nat → Int32) → Int32 → Int32 → Int32 → Int32 → Int32 → Option (Int32 × (Nat → Int32))) (v_pile : Nat → Int32) (s1 : Int32) (y1 : Int32) (y2 : Int32) (y3 : Int32) (y4 : Int32) (y5 : Int32) : Option (Int32 × (Nat → Int32)) :=
  fX5_holds_293 v_s ag13 v_pile s1 0 y1 y2 y3 y4 y5
set_option maxRecDepth 100000 in
set_option maxHeartbeats 4000000 in
theorem LX5_holds_262 {p : Program} {l : Launch} {e : Env} {s : State} {m : MethodId} {args : Array Value} {below : List Frame} {meth : Method} {c : Code} {D : va_G} {cI cJ cZ cS : ClassId} {tb : Nat} {A : Nat → Prop} {a_t a_s a_keptS a_statuses a_pile a_tape a_steps a_wish a_mark a_bitsOf a_sizeOf a_number a_moved : Nat} {v_isKept : Int32} {v_taped : Int32} {v_at : Int32} {v_fault : Int32} {v_laid : Int32} {v_open : Int32} {v_s : Nat → Int32} {rr : Int32} {kk' : (Nat → Int32)} (fx : q_Fx p s m args meth c cX5_holds 8 RX5 (some .boolean) D cI cJ cZ cS tb A) {ag13 : (Nat → Int32) → Int32 → Int32 → Int32 → Int32 → Int32 → Option (Int32 × (Nat → Int32))} (hag13 : ∀ {v_pile : Nat → Int32} {y1 : Int32} {y2 : Int32} {y3 : Int32} {y4 : Int32} {y5 : Int32} {H : Heap} {locs : List Loc} {ls : Array Slot}, q_H D A s (wX5_holds cI cJ cZ cS a_t a_s a_keptS a_statuses a_pile a_tape a_steps a_wish a_mark a_bitsOf a_sizeOf a_number a_moved v_isKept v_taped v_at v_fault v_laid v_open v_s v_pile) H locs → lv_has ls 8 [(0, .ref a_t), (1, .int y1), (2, .int y2), (3, .int y3), (4, .int y4), (5, .int y5)] → ag13 v_pile y1 y2 y3 y4 y5 = some (rr, kk') → W p l e rX5_holds s m args below meth c H locs 0 0 (MQ below (q_Ri D rr A ((fun k : (Nat → Int32) => (wX5_holds cI cJ cZ cS a_t a_s a_keptS a_statuses a_pile a_tape a_steps a_wish a_mark a_bitsOf a_sizeOf a_number a_moved v_isKept v_taped v_at v_fault v_laid v_open v_s k)) kk')) args s 0 0 A) (F0 m 13 ls [])) : ∀ {v_pile : Nat → Int32} {s1 : Int32} {y1 : Int32} {y2 : Int32} {y3 : Int32} {y4 : Int32} {y5 : Int32} {H : Heap} {locs : List Loc} {ls : Array Slot}, q_H D A s (wX5_holds cI cJ cZ cS a_t a_s a_keptS a_statuses a_pile a_tape a_steps a_wish a_mark a_bitsOf a_sizeOf a_number a_moved v_isKept v_taped v_at v_fault v_laid v_open v_s v_pile) H locs → lv_has ls 8 [(0, .ref a_t), (1, .int y1), (2, .int y2), (3, .int y3), (4, .int y4), (5, .int y5)] → fX5_holds_262 v_s ag13 v_pile s1 y1 y2 y3 y4 y5 = some (rr, kk') → W p l e rX5_holds s m args below meth c H locs 0 0 (MQ below (q_Ri D rr A ((fun k : (Nat → Int32) => (wX5_holds cI cJ cZ cS a_t a_s a_keptS a_statuses a_pile a_tape a_steps a_wish a_mark a_bitsOf a_sizeOf a_number a_moved v_isKept v_taped v_at v_fault v_laid v_open v_s k)) kk')) args s 0 0 A) (F0 m 262 ls [.int s1, .ref a_pile]) := by
  intro v_pile s1 y1 y2 y3 y4 y5 H locs ls h hl hf
  have hx := fx.1
  have hb := fx.2.1
  unfold fX5_holds_262 at hf
  refine lv_iconst (v := 0) hx hb dX5_holds_262 (by decide) ?_
  refine lv_goto (tgt := 293) hx hb dX5_holds_263 (by decide) ?_
  exact LX5_holds_293 fx hag13 h (lv_sub hl [0, 1, 2, 3, 4, 5] rfl) hf
def fX5_holds_213 (v_s : Nat → Int32) (ag13 : (Nat → Int32) → Int32 → Int32 → Int32 → Int32 → Int32 → Option (Int32 × (Nat → Int32))) (v_pile : Nat → Int32) (s1 : Int32) (s2 : Int32) (y1 : Int32) (y2 : Int32) (y3 : Int32) (y4 : Int32) (y5 : Int32) : Option (Int32 × (Nat → Int32)) :=
  gIn s1 64 (
  fX5_holds_294 v_s ag13 (upd v_pile s1.toNatClampNeg (vp_nar .boolean s2)) y1 y2 y3 y4 y5)
set_option maxRecDepth 100000 in
set_option maxHeartbeats 4000000 in
theorem LX5_holds_213 {p : Program} {l : Launch} {e : Env} {s : State} {m : MethodId} {args : Array Value} {below : List Frame} {meth : Method} {c : Code} {D : va_G} {cI cJ cZ cS : ClassId} {tb : Nat} {A : Nat → Prop} {a_t a_s a_keptS a_statuses a_pile a_tape a_steps a_wish a_mark a_bitsOf a_sizeOf a_number a_moved : Nat} {v_isKept : Int32} {v_taped : Int32} {v_at : Int32} {v_fault : Int32} {v_laid : Int32} {v_open : Int32} {v_s : Nat → Int32} {rr : Int32} {kk' : (Nat → Int32)} (fx : q_Fx p s m args meth c cX5_holds 8 RX5 (some .boolean) D cI cJ cZ cS tb A) {ag13 : (Nat → Int32) → Int32 → Int32 → Int32 → Int32 → Int32 → Option (Int32 × (Nat → Int32))} (hag13 : ∀ {v_pile : Nat → Int32} {y1 : Int32} {y2 : Int32} {y3 : Int32} {y4 : Int32} {y5 : Int32} {H : Heap} {locs : List Loc} {ls : Array Slot}, q_H D A s (wX5_holds cI cJ cZ cS a_t a_s a_keptS a_statuses a_pile a_tape a_steps a_wish a_mark a_bitsOf a_sizeOf a_number a_moved v_isKept v_taped v_at v_fault v_laid v_open v_s v_pile) H locs → lv_has ls 8 [(0, .ref a_t), (1, .int y1), (2, .int y2), (3, .int y3), (4, .int y4), (5, .int y5)] → ag13 v_pile y1 y2 y3 y4 y5 = some (rr, kk') → W p l e rX5_holds s m args below meth c H locs 0 0 (MQ below (q_Ri D rr A ((fun k : (Nat → Int32) => (wX5_holds cI cJ cZ cS a_t a_s a_keptS a_statuses a_pile a_tape a_steps a_wish a_mark a_bitsOf a_sizeOf a_number a_moved v_isKept v_taped v_at v_fault v_laid v_open v_s k)) kk')) args s 0 0 A) (F0 m 13 ls [])) : ∀ {v_pile : Nat → Int32} {s1 : Int32} {s2 : Int32} {y1 : Int32} {y2 : Int32} {y3 : Int32} {y4 : Int32} {y5 : Int32} {H : Heap} {locs : List Loc} {ls : Array Slot}, q_H D A s (wX5_holds cI cJ cZ cS a_t a_s a_keptS a_statuses a_pile a_tape a_steps a_wish a_mark a_bitsOf a_sizeOf a_number a_moved v_isKept v_taped v_at v_fault v_laid v_open v_s v_pile) H locs → lv_has ls 8 [(0, .ref a_t), (1, .int y1), (2, .int y2), (3, .int y3), (4, .int y4), (5, .int y5)] → fX5_holds_213 v_s ag13 v_pile s1 s2 y1 y2 y3 y4 y5 = some (rr, kk') → W p l e rX5_holds s m args below meth c H locs 0 0 (MQ below (q_Ri D rr A ((fun k : (Nat → Int32) => (wX5_holds cI cJ cZ cS a_t a_s a_keptS a_statuses a_pile a_tape a_steps a_wish a_mark a_bitsOf a_sizeOf a_number a_moved v_isKept v_taped v_at v_fault v_laid v_open v_s k)) kk')) args s 0 0 A) (F0 m 213 ls [.int s2, .int s1, .ref a_pile]) := by
  intro v_pile s1 s2 y1 y2 y3 y4 y5 H locs ls h hl hf
  have hx := fx.1
  have hb := fx.2.1
  unfold fX5_holds_213 at hf
  obtain ⟨i3, hf⟩ := gIn_inv hf
  refine q_zast (ws' := (wX5_holds cI cJ cZ cS a_t a_s a_keptS a_statuses a_pile a_tape a_steps a_wish a_mark a_bitsOf a_sizeOf a_number a_moved v_isKept v_taped v_at v_fault v_laid v_open v_s (upd v_pile s1.toNatClampNeg (vp_nar .boolean s2)))) fx h 2 rfl i3 rfl dX5_holds_213 (fun H locs h => ?_)
  refine lv_goto (tgt := 294) hx hb dX5_holds_214 (by decide) ?_
  exact LX5_holds_294 fx hag13 h (lv_sub hl [0, 1, 2, 3, 4, 5] rfl) hf
def fX5_holds_173 (v_s : Nat → Int32) (ag13 : (Nat → Int32) → Int32 → Int32 → Int32 → Int32 → Int32 → Option (Int32 × (Nat → Int32))) (v_pile : Nat → Int32) (s1 : Int32) (s2 : Int32) (y1 : Int32) (y2 : Int32) (y3 : Int32) (y4 : Int32) (y5 : Int32) : Option (Int32 × (Nat → Int32)) :=
  gIn s1 64 (
  nm (y4 + 1) (fun u5 =>
  fX5_holds_294 v_s ag13 (upd v_pile s1.toNatClampNeg (vp_nar .boolean s2)) y1 y2 y3 u5 y5))
set_option maxRecDepth 100000 in
set_option maxHeartbeats 4000000 in
theorem LX5_holds_173 {p : Program} {l : Launch} {e : Env} {s : State} {m : MethodId} {args : Array Value} {below : List Frame} {meth : Method} {c : Code} {D : va_G} {cI cJ cZ cS : ClassId} {tb : Nat} {A : Nat → Prop} {a_t a_s a_keptS a_statuses a_pile a_tape a_steps a_wish a_mark a_bitsOf a_sizeOf a_number a_moved : Nat} {v_isKept : Int32} {v_taped : Int32} {v_at : Int32} {v_fault : Int32} {v_laid : Int32} {v_open : Int32} {v_s : Nat → Int32} {rr : Int32} {kk' : (Nat → Int32)} (fx : q_Fx p s m args meth c cX5_holds 8 RX5 (some .boolean) D cI cJ cZ cS tb A) {ag13 : (Nat → Int32) → Int32 → Int32 → Int32 → Int32 → Int32 → Option (Int32 × (Nat → Int32))} (hag13 : ∀ {v_pile : Nat → Int32} {y1 : Int32} {y2 : Int32} {y3 : Int32} {y4 : Int32} {y5 : Int32} {H : Heap} {locs : List Loc} {ls : Array Slot}, q_H D A s (wX5_holds cI cJ cZ cS a_t a_s a_keptS a_statuses a_pile a_tape a_steps a_wish a_mark a_bitsOf a_sizeOf a_number a_moved v_isKept v_taped v_at v_fault v_laid v_open v_s v_pile) H locs → lv_has ls 8 [(0, .ref a_t), (1, .int y1), (2, .int y2), (3, .int y3), (4, .int y4), (5, .int y5)] → ag13 v_pile y1 y2 y3 y4 y5 = some (rr, kk') → W p l e rX5_holds s m args below meth c H locs 0 0 (MQ below (q_Ri D rr A ((fun k : (Nat → Int32) => (wX5_holds cI cJ cZ cS a_t a_s a_keptS a_statuses a_pile a_tape a_steps a_wish a_mark a_bitsOf a_sizeOf a_number a_moved v_isKept v_taped v_at v_fault v_laid v_open v_s k)) kk')) args s 0 0 A) (F0 m 13 ls [])) : ∀ {v_pile : Nat → Int32} {s1 : Int32} {s2 : Int32} {y1 : Int32} {y2 : Int32} {y3 : Int32} {y4 : Int32} {y5 : Int32} {H : Heap} {locs : List Loc} {ls : Array Slot}, q_H D A s (wX5_holds cI cJ cZ cS a_t a_s a_keptS a_statuses a_pile a_tape a_steps a_wish a_mark a_bitsOf a_sizeOf a_number a_moved v_isKept v_taped v_at v_fault v_laid v_open v_s v_pile) H locs → lv_has ls 8 [(0, .ref a_t), (1, .int y1), (2, .int y2), (3, .int y3), (4, .int y4), (5, .int y5)] → fX5_holds_173 v_s ag13 v_pile s1 s2 y1 y2 y3 y4 y5 = some (rr, kk') → W p l e rX5_holds s m args below meth c H locs 0 0 (MQ below (q_Ri D rr A ((fun k : (Nat → Int32) => (wX5_holds cI cJ cZ cS a_t a_s a_keptS a_statuses a_pile a_tape a_steps a_wish a_mark a_bitsOf a_sizeOf a_number a_moved v_isKept v_taped v_at v_fault v_laid v_open v_s k)) kk')) args s 0 0 A) (F0 m 173 ls [.int s2, .int s1, .ref a_pile]) := by
  intro v_pile s1 s2 y1 y2 y3 y4 y5 H locs ls h hl hf
  have hx := fx.1
  have hb := fx.2.1
  unfold fX5_holds_173 at hf
  obtain ⟨i4, hf⟩ := gIn_inv hf
  refine q_zast (ws' := (wX5_holds cI cJ cZ cS a_t a_s a_keptS a_statuses a_pile a_tape a_steps a_wish a_mark a_bitsOf a_sizeOf a_number a_moved v_isKept v_taped v_at v_fault v_laid v_open v_s (upd v_pile s1.toNatClampNeg (vp_nar .boolean s2)))) fx h 2 rfl i4 rfl dX5_holds_173 (fun H locs h => ?_)
  obtain ⟨u5, eu5, hf⟩ := nm_inv hf
  refine lv_iinc (v := u5) (lv' := [(4, .int u5), (0, .ref a_t), (1, .int y1), (2, .int y2), (3, .int y3), (5, .int y5)]) hx hb dX5_holds_174 hl (k := 4) rfl (by rw [eu5]; rfl) (by decide) rfl (fun ls hl => ?_)
  refine lv_goto (tgt := 294) hx hb dX5_holds_177 (by decide) ?_
  exact LX5_holds_294 fx hag13 h (lv_sub hl [1, 2, 3, 4, 0, 5] rfl) hf
def fX5_holds_139 (v_s : Nat → Int32) (ag13 : (Nat → Int32) → Int32 → Int32 → Int32 → Int32 → Int32 → Option (Int32 × (Nat → Int32))) (v_pile : Nat → Int32) (s1 : Int32) (s2 : Int32) (y1 : Int32) (y2 : Int32) (y3 : Int32) (y4 : Int32) (y5 : Int32) : Option (Int32 × (Nat → Int32)) :=
  gIn s1 64 (
  nm (y4 + 1) (fun u7 =>
  fX5_holds_294 v_s ag13 (upd v_pile s1.toNatClampNeg (vp_nar .boolean s2)) y1 y2 y3 u7 y5))
set_option maxRecDepth 100000 in
set_option maxHeartbeats 4000000 in
theorem LX5_holds_139 {p : Program} {l : Launch} {e : Env} {s : State} {m : MethodId} {args : Array Value} {below : List Frame} {meth : Method} {c : Code} {D : va_G} {cI cJ cZ cS : ClassId} {tb : Nat} {A : Nat → Prop} {a_t a_s a_keptS a_statuses a_pile a_tape a_steps a_wish a_mark a_bitsOf a_sizeOf a_number a_moved : Nat} {v_isKept : Int32} {v_taped : Int32} {v_at : Int32} {v_fault : Int32} {v_laid : Int32} {v_open : Int32} {v_s : Nat → Int32} {rr : Int32} {kk' : (Nat → Int32)} (fx : q_Fx p s m args meth c cX5_holds 8 RX5 (some .boolean) D cI cJ cZ cS tb A) {ag13 : (Nat → Int32) → Int32 → Int32 → Int32 → Int32 → Int32 → Option (Int32 × (Nat → Int32))} (hag13 : ∀ {v_pile : Nat → Int32} {y1 : Int32} {y2 : Int32} {y3 : Int32} {y4 : Int32} {y5 : Int32} {H : Heap} {locs : List Loc} {ls : Array Slot}, q_H D A s (wX5_holds cI cJ cZ cS a_t a_s a_keptS a_statuses a_pile a_tape a_steps a_wish a_mark a_bitsOf a_sizeOf a_number a_moved v_isKept v_taped v_at v_fault v_laid v_open v_s v_pile) H locs → lv_has ls 8 [(0, .ref a_t), (1, .int y1), (2, .int y2), (3, .int y3), (4, .int y4), (5, .int y5)] → ag13 v_pile y1 y2 y3 y4 y5 = some (rr, kk') → W p l e rX5_holds s m args below meth c H locs 0 0 (MQ below (q_Ri D rr A ((fun k : (Nat → Int32) => (wX5_holds cI cJ cZ cS a_t a_s a_keptS a_statuses a_pile a_tape a_steps a_wish a_mark a_bitsOf a_sizeOf a_number a_moved v_isKept v_taped v_at v_fault v_laid v_open v_s k)) kk')) args s 0 0 A) (F0 m 13 ls [])) : ∀ {v_pile : Nat → Int32} {s1 : Int32} {s2 : Int32} {y1 : Int32} {y2 : Int32} {y3 : Int32} {y4 : Int32} {y5 : Int32} {H : Heap} {locs : List Loc} {ls : Array Slot}, q_H D A s (wX5_holds cI cJ cZ cS a_t a_s a_keptS a_statuses a_pile a_tape a_steps a_wish a_mark a_bitsOf a_sizeOf a_number a_moved v_isKept v_taped v_at v_fault v_laid v_open v_s v_pile) H locs → lv_has ls 8 [(0, .ref a_t), (1, .int y1), (2, .int y2), (3, .int y3), (4, .int y4), (5, .int y5)] → fX5_holds_139 v_s ag13 v_pile s1 s2 y1 y2 y3 y4 y5 = some (rr, kk') → W p l e rX5_holds s m args below meth c H locs 0 0 (MQ below (q_Ri D rr A ((fun k : (Nat → Int32) => (wX5_holds cI cJ cZ cS a_t a_s a_keptS a_statuses a_pile a_tape a_steps a_wish a_mark a_bitsOf a_sizeOf a_number a_moved v_isKept v_taped v_at v_fault v_laid v_open v_s k)) kk')) args s 0 0 A) (F0 m 139 ls [.int s2, .int s1, .ref a_pile]) := by
  intro v_pile s1 s2 y1 y2 y3 y4 y5 H locs ls h hl hf
  have hx := fx.1
  have hb := fx.2.1
  unfold fX5_holds_139 at hf
  obtain ⟨i6, hf⟩ := gIn_inv hf
  refine q_zast (ws' := (wX5_holds cI cJ cZ cS a_t a_s a_keptS a_statuses a_pile a_tape a_steps a_wish a_mark a_bitsOf a_sizeOf a_number a_moved v_isKept v_taped v_at v_fault v_laid v_open v_s (upd v_pile s1.toNatClampNeg (vp_nar .boolean s2)))) fx h 2 rfl i6 rfl dX5_holds_139 (fun H locs h => ?_)
  obtain ⟨u7, eu7, hf⟩ := nm_inv hf
  refine lv_iinc (v := u7) (lv' := [(4, .int u7), (0, .ref a_t), (1, .int y1), (2, .int y2), (3, .int y3), (5, .int y5)]) hx hb dX5_holds_140 hl (k := 4) rfl (by rw [eu7]; rfl) (by decide) rfl (fun ls hl => ?_)
  refine lv_goto (tgt := 294) hx hb dX5_holds_143 (by decide) ?_
  exact LX5_holds_294 fx hag13 h (lv_sub hl [1, 2, 3, 4, 0, 5] rfl) hf
def fX5_holds_13 (v_s : Nat → Int32) (ag13 : (Nat → Int32) → Int32 → Int32 → Int32 → Int32 → Int32 → Option (Int32 × (Nat → Int32))) (v_pile : Nat → Int32) (y1 : Int32) (y2 : Int32) (y3 : Int32) (y4 : Int32) (y5 : Int32) : Option (Int32 × (Nat → Int32)) :=
  (if y3 ≤ y5 then (
  (if y3 = 0 then (
  some (1, v_pile))
  else (
  (if (v_pile 0) = 0 then (
  some (0, v_pile))
  else (
  some (1, v_pile))))))
  else (
  gIn ((26 + (64 * y1)) + y5) 538 (
  nm (v_s ((26 + (64 * y1)) + y5).toNatClampNeg) (fun u12 =>
  (if (8 : Int32) ≤ u12 then (
  (if (130 : Int32) ≤ u12 then (
  (if (140 : Int32) ≤ u12 then (
  (if u12 = 140 then (
  gIn (y4 - 1) 64 (
  (if (v_pile (y4 - 1).toNatClampNeg) = 0 then (
  fX5_holds_213 v_s ag13 v_pile (y4 - 1) 1 y1 y2 y3 y4 y5)
  else (
  fX5_holds_213 v_s ag13 v_pile (y4 - 1) 0 y1 y2 y3 y4 y5))))
  else (
  nm (y4 + (-1)) (fun u17 =>
  (if u12 = 141 then (
  gIn (u17 - 1) 64 (
  (if (v_pile (u17 - 1).toNatClampNeg) = 0 then (
  fX5_holds_262 v_s ag13 v_pile (u17 - 1) y1 y2 y3 u17 y5)
  else (
  gIn u17 64 (
  (if (v_pile u17.toNatClampNeg) = 0 then (
  fX5_holds_262 v_s ag13 v_pile (u17 - 1) y1 y2 y3 u17 y5)
  else (
  fX5_holds_293 v_s ag13 v_pile (u17 - 1) 1 y1 y2 y3 u17 y5)))))))
  else (
  gIn (u17 - 1) 64 (
  (if (v_pile (u17 - 1).toNatClampNeg) = 0 then (
  gIn u17 64 (
  (if (v_pile u17.toNatClampNeg) = 0 then (
  fX5_holds_293 v_s ag13 v_pile (u17 - 1) 0 y1 y2 y3 u17 y5)
  else (
  fX5_holds_288 v_s ag13 v_pile (u17 - 1) y1 y2 y3 u17 y5))))
  else (
  fX5_holds_288 v_s ag13 v_pile (u17 - 1) y1 y2 y3 u17 y5)))))))))
  else (
  (if u12 = 130 then (
  fX5_holds_173 v_s ag13 v_pile y4 1 y1 y2 y3 y4 y5)
  else (
  fX5_holds_173 v_s ag13 v_pile y4 0 y1 y2 y3 y4 y5)))))
  else (
  bR (fX5_others y1 y2) (fun r30 k30 =>
  nm (r30 - (jrem u12 10)) (fun u31 =>
  (if (110 : Int32) ≤ u12 then (
  (if (120 : Int32) ≤ u12 then (
  (if u31 ≤ 0 then (
  fX5_holds_139 v_s ag13 v_pile y4 0 y1 y2 y3 y4 y5)
  else (
  fX5_holds_139 v_s ag13 v_pile y4 1 y1 y2 y3 y4 y5)))
  else (
  (if u31 = 0 then (
  fX5_holds_139 v_s ag13 v_pile y4 1 y1 y2 y3 y4 y5)
  else (
  fX5_holds_139 v_s ag13 v_pile y4 0 y1 y2 y3 y4 y5)))))
  else (
  (if (0 : Int32) ≤ u31 then (
  fX5_holds_139 v_s ag13 v_pile y4 0 y1 y2 y3 y4 y5)
  else (
  fX5_holds_139 v_s ag13 v_pile y4 1 y1 y2 y3 y4 y5)))))))))
  else (
  bR (fX5_has y2 u12) (fun r37 k37 =>
  gIn y4 64 (
  nm (y4 + 1) (fun u39 =>
  fX5_holds_294 v_s ag13 (upd v_pile y4.toNatClampNeg (vp_nar .boolean r37)) y1 y2 y3 u39 y5)))))))))
set_option maxRecDepth 100000 in
set_option maxHeartbeats 4000000 in
theorem LX5_holds_13 {p : Program} {l : Launch} {e : Env} {s : State} {m : MethodId} {args : Array Value} {below : List Frame} {meth : Method} {c : Code} {D : va_G} {cI cJ cZ cS : ClassId} {tb : Nat} {A : Nat → Prop} {a_t a_s a_keptS a_statuses a_pile a_tape a_steps a_wish a_mark a_bitsOf a_sizeOf a_number a_moved : Nat} {v_isKept : Int32} {v_taped : Int32} {v_at : Int32} {v_fault : Int32} {v_laid : Int32} {v_open : Int32} {v_s : Nat → Int32} {rr : Int32} {kk' : (Nat → Int32)} (fx : q_Fx p s m args meth c cX5_holds 8 RX5 (some .boolean) D cI cJ cZ cS tb A) {ag13 : (Nat → Int32) → Int32 → Int32 → Int32 → Int32 → Int32 → Option (Int32 × (Nat → Int32))} (hag13 : ∀ {v_pile : Nat → Int32} {y1 : Int32} {y2 : Int32} {y3 : Int32} {y4 : Int32} {y5 : Int32} {H : Heap} {locs : List Loc} {ls : Array Slot}, q_H D A s (wX5_holds cI cJ cZ cS a_t a_s a_keptS a_statuses a_pile a_tape a_steps a_wish a_mark a_bitsOf a_sizeOf a_number a_moved v_isKept v_taped v_at v_fault v_laid v_open v_s v_pile) H locs → lv_has ls 8 [(0, .ref a_t), (1, .int y1), (2, .int y2), (3, .int y3), (4, .int y4), (5, .int y5)] → ag13 v_pile y1 y2 y3 y4 y5 = some (rr, kk') → W p l e rX5_holds s m args below meth c H locs 0 0 (MQ below (q_Ri D rr A ((fun k : (Nat → Int32) => (wX5_holds cI cJ cZ cS a_t a_s a_keptS a_statuses a_pile a_tape a_steps a_wish a_mark a_bitsOf a_sizeOf a_number a_moved v_isKept v_taped v_at v_fault v_laid v_open v_s k)) kk')) args s 0 0 A) (F0 m 13 ls [])) : ∀ {v_pile : Nat → Int32} {y1 : Int32} {y2 : Int32} {y3 : Int32} {y4 : Int32} {y5 : Int32} {H : Heap} {locs : List Loc} {ls : Array Slot}, q_H D A s (wX5_holds cI cJ cZ cS a_t a_s a_keptS a_statuses a_pile a_tape a_steps a_wish a_mark a_bitsOf a_sizeOf a_number a_moved v_isKept v_taped v_at v_fault v_laid v_open v_s v_pile) H locs → lv_has ls 8 [(0, .ref a_t), (1, .int y1), (2, .int y2), (3, .int y3), (4, .int y4), (5, .int y5)] → fX5_holds_13 v_s ag13 v_pile y1 y2 y3 y4 y5 = some (rr, kk') → W p l e rX5_holds s m args below meth c H locs 0 0 (MQ below (q_Ri D rr A ((fun k : (Nat → Int32) => (wX5_holds cI cJ cZ cS a_t a_s a_keptS a_statuses a_pile a_tape a_steps a_wish a_mark a_bitsOf a_sizeOf a_number a_moved v_isKept v_taped v_at v_fault v_laid v_open v_s k)) kk')) args s 0 0 A) (F0 m 13 ls []) := by
  intro v_pile y1 y2 y3 y4 y5 H locs ls h hl hf
  have hx := fx.1
  have hb := fx.2.1
  unfold fX5_holds_13 at hf
  refine lv_iload hx hb dX5_holds_13 (lv_at hl 5 rfl) ?_
  refine lv_iload_n hx hb dX5_holds_15 rfl (lv_at hl 3 rfl) ?_
  refine lv_icmp_ge (tgt := 300) hx hb dX5_holds_16 (by decide) (fun c8 => ?_) (fun c8 => ?_)
  · have hf := it_t c8 hf
    refine lv_iload_n hx hb dX5_holds_300 rfl (lv_at hl 3 rfl) ?_
    refine lv_if_eq (tgt := 313) hx hb dX5_holds_301 (by decide) (fun c9 => ?_) (fun c9 => ?_)
    · have hf := it_t c9 hf
      refine lv_iconst (v := 1) hx hb dX5_holds_313 (by decide) ?_
      refine lv_goto (tgt := 318) hx hb dX5_holds_314 (by decide) ?_
      exact q_retz (fun k : (Nat → Int32) => (wX5_holds cI cJ cZ cS a_t a_s a_keptS a_statuses a_pile a_tape a_steps a_wish a_mark a_bitsOf a_sizeOf a_number a_moved v_isKept v_taped v_at v_fault v_laid v_open v_s k)) fx rfl hf h dX5_holds_318
    have hf := it_f c9 hf
    refine lv_aload_n hx hb dX5_holds_304 rfl (lv_at hl 0 rfl) ?_
    refine q_get (v := .ref a_pile) fx inX5 h 0 rfl rfl 4 (by decide) k_640 rfl dX5_holds_305 ?_
    refine lv_iconst (v := 0) hx hb dX5_holds_308 (by decide) ?_
    refine q_zaldK fx h 2 rfl 0 (vinK (by decide)) (by decide) dX5_holds_309 ?_
    refine lv_if_eq (tgt := 317) hx hb dX5_holds_310 (by decide) (fun c10 => ?_) (fun c10 => ?_)
    · have hf := it_t c10 hf
      refine lv_iconst (v := 0) hx hb dX5_holds_317 (by decide) ?_
      exact q_retz (fun k : (Nat → Int32) => (wX5_holds cI cJ cZ cS a_t a_s a_keptS a_statuses a_pile a_tape a_steps a_wish a_mark a_bitsOf a_sizeOf a_number a_moved v_isKept v_taped v_at v_fault v_laid v_open v_s k)) fx rfl hf h dX5_holds_318
    have hf := it_f c10 hf
    refine lv_iconst (v := 1) hx hb dX5_holds_313 (by decide) ?_
    refine lv_goto (tgt := 318) hx hb dX5_holds_314 (by decide) ?_
    exact q_retz (fun k : (Nat → Int32) => (wX5_holds cI cJ cZ cS a_t a_s a_keptS a_statuses a_pile a_tape a_steps a_wish a_mark a_bitsOf a_sizeOf a_number a_moved v_isKept v_taped v_at v_fault v_laid v_open v_s k)) fx rfl hf h dX5_holds_318
  have hf := it_f c8 hf
  refine lv_aload_n hx hb dX5_holds_19 rfl (lv_at hl 0 rfl) ?_
  refine q_get (v := .ref a_s) fx inX5 h 0 rfl rfl 0 (by decide) k_636 rfl dX5_holds_20 ?_
  refine lv_bipush (v := 26) hx hb dX5_holds_23 (by decide) ?_
  refine lv_bipush (v := 64) hx hb dX5_holds_25 (by decide) ?_
  refine lv_iload_n hx hb dX5_holds_27 rfl (lv_at hl 1 rfl) ?_
  refine lv_imul hx hb dX5_holds_28 ?_
  refine lv_iadd hx hb dX5_holds_29 ?_
  refine lv_iload hx hb dX5_holds_30 (lv_at hl 5 rfl) ?_
  refine lv_iadd hx hb dX5_holds_32 ?_
  obtain ⟨i11, hf⟩ := gIn_inv hf
  refine q_iald fx h 1 rfl i11 dX5_holds_33 ?_
  obtain ⟨u12, eu12, hf⟩ := nm_inv hf
  refine lv_eqi eu12 ?_
  refine lv_istore (lv' := [(6, .int u12), (0, .ref a_t), (1, .int y1), (2, .int y2), (3, .int y3), (4, .int y4), (5, .int y5)]) hx hb dX5_holds_34 hl (by decide) rfl (fun ls hl => ?_)
  refine lv_iload hx hb dX5_holds_36 (lv_at hl 0 rfl) ?_
  refine lv_bipush (v := 8) hx hb dX5_holds_38 (by decide) ?_
  refine lv_icmp_ge (tgt := 62) hx hb dX5_holds_40 (by decide) (fun c13 => ?_) (fun c13 => ?_)
  · have hf := it_t c13 hf
    refine lv_iload hx hb dX5_holds_62 (lv_at hl 0 rfl) ?_
    refine lv_sipush (v := 130) hx hb dX5_holds_64 (by decide) ?_
    refine lv_icmp_ge (tgt := 146) hx hb dX5_holds_67 (by decide) (fun c14 => ?_) (fun c14 => ?_)
    · have hf := it_t c14 hf
      refine lv_iload hx hb dX5_holds_146 (lv_at hl 0 rfl) ?_
      refine lv_sipush (v := 140) hx hb dX5_holds_148 (by decide) ?_
      refine lv_icmp_ge (tgt := 180) hx hb dX5_holds_151 (by decide) (fun c15 => ?_) (fun c15 => ?_)
      · have hf := it_t c15 hf
        refine lv_iload hx hb dX5_holds_180 (lv_at hl 0 rfl) ?_
        refine lv_sipush (v := 140) hx hb dX5_holds_182 (by decide) ?_
        refine lv_icmp_ne (tgt := 217) hx hb dX5_holds_185 (by decide) (fun c16 => ?_) (fun c16 => ?_)
        · have hf := it_f c16 hf
          obtain ⟨u17, eu17, hf⟩ := nm_inv hf
          refine lv_iinc (v := u17) (lv' := [(4, .int u17), (6, .int u12), (0, .ref a_t), (1, .int y1), (2, .int y2), (3, .int y3), (5, .int y5)]) hx hb dX5_holds_217 hl (k := 5) rfl (by rw [eu17]; rfl) (by decide) rfl (fun ls hl => ?_)
          refine lv_aload_n hx hb dX5_holds_220 rfl (lv_at hl 2 rfl) ?_
          refine q_get (v := .ref a_pile) fx inX5 h 0 rfl rfl 4 (by decide) k_640 rfl dX5_holds_221 ?_
          refine lv_iload hx hb dX5_holds_224 (lv_at hl 0 rfl) ?_
          refine lv_iconst (v := 1) hx hb dX5_holds_226 (by decide) ?_
          refine lv_isub hx hb dX5_holds_227 ?_
          refine lv_iload hx hb dX5_holds_228 (lv_at hl 1 rfl) ?_
          refine lv_sipush (v := 141) hx hb dX5_holds_230 (by decide) ?_
          refine lv_icmp_ne (tgt := 266) hx hb dX5_holds_233 (by decide) (fun c18 => ?_) (fun c18 => ?_)
          · have hf := it_f c18 hf
            refine lv_aload_n hx hb dX5_holds_266 rfl (lv_at hl 2 rfl) ?_
            refine q_get (v := .ref a_pile) fx inX5 h 0 rfl rfl 4 (by decide) k_640 rfl dX5_holds_267 ?_
            refine lv_iload hx hb dX5_holds_270 (lv_at hl 0 rfl) ?_
            refine lv_iconst (v := 1) hx hb dX5_holds_272 (by decide) ?_
            refine lv_isub hx hb dX5_holds_273 ?_
            obtain ⟨i19, hf⟩ := gIn_inv hf
            refine q_zald fx h 2 rfl i19 dX5_holds_274 ?_
            refine lv_if_ne (tgt := 288) hx hb dX5_holds_275 (by decide) (fun c20 => ?_) (fun c20 => ?_)
            · have hf := it_f c20 hf
              exact LX5_holds_288 fx hag13 h (lv_sub hl [2, 3, 4, 5, 0, 6] rfl) hf
            have hf := it_t c20 hf
            refine lv_aload_n hx hb dX5_holds_278 rfl (lv_at hl 2 rfl) ?_
            refine q_get (v := .ref a_pile) fx inX5 h 0 rfl rfl 4 (by decide) k_640 rfl dX5_holds_279 ?_
            refine lv_iload hx hb dX5_holds_282 (lv_at hl 0 rfl) ?_
            obtain ⟨i21, hf⟩ := gIn_inv hf
            refine q_zald fx h 2 rfl i21 dX5_holds_284 ?_
            refine lv_if_eq (tgt := 292) hx hb dX5_holds_285 (by decide) (fun c22 => ?_) (fun c22 => ?_)
            · have hf := it_t c22 hf
              refine lv_iconst (v := 0) hx hb dX5_holds_292 (by decide) ?_
              exact LX5_holds_293 fx hag13 h (lv_sub hl [2, 3, 4, 5, 0, 6] rfl) hf
            have hf := it_f c22 hf
            exact LX5_holds_288 fx hag13 h (lv_sub hl [2, 3, 4, 5, 0, 6] rfl) hf
          have hf := it_t c18 hf
          refine lv_aload_n hx hb dX5_holds_236 rfl (lv_at hl 2 rfl) ?_
          refine q_get (v := .ref a_pile) fx inX5 h 0 rfl rfl 4 (by decide) k_640 rfl dX5_holds_237 ?_
          refine lv_iload hx hb dX5_holds_240 (lv_at hl 0 rfl) ?_
          refine lv_iconst (v := 1) hx hb dX5_holds_242 (by decide) ?_
          refine lv_isub hx hb dX5_holds_243 ?_
          obtain ⟨i23, hf⟩ := gIn_inv hf
          refine q_zald fx h 2 rfl i23 dX5_holds_244 ?_
          refine lv_if_eq (tgt := 262) hx hb dX5_holds_245 (by decide) (fun c24 => ?_) (fun c24 => ?_)
          · have hf := it_t c24 hf
            exact LX5_holds_262 fx hag13 h (lv_sub hl [2, 3, 4, 5, 0, 6] rfl) hf
          have hf := it_f c24 hf
          refine lv_aload_n hx hb dX5_holds_248 rfl (lv_at hl 2 rfl) ?_
          refine q_get (v := .ref a_pile) fx inX5 h 0 rfl rfl 4 (by decide) k_640 rfl dX5_holds_249 ?_
          refine lv_iload hx hb dX5_holds_252 (lv_at hl 0 rfl) ?_
          obtain ⟨i25, hf⟩ := gIn_inv hf
          refine q_zald fx h 2 rfl i25 dX5_holds_254 ?_
          refine lv_if_eq (tgt := 262) hx hb dX5_holds_255 (by decide) (fun c26 => ?_) (fun c26 => ?_)
          · have hf := it_t c26 hf
            exact LX5_holds_262 fx hag13 h (lv_sub hl [2, 3, 4, 5, 0, 6] rfl) hf
          have hf := it_f c26 hf
          refine lv_iconst (v := 1) hx hb dX5_holds_258 (by decide) ?_
          refine lv_goto (tgt := 293) hx hb dX5_holds_259 (by decide) ?_
          exact LX5_holds_293 fx hag13 h (lv_sub hl [2, 3, 4, 5, 0, 6] rfl) hf
        have hf := it_t c16 hf
        refine lv_aload_n hx hb dX5_holds_188 rfl (lv_at hl 1 rfl) ?_
        refine q_get (v := .ref a_pile) fx inX5 h 0 rfl rfl 4 (by decide) k_640 rfl dX5_holds_189 ?_
        refine lv_iload hx hb dX5_holds_192 (lv_at hl 5 rfl) ?_
        refine lv_iconst (v := 1) hx hb dX5_holds_194 (by decide) ?_
        refine lv_isub hx hb dX5_holds_195 ?_
        refine lv_aload_n hx hb dX5_holds_196 rfl (lv_at hl 1 rfl) ?_
        refine q_get (v := .ref a_pile) fx inX5 h 0 rfl rfl 4 (by decide) k_640 rfl dX5_holds_197 ?_
        refine lv_iload hx hb dX5_holds_200 (lv_at hl 5 rfl) ?_
        refine lv_iconst (v := 1) hx hb dX5_holds_202 (by decide) ?_
        refine lv_isub hx hb dX5_holds_203 ?_
        obtain ⟨i27, hf⟩ := gIn_inv hf
        refine q_zald fx h 2 rfl i27 dX5_holds_204 ?_
        refine lv_if_ne (tgt := 212) hx hb dX5_holds_205 (by decide) (fun c28 => ?_) (fun c28 => ?_)
        · have hf := it_f c28 hf
          refine lv_iconst (v := 0) hx hb dX5_holds_212 (by decide) ?_
          exact LX5_holds_213 fx hag13 h (lv_sub hl [1, 2, 3, 4, 5, 6] rfl) hf
        have hf := it_t c28 hf
        refine lv_iconst (v := 1) hx hb dX5_holds_208 (by decide) ?_
        refine lv_goto (tgt := 213) hx hb dX5_holds_209 (by decide) ?_
        exact LX5_holds_213 fx hag13 h (lv_sub hl [1, 2, 3, 4, 5, 6] rfl) hf
      have hf := it_f c15 hf
      refine lv_aload_n hx hb dX5_holds_154 rfl (lv_at hl 1 rfl) ?_
      refine q_get (v := .ref a_pile) fx inX5 h 0 rfl rfl 4 (by decide) k_640 rfl dX5_holds_155 ?_
      refine lv_iload hx hb dX5_holds_158 (lv_at hl 5 rfl) ?_
      refine lv_iload hx hb dX5_holds_160 (lv_at hl 0 rfl) ?_
      refine lv_sipush (v := 130) hx hb dX5_holds_162 (by decide) ?_
      refine lv_icmp_ne (tgt := 172) hx hb dX5_holds_165 (by decide) (fun c29 => ?_) (fun c29 => ?_)
      · have hf := it_f c29 hf
        refine lv_iconst (v := 0) hx hb dX5_holds_172 (by decide) ?_
        exact LX5_holds_173 fx hag13 h (lv_sub hl [1, 2, 3, 4, 5, 6] rfl) hf
      have hf := it_t c29 hf
      refine lv_iconst (v := 1) hx hb dX5_holds_168 (by decide) ?_
      refine lv_goto (tgt := 173) hx hb dX5_holds_169 (by decide) ?_
      exact LX5_holds_173 fx hag13 h (lv_sub hl [1, 2, 3, 4, 5, 6] rfl) hf
    have hf := it_f c14 hf
    refine lv_iload_n hx hb dX5_holds_70 rfl (lv_at hl 2 rfl) ?_
    refine lv_iload_n hx hb dX5_holds_71 rfl (lv_at hl 3 rfl) ?_
    obtain ⟨r30, k30, hg, hf⟩ := bR_inv hf
    refine q_ci (rest := []) (ws' := (wX5_holds cI cJ cZ cS a_t a_s a_keptS a_statuses a_pile a_tape a_steps a_wish a_mark a_bitsOf a_sizeOf a_number a_moved v_isKept v_taped v_at v_fault v_laid v_open v_s v_pile)) (w1 := (wX5_others cI cJ cZ cS)) fx h [] rfl rfl rfl rfl (q_runS fx h hl.1 [] rfl rfl (tX5_others l D cI cJ cZ cS tb H.size y1 y2 r30 k30 hg) msX5_others k_719 ⟨rfl, rfl⟩ ⟨Nat.le_of_ble_eq_true rfl, Nat.le_of_ble_eq_true rfl⟩ rfl rfl (Nat.le_of_ble_eq_true rfl) dX5_holds_72 ⟨Nat.le_of_ble_eq_true rfl, Nat.le_of_ble_eq_true rfl⟩) (fun H locs h => ?_)
    refine lv_iload hx hb dX5_holds_75 (lv_at hl 0 rfl) ?_
    refine lv_bipush (v := 10) hx hb dX5_holds_77 (by decide) ?_
    refine lv_irem hx hb dX5_holds_79 (by decide) ?_
    refine lv_isub hx hb dX5_holds_80 ?_
    obtain ⟨u31, eu31, hf⟩ := nm_inv hf
    refine lv_eqi eu31 ?_
    refine lv_istore (lv' := [(7, .int u31), (6, .int u12), (0, .ref a_t), (1, .int y1), (2, .int y2), (3, .int y3), (4, .int y4), (5, .int y5)]) hx hb dX5_holds_81 hl (by decide) rfl (fun ls hl => ?_)
    refine lv_aload_n hx hb dX5_holds_83 rfl (lv_at hl 2 rfl) ?_
    refine q_get (v := .ref a_pile) fx inX5 h 0 rfl rfl 4 (by decide) k_640 rfl dX5_holds_84 ?_
    refine lv_iload hx hb dX5_holds_87 (lv_at hl 6 rfl) ?_
    refine lv_iload hx hb dX5_holds_89 (lv_at hl 1 rfl) ?_
    refine lv_bipush (v := 110) hx hb dX5_holds_91 (by decide) ?_
    refine lv_icmp_ge (tgt := 109) hx hb dX5_holds_93 (by decide) (fun c32 => ?_) (fun c32 => ?_)
    · have hf := it_t c32 hf
      refine lv_iload hx hb dX5_holds_109 (lv_at hl 1 rfl) ?_
      refine lv_bipush (v := 120) hx hb dX5_holds_111 (by decide) ?_
      refine lv_icmp_ge (tgt := 129) hx hb dX5_holds_113 (by decide) (fun c33 => ?_) (fun c33 => ?_)
      · have hf := it_t c33 hf
        refine lv_iload hx hb dX5_holds_129 (lv_at hl 0 rfl) ?_
        refine lv_if_le (tgt := 138) hx hb dX5_holds_131 (by decide) (fun c34 => ?_) (fun c34 => ?_)
        · have hf := it_t c34 hf
          refine lv_iconst (v := 0) hx hb dX5_holds_138 (by decide) ?_
          exact LX5_holds_139 fx hag13 h (lv_sub hl [2, 3, 4, 5, 6, 7] rfl) hf
        have hf := it_f c34 hf
        refine lv_iconst (v := 1) hx hb dX5_holds_134 (by decide) ?_
        refine lv_goto (tgt := 139) hx hb dX5_holds_135 (by decide) ?_
        exact LX5_holds_139 fx hag13 h (lv_sub hl [2, 3, 4, 5, 6, 7] rfl) hf
      have hf := it_f c33 hf
      refine lv_iload hx hb dX5_holds_116 (lv_at hl 0 rfl) ?_
      refine lv_if_ne (tgt := 125) hx hb dX5_holds_118 (by decide) (fun c35 => ?_) (fun c35 => ?_)
      · have hf := it_f c35 hf
        refine lv_iconst (v := 0) hx hb dX5_holds_125 (by decide) ?_
        refine lv_goto (tgt := 139) hx hb dX5_holds_126 (by decide) ?_
        exact LX5_holds_139 fx hag13 h (lv_sub hl [2, 3, 4, 5, 6, 7] rfl) hf
      have hf := it_t c35 hf
      refine lv_iconst (v := 1) hx hb dX5_holds_121 (by decide) ?_
      refine lv_goto (tgt := 139) hx hb dX5_holds_122 (by decide) ?_
      exact LX5_holds_139 fx hag13 h (lv_sub hl [2, 3, 4, 5, 6, 7] rfl) hf
    have hf := it_f c32 hf
    refine lv_iload hx hb dX5_holds_96 (lv_at hl 0 rfl) ?_
    refine lv_if_ge (tgt := 105) hx hb dX5_holds_98 (by decide) (fun c36 => ?_) (fun c36 => ?_)
    · have hf := it_t c36 hf
      refine lv_iconst (v := 0) hx hb dX5_holds_105 (by decide) ?_
      refine lv_goto (tgt := 139) hx hb dX5_holds_106 (by decide) ?_
      exact LX5_holds_139 fx hag13 h (lv_sub hl [2, 3, 4, 5, 6, 7] rfl) hf
    have hf := it_f c36 hf
    refine lv_iconst (v := 1) hx hb dX5_holds_101 (by decide) ?_
    refine lv_goto (tgt := 139) hx hb dX5_holds_102 (by decide) ?_
    exact LX5_holds_139 fx hag13 h (lv_sub hl [2, 3, 4, 5, 6, 7] rfl) hf
  have hf := it_f c13 hf
  refine lv_aload_n hx hb dX5_holds_43 rfl (lv_at hl 1 rfl) ?_
  refine q_get (v := .ref a_pile) fx inX5 h 0 rfl rfl 4 (by decide) k_640 rfl dX5_holds_44 ?_
  refine lv_iload hx hb dX5_holds_47 (lv_at hl 5 rfl) ?_
  refine lv_iload_n hx hb dX5_holds_49 rfl (lv_at hl 3 rfl) ?_
  refine lv_iload hx hb dX5_holds_50 (lv_at hl 0 rfl) ?_
  obtain ⟨r37, k37, hg, hf⟩ := bR_inv hf
  refine q_ci (rest := [.int y4, .ref a_pile]) (ws' := (wX5_holds cI cJ cZ cS a_t a_s a_keptS a_statuses a_pile a_tape a_steps a_wish a_mark a_bitsOf a_sizeOf a_number a_moved v_isKept v_taped v_at v_fault v_laid v_open v_s v_pile)) (w1 := (wX5_has cI cJ cZ cS)) fx h [] rfl rfl rfl rfl (q_runS fx h hl.1 [] rfl rfl (tX5_has l D cI cJ cZ cS tb H.size y2 u12 r37 k37 hg) msX5_has k_733 ⟨rfl, rfl⟩ ⟨Nat.le_of_ble_eq_true rfl, Nat.le_of_ble_eq_true rfl⟩ rfl rfl (Nat.le_of_ble_eq_true rfl) dX5_holds_52 ⟨Nat.le_of_ble_eq_true rfl, Nat.le_of_ble_eq_true rfl⟩) (fun H locs h => ?_)
  obtain ⟨i38, hf⟩ := gIn_inv hf
  refine q_zast (ws' := (wX5_holds cI cJ cZ cS a_t a_s a_keptS a_statuses a_pile a_tape a_steps a_wish a_mark a_bitsOf a_sizeOf a_number a_moved v_isKept v_taped v_at v_fault v_laid v_open v_s (upd v_pile y4.toNatClampNeg (vp_nar .boolean r37)))) fx h 2 rfl i38 rfl dX5_holds_55 (fun H locs h => ?_)
  obtain ⟨u39, eu39, hf⟩ := nm_inv hf
  refine lv_iinc (v := u39) (lv' := [(4, .int u39), (6, .int u12), (0, .ref a_t), (1, .int y1), (2, .int y2), (3, .int y3), (5, .int y5)]) hx hb dX5_holds_56 hl (k := 5) rfl (by rw [eu39]; rfl) (by decide) rfl (fun ls hl => ?_)
  refine lv_goto (tgt := 294) hx hb dX5_holds_59 (by decide) ?_
  exact LX5_holds_294 fx hag13 h (lv_sub hl [2, 3, 4, 5, 0, 6] rfl) hf
set_option maxRecDepth 100000 in
theorem EX5_holds_13 {p : Program} {l : Launch} {e : Env} {s : State} {m : MethodId} {args : Array Value} {below : List Frame} {meth : Method} {c : Code} {D : va_G} {cI cJ cZ cS : ClassId} {tb : Nat} {A : Nat → Prop} {a_t a_s a_keptS a_statuses a_pile a_tape a_steps a_wish a_mark a_bitsOf a_sizeOf a_number a_moved : Nat} {v_isKept : Int32} {v_taped : Int32} {v_at : Int32} {v_fault : Int32} {v_laid : Int32} {v_open : Int32} {v_s : Nat → Int32} {rr : Int32} {kk' : (Nat → Int32)} (fx : q_Fx p s m args meth c cX5_holds 8 RX5 (some .boolean) D cI cJ cZ cS tb A) : ∀ (n : Nat), ∀ {v_pile : Nat → Int32} {y1 : Int32} {y2 : Int32} {y3 : Int32} {y4 : Int32} {y5 : Int32} {H : Heap} {locs : List Loc} {ls : Array Slot}, q_H D A s (wX5_holds cI cJ cZ cS a_t a_s a_keptS a_statuses a_pile a_tape a_steps a_wish a_mark a_bitsOf a_sizeOf a_number a_moved v_isKept v_taped v_at v_fault v_laid v_open v_s v_pile) H locs → lv_has ls 8 [(0, .ref a_t), (1, .int y1), (2, .int y2), (3, .int y3), (4, .int y4), (5, .int y5)] → ll6 (fX5_holds_13 v_s) n v_pile y1 y2 y3 y4 y5 = some (rr, kk') → W p l e rX5_holds s m args below meth c H locs 0 0 (MQ below (q_Ri D rr A ((fun k : (Nat → Int32) => (wX5_holds cI cJ cZ cS a_t a_s a_keptS a_statuses a_pile a_tape a_steps a_wish a_mark a_bitsOf a_sizeOf a_number a_moved v_isKept v_taped v_at v_fault v_laid v_open v_s k)) kk')) args s 0 0 A) (F0 m 13 ls []) := by
  intro n
  induction n with
  | zero => intro v_pile y1 y2 y3 y4 y5 H locs ls h hl hf; exact (ll6_z hf).elim
  | succ n ih => intro v_pile y1 y2 y3 y4 y5 H locs ls h hl hf; exact LX5_holds_13 fx ih h hl (ll6_s hf)
def fX5_holds (v_s : Nat → Int32) (v_pile : Nat → Int32) (x1 : Int32) (x2 : Int32) : Option (Int32 × (Nat → Int32)) :=
  bR (fX5_its v_s x1 2) (fun r40 k40 =>
  ll6 (fX5_holds_13 v_s) qF v_pile x1 x2 r40 0 0)
set_option maxRecDepth 100000 in
set_option maxHeartbeats 4000000 in
theorem tX5_holds (l : Launch) (D : va_G) (cI cJ cZ cS : ClassId) (tb : Nat) (a_t a_s a_keptS a_statuses a_pile a_tape a_steps a_wish a_mark a_bitsOf a_sizeOf a_number a_moved : Nat) (sz : Nat) (v_isKept : Int32) (v_taped : Int32) (v_at : Int32) (v_fault : Int32) (v_laid : Int32) (v_open : Int32) (v_s : Nat → Int32) (v_pile : Nat → Int32) (x1 : Int32) (x2 : Int32) (rr : Int32) (kk' : (Nat → Int32)) (hf : fX5_holds v_s v_pile x1 x2 = some (rr, kk')) : Met l yX5_holds (Cond.code yX5_holds cX5_holds 8 (some .boolean) :: wA) rX5_holds (q_Pre D cI cJ cZ cS tb [.ref a_t, .int x1, .int x2] sz (wX5_holds cI cJ cZ cS a_t a_s a_keptS a_statuses a_pile a_tape a_steps a_wish a_mark a_bitsOf a_sizeOf a_number a_moved v_isKept v_taped v_at v_fault v_laid v_open v_s v_pile)) (q_Ri D rr (va_A (wX5_holds cI cJ cZ cS a_t a_s a_keptS a_statuses a_pile a_tape a_steps a_wish a_mark a_bitsOf a_sizeOf a_number a_moved v_isKept v_taped v_at v_fault v_laid v_open v_s v_pile) sz) ((fun k : (Nat → Int32) => (wX5_holds cI cJ cZ cS a_t a_s a_keptS a_statuses a_pile a_tape a_steps a_wish a_mark a_bitsOf a_sizeOf a_number a_moved v_isKept v_taped v_at v_fault v_laid v_open v_s k)) kk')) 0 0 (va_A (wX5_holds cI cJ cZ cS a_t a_s a_keptS a_statuses a_pile a_tape a_steps a_wish a_mark a_bitsOf a_sizeOf a_number a_moved v_isKept v_taped v_at v_fault v_laid v_open v_s v_pile) sz) := by
  refine q_enter (Qf := fun A => (q_Ri D rr A ((fun k : (Nat → Int32) => (wX5_holds cI cJ cZ cS a_t a_s a_keptS a_statuses a_pile a_tape a_steps a_wish a_mark a_bitsOf a_sizeOf a_number a_moved v_isKept v_taped v_at v_fault v_laid v_open v_s k)) kk'))) (by decide) rfl (Nat.le_of_ble_eq_true rfl) ?_
  intro p e s m below meth c A ls fx hname h hl
  have hx := fx.1
  have hb := fx.2.1
  have hl : lv_has ls 8 [(0, .ref a_t), (1, .int x1), (2, .int x2)] := hl
  generalize h9 : s.heap = H at h ⊢
  clear h9
  generalize h9 : ([] : List Loc) = locs at h ⊢
  clear h9
  unfold fX5_holds at hf
  refine lv_aload_n hx hb dX5_holds_0 rfl (lv_at hl 0 rfl) ?_
  refine lv_iload_n hx hb dX5_holds_1 rfl (lv_at hl 1 rfl) ?_
  refine lv_iconst (v := 2) hx hb dX5_holds_2 (by decide) ?_
  obtain ⟨r40, k40, hg, hf⟩ := bR_inv hf
  refine q_ci (rest := []) (ws' := (wX5_holds cI cJ cZ cS a_t a_s a_keptS a_statuses a_pile a_tape a_steps a_wish a_mark a_bitsOf a_sizeOf a_number a_moved v_isKept v_taped v_at v_fault v_laid v_open v_s v_pile)) (w1 := (wX5_its cI cJ cZ cS a_t a_s a_keptS a_statuses a_pile a_tape a_steps a_wish a_mark a_bitsOf a_sizeOf a_number a_moved v_isKept v_taped v_at v_fault v_laid v_open v_s)) fx h [0, 1] rfl rfl rfl rfl (q_runV fx h hl.1 [0, 1] rfl rfl (tX5_its l D cI cJ cZ cS tb a_t a_s a_keptS a_statuses a_pile a_tape a_steps a_wish a_mark a_bitsOf a_sizeOf a_number a_moved H.size v_isKept v_taped v_at v_fault v_laid v_open v_s x1 2 r40 k40 hg) mvX5_its k_725 ⟨rfl, rfl⟩ ⟨Nat.le_of_ble_eq_true rfl, Nat.le_of_ble_eq_true rfl⟩ rfl rfl rfl rfl (Nat.le_of_ble_eq_true rfl) dX5_holds_3 ⟨Nat.le_of_ble_eq_true rfl, Nat.le_of_ble_eq_true rfl⟩) (fun H locs h => ?_)
  refine lv_istore_n (lv' := [(3, .int r40), (0, .ref a_t), (1, .int x1), (2, .int x2)]) hx hb dX5_holds_6 rfl hl (by decide) rfl (fun ls hl => ?_)
  refine lv_iconst (v := 0) hx hb dX5_holds_7 (by decide) ?_
  refine lv_istore (lv' := [(4, .int 0), (3, .int r40), (0, .ref a_t), (1, .int x1), (2, .int x2)]) hx hb dX5_holds_8 hl (by decide) rfl (fun ls hl => ?_)
  refine lv_iconst (v := 0) hx hb dX5_holds_10 (by decide) ?_
  refine lv_istore (lv' := [(5, .int 0), (4, .int 0), (3, .int r40), (0, .ref a_t), (1, .int x1), (2, .int x2)]) hx hb dX5_holds_11 hl (by decide) rfl (fun ls hl => ?_)
  exact EX5_holds_13 fx qF h (lv_sub hl [3, 4, 5, 2, 1, 0] rfl) hf
/-! X5_comesBy -/
abbrev wX5_comesBy (cI cJ cZ cS : ClassId) (a_t a_s a_keptS a_statuses a_pile a_tape a_steps a_wish a_mark a_bitsOf a_sizeOf a_number a_moved : Nat) (v_isKept : Int32) (v_taped : Int32) (v_at : Int32) (v_fault : Int32) (v_laid : Int32) (v_open : Int32) (v_s : Nat → Int32) (v_pile : Nat → Int32) : va_W := [(a_t, .inr (5, [.ref a_s, .ref a_keptS, .ref a_statuses, .int v_isKept, .ref a_pile, .ref a_tape, .ref a_steps, .int v_taped, .int v_at, .int v_fault, .int v_laid, .int v_open, .ref a_wish, .ref a_mark, .ref a_bitsOf, .ref a_sizeOf, .ref a_number, .ref a_moved])), (a_s, .inl (cI, 538, .inl v_s)), (a_pile, .inl (cZ, 64, .inl v_pile))]
abbrev rX5_comesBy : Room := { frames := 3, cells := 0, slots := 0, locals := 70 }
def fX5_comesBy (v_s : Nat → Int32) (v_pile : Nat → Int32) (x1 : Int32) (x2 : Int32) : Option (Int32 × (Nat → Int32)) :=
  bR (fX5_others x1 x2) (fun r1 k1 =>
  bR (fX5_its v_s x1 0) (fun r2 k2 =>
  (if (r2).toInt < 1 ∨ 5 < (r2).toInt then (
  bR (fX5_holds v_s v_pile x1 x2) (fun r4 k4 =>
  gB r4 (some (r4, k4))))
  else (if r2 = 1 then (
  (if (3 : Int32) < r1 then (
  some (1, v_pile))
  else (
  bR (fX5_holds v_s v_pile x1 x2) (fun r8 k8 =>
  (if r8 = 0 then (
  some (0, k8))
  else (
  some (1, k8)))))))
  else (if r2 = 2 then (
  (if (5 : Int32) ≤ r1 then (
  some (0, v_pile))
  else (
  bR (fX5_holds v_s v_pile x1 x2) (fun r12 k12 =>
  (if r12 = 0 then (
  some (0, k12))
  else (
  some (1, k12)))))))
  else (if r2 = 3 then (
  some (0, v_pile))
  else (if r2 = 4 then (
  (if (3 : Int32) < r1 then (
  some (1, v_pile))
  else (
  (if r1 = 0 then (
  some (1, v_pile))
  else (
  bR (fX5_holds v_s v_pile x1 x2) (fun r18 k18 =>
  (if r18 = 0 then (
  some (0, k18))
  else (
  some (1, k18)))))))))
  else (if r2 = 5 then (
  (if (4 : Int32) < r1 then (
  some (1, v_pile))
  else (
  bR (fX5_holds v_s v_pile x1 x2) (fun r22 k22 =>
  (if r22 = 0 then (
  some (1, k22))
  else (
  some (0, k22)))))))
  else none))))))))
set_option maxRecDepth 100000 in
set_option maxHeartbeats 4000000 in
theorem tX5_comesBy (l : Launch) (D : va_G) (cI cJ cZ cS : ClassId) (tb : Nat) (a_t a_s a_keptS a_statuses a_pile a_tape a_steps a_wish a_mark a_bitsOf a_sizeOf a_number a_moved : Nat) (sz : Nat) (v_isKept : Int32) (v_taped : Int32) (v_at : Int32) (v_fault : Int32) (v_laid : Int32) (v_open : Int32) (v_s : Nat → Int32) (v_pile : Nat → Int32) (x1 : Int32) (x2 : Int32) (rr : Int32) (kk' : (Nat → Int32)) (hf : fX5_comesBy v_s v_pile x1 x2 = some (rr, kk')) : Met l yX5_comesBy (Cond.code yX5_comesBy cX5_comesBy 4 (some .boolean) :: wA) rX5_comesBy (q_Pre D cI cJ cZ cS tb [.ref a_t, .int x1, .int x2] sz (wX5_comesBy cI cJ cZ cS a_t a_s a_keptS a_statuses a_pile a_tape a_steps a_wish a_mark a_bitsOf a_sizeOf a_number a_moved v_isKept v_taped v_at v_fault v_laid v_open v_s v_pile)) (q_Ri D rr (va_A (wX5_comesBy cI cJ cZ cS a_t a_s a_keptS a_statuses a_pile a_tape a_steps a_wish a_mark a_bitsOf a_sizeOf a_number a_moved v_isKept v_taped v_at v_fault v_laid v_open v_s v_pile) sz) ((fun k : (Nat → Int32) => (wX5_comesBy cI cJ cZ cS a_t a_s a_keptS a_statuses a_pile a_tape a_steps a_wish a_mark a_bitsOf a_sizeOf a_number a_moved v_isKept v_taped v_at v_fault v_laid v_open v_s k)) kk')) 0 0 (va_A (wX5_comesBy cI cJ cZ cS a_t a_s a_keptS a_statuses a_pile a_tape a_steps a_wish a_mark a_bitsOf a_sizeOf a_number a_moved v_isKept v_taped v_at v_fault v_laid v_open v_s v_pile) sz) := by
  refine q_enter (Qf := fun A => (q_Ri D rr A ((fun k : (Nat → Int32) => (wX5_comesBy cI cJ cZ cS a_t a_s a_keptS a_statuses a_pile a_tape a_steps a_wish a_mark a_bitsOf a_sizeOf a_number a_moved v_isKept v_taped v_at v_fault v_laid v_open v_s k)) kk'))) (by decide) rfl (Nat.le_of_ble_eq_true rfl) ?_
  intro p e s m below meth c A ls fx hname h hl
  have hx := fx.1
  have hb := fx.2.1
  have hl : lv_has ls 4 [(0, .ref a_t), (1, .int x1), (2, .int x2)] := hl
  generalize h9 : s.heap = H at h ⊢
  clear h9
  generalize h9 : ([] : List Loc) = locs at h ⊢
  clear h9
  unfold fX5_comesBy at hf
  refine lv_iload_n hx hb dX5_comesBy_0 rfl (lv_at hl 1 rfl) ?_
  refine lv_iload_n hx hb dX5_comesBy_1 rfl (lv_at hl 2 rfl) ?_
  obtain ⟨r1, k1, hg, hf⟩ := bR_inv hf
  refine q_ci (rest := []) (ws' := (wX5_comesBy cI cJ cZ cS a_t a_s a_keptS a_statuses a_pile a_tape a_steps a_wish a_mark a_bitsOf a_sizeOf a_number a_moved v_isKept v_taped v_at v_fault v_laid v_open v_s v_pile)) (w1 := (wX5_others cI cJ cZ cS)) fx h [] rfl rfl rfl rfl (q_runS fx h hl.1 [] rfl rfl (tX5_others l D cI cJ cZ cS tb H.size x1 x2 r1 k1 hg) msX5_others k_719 ⟨rfl, rfl⟩ ⟨Nat.le_of_ble_eq_true rfl, Nat.le_of_ble_eq_true rfl⟩ rfl rfl (Nat.le_of_ble_eq_true rfl) dX5_comesBy_2 ⟨Nat.le_of_ble_eq_true rfl, Nat.le_of_ble_eq_true rfl⟩) (fun H locs h => ?_)
  refine lv_istore_n (lv' := [(3, .int r1), (0, .ref a_t), (1, .int x1), (2, .int x2)]) hx hb dX5_comesBy_5 rfl hl (by decide) rfl (fun ls hl => ?_)
  refine lv_aload_n hx hb dX5_comesBy_6 rfl (lv_at hl 1 rfl) ?_
  refine lv_iload_n hx hb dX5_comesBy_7 rfl (lv_at hl 2 rfl) ?_
  refine lv_iconst (v := 0) hx hb dX5_comesBy_8 (by decide) ?_
  obtain ⟨r2, k2, hg, hf⟩ := bR_inv hf
  refine q_ci (rest := []) (ws' := (wX5_comesBy cI cJ cZ cS a_t a_s a_keptS a_statuses a_pile a_tape a_steps a_wish a_mark a_bitsOf a_sizeOf a_number a_moved v_isKept v_taped v_at v_fault v_laid v_open v_s v_pile)) (w1 := (wX5_its cI cJ cZ cS a_t a_s a_keptS a_statuses a_pile a_tape a_steps a_wish a_mark a_bitsOf a_sizeOf a_number a_moved v_isKept v_taped v_at v_fault v_laid v_open v_s)) fx h [0, 1] rfl rfl rfl rfl (q_runV fx h hl.1 [0, 1] rfl rfl (tX5_its l D cI cJ cZ cS tb a_t a_s a_keptS a_statuses a_pile a_tape a_steps a_wish a_mark a_bitsOf a_sizeOf a_number a_moved H.size v_isKept v_taped v_at v_fault v_laid v_open v_s x1 0 r2 k2 hg) mvX5_its k_725 ⟨rfl, rfl⟩ ⟨Nat.le_of_ble_eq_true rfl, Nat.le_of_ble_eq_true rfl⟩ rfl rfl rfl rfl (Nat.le_of_ble_eq_true rfl) dX5_comesBy_9 ⟨Nat.le_of_ble_eq_true rfl, Nat.le_of_ble_eq_true rfl⟩) (fun H locs h => ?_)
  rcases it_or hf with ⟨c3, hf⟩ | ⟨c3, hf⟩
  · refine lv_tableOut (tgt := 134) hx hb dX5_comesBy_12 c3 (by decide) ?_
    refine lv_aload_n hx hb dX5_comesBy_134 rfl (lv_at hl 1 rfl) ?_
    refine lv_iload_n hx hb dX5_comesBy_135 rfl (lv_at hl 2 rfl) ?_
    refine lv_iload_n hx hb dX5_comesBy_136 rfl (lv_at hl 3 rfl) ?_
    obtain ⟨r4, k4, hg, hf⟩ := bR_inv hf
    refine q_ci (rest := []) (ws' := (wX5_comesBy cI cJ cZ cS a_t a_s a_keptS a_statuses a_pile a_tape a_steps a_wish a_mark a_bitsOf a_sizeOf a_number a_moved v_isKept v_taped v_at v_fault v_laid v_open v_s k4)) (w1 := (wX5_holds cI cJ cZ cS a_t a_s a_keptS a_statuses a_pile a_tape a_steps a_wish a_mark a_bitsOf a_sizeOf a_number a_moved v_isKept v_taped v_at v_fault v_laid v_open v_s k4)) fx h [0, 1, 2] rfl rfl rfl rfl (q_runV fx h hl.1 [0, 1, 2] rfl rfl (tX5_holds l D cI cJ cZ cS tb a_t a_s a_keptS a_statuses a_pile a_tape a_steps a_wish a_mark a_bitsOf a_sizeOf a_number a_moved H.size v_isKept v_taped v_at v_fault v_laid v_open v_s v_pile x1 x2 r4 k4 hg) mvX5_holds k_729 ⟨rfl, rfl⟩ ⟨Nat.le_of_ble_eq_true rfl, Nat.le_of_ble_eq_true rfl⟩ rfl rfl rfl rfl (Nat.le_of_ble_eq_true rfl) dX5_comesBy_137 ⟨Nat.le_of_ble_eq_true rfl, Nat.le_of_ble_eq_true rfl⟩) (fun H locs h => ?_)
    obtain ⟨b5, hf⟩ := gB_inv hf
    exact q_retz (fun k : (Nat → Int32) => (wX5_comesBy cI cJ cZ cS a_t a_s a_keptS a_statuses a_pile a_tape a_steps a_wish a_mark a_bitsOf a_sizeOf a_number a_moved v_isKept v_taped v_at v_fault v_laid v_open v_s k)) fx b5 hf h dX5_comesBy_140
  have c3 := not_or.mp c3
  rcases it_or hf with ⟨c6, hf⟩ | ⟨c6, hf⟩
  · refine lv_tableIn (off := 36) (tgt := 48) hx hb dX5_comesBy_12 c3.1 c3.2 (by rw [c6]; rfl) (by decide) ?_
    refine lv_iload_n hx hb dX5_comesBy_48 rfl (lv_at hl 0 rfl) ?_
    refine lv_iconst (v := 3) hx hb dX5_comesBy_49 (by decide) ?_
    refine lv_icmp_gt (tgt := 62) hx hb dX5_comesBy_50 (by decide) (fun c7 => ?_) (fun c7 => ?_)
    · have hf := it_t c7 hf
      refine lv_iconst (v := 1) hx hb dX5_comesBy_62 (by decide) ?_
      refine lv_goto (tgt := 67) hx hb dX5_comesBy_63 (by decide) ?_
      exact q_retz (fun k : (Nat → Int32) => (wX5_comesBy cI cJ cZ cS a_t a_s a_keptS a_statuses a_pile a_tape a_steps a_wish a_mark a_bitsOf a_sizeOf a_number a_moved v_isKept v_taped v_at v_fault v_laid v_open v_s k)) fx rfl hf h dX5_comesBy_67
    have hf := it_f c7 hf
    refine lv_aload_n hx hb dX5_comesBy_53 rfl (lv_at hl 1 rfl) ?_
    refine lv_iload_n hx hb dX5_comesBy_54 rfl (lv_at hl 2 rfl) ?_
    refine lv_iload_n hx hb dX5_comesBy_55 rfl (lv_at hl 3 rfl) ?_
    obtain ⟨r8, k8, hg, hf⟩ := bR_inv hf
    refine q_ci (rest := []) (ws' := (wX5_comesBy cI cJ cZ cS a_t a_s a_keptS a_statuses a_pile a_tape a_steps a_wish a_mark a_bitsOf a_sizeOf a_number a_moved v_isKept v_taped v_at v_fault v_laid v_open v_s k8)) (w1 := (wX5_holds cI cJ cZ cS a_t a_s a_keptS a_statuses a_pile a_tape a_steps a_wish a_mark a_bitsOf a_sizeOf a_number a_moved v_isKept v_taped v_at v_fault v_laid v_open v_s k8)) fx h [0, 1, 2] rfl rfl rfl rfl (q_runV fx h hl.1 [0, 1, 2] rfl rfl (tX5_holds l D cI cJ cZ cS tb a_t a_s a_keptS a_statuses a_pile a_tape a_steps a_wish a_mark a_bitsOf a_sizeOf a_number a_moved H.size v_isKept v_taped v_at v_fault v_laid v_open v_s v_pile x1 x2 r8 k8 hg) mvX5_holds k_729 ⟨rfl, rfl⟩ ⟨Nat.le_of_ble_eq_true rfl, Nat.le_of_ble_eq_true rfl⟩ rfl rfl rfl rfl (Nat.le_of_ble_eq_true rfl) dX5_comesBy_56 ⟨Nat.le_of_ble_eq_true rfl, Nat.le_of_ble_eq_true rfl⟩) (fun H locs h => ?_)
    refine lv_if_eq (tgt := 66) hx hb dX5_comesBy_59 (by decide) (fun c9 => ?_) (fun c9 => ?_)
    · have hf := it_t c9 hf
      refine lv_iconst (v := 0) hx hb dX5_comesBy_66 (by decide) ?_
      exact q_retz (fun k : (Nat → Int32) => (wX5_comesBy cI cJ cZ cS a_t a_s a_keptS a_statuses a_pile a_tape a_steps a_wish a_mark a_bitsOf a_sizeOf a_number a_moved v_isKept v_taped v_at v_fault v_laid v_open v_s k)) fx rfl hf h dX5_comesBy_67
    have hf := it_f c9 hf
    refine lv_iconst (v := 1) hx hb dX5_comesBy_62 (by decide) ?_
    refine lv_goto (tgt := 67) hx hb dX5_comesBy_63 (by decide) ?_
    exact q_retz (fun k : (Nat → Int32) => (wX5_comesBy cI cJ cZ cS a_t a_s a_keptS a_statuses a_pile a_tape a_steps a_wish a_mark a_bitsOf a_sizeOf a_number a_moved v_isKept v_taped v_at v_fault v_laid v_open v_s k)) fx rfl hf h dX5_comesBy_67
  rcases it_or hf with ⟨c10, hf⟩ | ⟨c10, hf⟩
  · refine lv_tableIn (off := 56) (tgt := 68) hx hb dX5_comesBy_12 c3.1 c3.2 (by rw [c10]; rfl) (by decide) ?_
    refine lv_iload_n hx hb dX5_comesBy_68 rfl (lv_at hl 0 rfl) ?_
    refine lv_iconst (v := 5) hx hb dX5_comesBy_69 (by decide) ?_
    refine lv_icmp_ge (tgt := 86) hx hb dX5_comesBy_70 (by decide) (fun c11 => ?_) (fun c11 => ?_)
    · have hf := it_t c11 hf
      refine lv_iconst (v := 0) hx hb dX5_comesBy_86 (by decide) ?_
      exact q_retz (fun k : (Nat → Int32) => (wX5_comesBy cI cJ cZ cS a_t a_s a_keptS a_statuses a_pile a_tape a_steps a_wish a_mark a_bitsOf a_sizeOf a_number a_moved v_isKept v_taped v_at v_fault v_laid v_open v_s k)) fx rfl hf h dX5_comesBy_87
    have hf := it_f c11 hf
    refine lv_aload_n hx hb dX5_comesBy_73 rfl (lv_at hl 1 rfl) ?_
    refine lv_iload_n hx hb dX5_comesBy_74 rfl (lv_at hl 2 rfl) ?_
    refine lv_iload_n hx hb dX5_comesBy_75 rfl (lv_at hl 3 rfl) ?_
    obtain ⟨r12, k12, hg, hf⟩ := bR_inv hf
    refine q_ci (rest := []) (ws' := (wX5_comesBy cI cJ cZ cS a_t a_s a_keptS a_statuses a_pile a_tape a_steps a_wish a_mark a_bitsOf a_sizeOf a_number a_moved v_isKept v_taped v_at v_fault v_laid v_open v_s k12)) (w1 := (wX5_holds cI cJ cZ cS a_t a_s a_keptS a_statuses a_pile a_tape a_steps a_wish a_mark a_bitsOf a_sizeOf a_number a_moved v_isKept v_taped v_at v_fault v_laid v_open v_s k12)) fx h [0, 1, 2] rfl rfl rfl rfl (q_runV fx h hl.1 [0, 1, 2] rfl rfl (tX5_holds l D cI cJ cZ cS tb a_t a_s a_keptS a_statuses a_pile a_tape a_steps a_wish a_mark a_bitsOf a_sizeOf a_number a_moved H.size v_isKept v_taped v_at v_fault v_laid v_open v_s v_pile x1 x2 r12 k12 hg) mvX5_holds k_729 ⟨rfl, rfl⟩ ⟨Nat.le_of_ble_eq_true rfl, Nat.le_of_ble_eq_true rfl⟩ rfl rfl rfl rfl (Nat.le_of_ble_eq_true rfl) dX5_comesBy_76 ⟨Nat.le_of_ble_eq_true rfl, Nat.le_of_ble_eq_true rfl⟩) (fun H locs h => ?_)
    refine lv_if_eq (tgt := 86) hx hb dX5_comesBy_79 (by decide) (fun c13 => ?_) (fun c13 => ?_)
    · have hf := it_t c13 hf
      refine lv_iconst (v := 0) hx hb dX5_comesBy_86 (by decide) ?_
      exact q_retz (fun k : (Nat → Int32) => (wX5_comesBy cI cJ cZ cS a_t a_s a_keptS a_statuses a_pile a_tape a_steps a_wish a_mark a_bitsOf a_sizeOf a_number a_moved v_isKept v_taped v_at v_fault v_laid v_open v_s k)) fx rfl hf h dX5_comesBy_87
    have hf := it_f c13 hf
    refine lv_iconst (v := 1) hx hb dX5_comesBy_82 (by decide) ?_
    refine lv_goto (tgt := 87) hx hb dX5_comesBy_83 (by decide) ?_
    exact q_retz (fun k : (Nat → Int32) => (wX5_comesBy cI cJ cZ cS a_t a_s a_keptS a_statuses a_pile a_tape a_steps a_wish a_mark a_bitsOf a_sizeOf a_number a_moved v_isKept v_taped v_at v_fault v_laid v_open v_s k)) fx rfl hf h dX5_comesBy_87
  rcases it_or hf with ⟨c14, hf⟩ | ⟨c14, hf⟩
  · refine lv_tableIn (off := 76) (tgt := 88) hx hb dX5_comesBy_12 c3.1 c3.2 (by rw [c14]; rfl) (by decide) ?_
    refine lv_iconst (v := 0) hx hb dX5_comesBy_88 (by decide) ?_
    exact q_retz (fun k : (Nat → Int32) => (wX5_comesBy cI cJ cZ cS a_t a_s a_keptS a_statuses a_pile a_tape a_steps a_wish a_mark a_bitsOf a_sizeOf a_number a_moved v_isKept v_taped v_at v_fault v_laid v_open v_s k)) fx rfl hf h dX5_comesBy_89
  rcases it_or hf with ⟨c15, hf⟩ | ⟨c15, hf⟩
  · refine lv_tableIn (off := 78) (tgt := 90) hx hb dX5_comesBy_12 c3.1 c3.2 (by rw [c15]; rfl) (by decide) ?_
    refine lv_iload_n hx hb dX5_comesBy_90 rfl (lv_at hl 0 rfl) ?_
    refine lv_iconst (v := 3) hx hb dX5_comesBy_91 (by decide) ?_
    refine lv_icmp_gt (tgt := 108) hx hb dX5_comesBy_92 (by decide) (fun c16 => ?_) (fun c16 => ?_)
    · have hf := it_t c16 hf
      refine lv_iconst (v := 1) hx hb dX5_comesBy_108 (by decide) ?_
      refine lv_goto (tgt := 113) hx hb dX5_comesBy_109 (by decide) ?_
      exact q_retz (fun k : (Nat → Int32) => (wX5_comesBy cI cJ cZ cS a_t a_s a_keptS a_statuses a_pile a_tape a_steps a_wish a_mark a_bitsOf a_sizeOf a_number a_moved v_isKept v_taped v_at v_fault v_laid v_open v_s k)) fx rfl hf h dX5_comesBy_113
    have hf := it_f c16 hf
    refine lv_iload_n hx hb dX5_comesBy_95 rfl (lv_at hl 0 rfl) ?_
    refine lv_if_eq (tgt := 108) hx hb dX5_comesBy_96 (by decide) (fun c17 => ?_) (fun c17 => ?_)
    · have hf := it_t c17 hf
      refine lv_iconst (v := 1) hx hb dX5_comesBy_108 (by decide) ?_
      refine lv_goto (tgt := 113) hx hb dX5_comesBy_109 (by decide) ?_
      exact q_retz (fun k : (Nat → Int32) => (wX5_comesBy cI cJ cZ cS a_t a_s a_keptS a_statuses a_pile a_tape a_steps a_wish a_mark a_bitsOf a_sizeOf a_number a_moved v_isKept v_taped v_at v_fault v_laid v_open v_s k)) fx rfl hf h dX5_comesBy_113
    have hf := it_f c17 hf
    refine lv_aload_n hx hb dX5_comesBy_99 rfl (lv_at hl 1 rfl) ?_
    refine lv_iload_n hx hb dX5_comesBy_100 rfl (lv_at hl 2 rfl) ?_
    refine lv_iload_n hx hb dX5_comesBy_101 rfl (lv_at hl 3 rfl) ?_
    obtain ⟨r18, k18, hg, hf⟩ := bR_inv hf
    refine q_ci (rest := []) (ws' := (wX5_comesBy cI cJ cZ cS a_t a_s a_keptS a_statuses a_pile a_tape a_steps a_wish a_mark a_bitsOf a_sizeOf a_number a_moved v_isKept v_taped v_at v_fault v_laid v_open v_s k18)) (w1 := (wX5_holds cI cJ cZ cS a_t a_s a_keptS a_statuses a_pile a_tape a_steps a_wish a_mark a_bitsOf a_sizeOf a_number a_moved v_isKept v_taped v_at v_fault v_laid v_open v_s k18)) fx h [0, 1, 2] rfl rfl rfl rfl (q_runV fx h hl.1 [0, 1, 2] rfl rfl (tX5_holds l D cI cJ cZ cS tb a_t a_s a_keptS a_statuses a_pile a_tape a_steps a_wish a_mark a_bitsOf a_sizeOf a_number a_moved H.size v_isKept v_taped v_at v_fault v_laid v_open v_s v_pile x1 x2 r18 k18 hg) mvX5_holds k_729 ⟨rfl, rfl⟩ ⟨Nat.le_of_ble_eq_true rfl, Nat.le_of_ble_eq_true rfl⟩ rfl rfl rfl rfl (Nat.le_of_ble_eq_true rfl) dX5_comesBy_102 ⟨Nat.le_of_ble_eq_true rfl, Nat.le_of_ble_eq_true rfl⟩) (fun H locs h => ?_)
    refine lv_if_eq (tgt := 112) hx hb dX5_comesBy_105 (by decide) (fun c19 => ?_) (fun c19 => ?_)
    · have hf := it_t c19 hf
      refine lv_iconst (v := 0) hx hb dX5_comesBy_112 (by decide) ?_
      exact q_retz (fun k : (Nat → Int32) => (wX5_comesBy cI cJ cZ cS a_t a_s a_keptS a_statuses a_pile a_tape a_steps a_wish a_mark a_bitsOf a_sizeOf a_number a_moved v_isKept v_taped v_at v_fault v_laid v_open v_s k)) fx rfl hf h dX5_comesBy_113
    have hf := it_f c19 hf
    refine lv_iconst (v := 1) hx hb dX5_comesBy_108 (by decide) ?_
    refine lv_goto (tgt := 113) hx hb dX5_comesBy_109 (by decide) ?_
    exact q_retz (fun k : (Nat → Int32) => (wX5_comesBy cI cJ cZ cS a_t a_s a_keptS a_statuses a_pile a_tape a_steps a_wish a_mark a_bitsOf a_sizeOf a_number a_moved v_isKept v_taped v_at v_fault v_laid v_open v_s k)) fx rfl hf h dX5_comesBy_113
  rcases it_or hf with ⟨c20, hf⟩ | ⟨c20, hf⟩
  · refine lv_tableIn (off := 102) (tgt := 114) hx hb dX5_comesBy_12 c3.1 c3.2 (by rw [c20]; rfl) (by decide) ?_
    refine lv_iload_n hx hb dX5_comesBy_114 rfl (lv_at hl 0 rfl) ?_
    refine lv_iconst (v := 4) hx hb dX5_comesBy_115 (by decide) ?_
    refine lv_icmp_gt (tgt := 128) hx hb dX5_comesBy_116 (by decide) (fun c21 => ?_) (fun c21 => ?_)
    · have hf := it_t c21 hf
      refine lv_iconst (v := 1) hx hb dX5_comesBy_128 (by decide) ?_
      refine lv_goto (tgt := 133) hx hb dX5_comesBy_129 (by decide) ?_
      exact q_retz (fun k : (Nat → Int32) => (wX5_comesBy cI cJ cZ cS a_t a_s a_keptS a_statuses a_pile a_tape a_steps a_wish a_mark a_bitsOf a_sizeOf a_number a_moved v_isKept v_taped v_at v_fault v_laid v_open v_s k)) fx rfl hf h dX5_comesBy_133
    have hf := it_f c21 hf
    refine lv_aload_n hx hb dX5_comesBy_119 rfl (lv_at hl 1 rfl) ?_
    refine lv_iload_n hx hb dX5_comesBy_120 rfl (lv_at hl 2 rfl) ?_
    refine lv_iload_n hx hb dX5_comesBy_121 rfl (lv_at hl 3 rfl) ?_
    obtain ⟨r22, k22, hg, hf⟩ := bR_inv hf
    refine q_ci (rest := []) (ws' := (wX5_comesBy cI cJ cZ cS a_t a_s a_keptS a_statuses a_pile a_tape a_steps a_wish a_mark a_bitsOf a_sizeOf a_number a_moved v_isKept v_taped v_at v_fault v_laid v_open v_s k22)) (w1 := (wX5_holds cI cJ cZ cS a_t a_s a_keptS a_statuses a_pile a_tape a_steps a_wish a_mark a_bitsOf a_sizeOf a_number a_moved v_isKept v_taped v_at v_fault v_laid v_open v_s k22)) fx h [0, 1, 2] rfl rfl rfl rfl (q_runV fx h hl.1 [0, 1, 2] rfl rfl (tX5_holds l D cI cJ cZ cS tb a_t a_s a_keptS a_statuses a_pile a_tape a_steps a_wish a_mark a_bitsOf a_sizeOf a_number a_moved H.size v_isKept v_taped v_at v_fault v_laid v_open v_s v_pile x1 x2 r22 k22 hg) mvX5_holds k_729 ⟨rfl, rfl⟩ ⟨Nat.le_of_ble_eq_true rfl, Nat.le_of_ble_eq_true rfl⟩ rfl rfl rfl rfl (Nat.le_of_ble_eq_true rfl) dX5_comesBy_122 ⟨Nat.le_of_ble_eq_true rfl, Nat.le_of_ble_eq_true rfl⟩) (fun H locs h => ?_)
    refine lv_if_ne (tgt := 132) hx hb dX5_comesBy_125 (by decide) (fun c23 => ?_) (fun c23 => ?_)
    · have hf := it_f c23 hf
      refine lv_iconst (v := 0) hx hb dX5_comesBy_132 (by decide) ?_
      exact q_retz (fun k : (Nat → Int32) => (wX5_comesBy cI cJ cZ cS a_t a_s a_keptS a_statuses a_pile a_tape a_steps a_wish a_mark a_bitsOf a_sizeOf a_number a_moved v_isKept v_taped v_at v_fault v_laid v_open v_s k)) fx rfl hf h dX5_comesBy_133
    have hf := it_t c23 hf
    refine lv_iconst (v := 1) hx hb dX5_comesBy_128 (by decide) ?_
    refine lv_goto (tgt := 133) hx hb dX5_comesBy_129 (by decide) ?_
    exact q_retz (fun k : (Nat → Int32) => (wX5_comesBy cI cJ cZ cS a_t a_s a_keptS a_statuses a_pile a_tape a_steps a_wish a_mark a_bitsOf a_sizeOf a_number a_moved v_isKept v_taped v_at v_fault v_laid v_open v_s k)) fx rfl hf h dX5_comesBy_133
  cases hf
/-! X5_would -/
abbrev wX5_would (cI cJ cZ cS : ClassId) (a_t a_s a_keptS a_statuses a_pile a_tape a_steps a_wish a_mark a_bitsOf a_sizeOf a_number a_moved : Nat) (v_isKept : Int32) (v_taped : Int32) (v_at : Int32) (v_fault : Int32) (v_laid : Int32) (v_open : Int32) (v_s : Nat → Int32) (v_pile : Nat → Int32) : va_W := [(a_t, .inr (5, [.ref a_s, .ref a_keptS, .ref a_statuses, .int v_isKept, .ref a_pile, .ref a_tape, .ref a_steps, .int v_taped, .int v_at, .int v_fault, .int v_laid, .int v_open, .ref a_wish, .ref a_mark, .ref a_bitsOf, .ref a_sizeOf, .ref a_number, .ref a_moved])), (a_s, .inl (cI, 538, .inl v_s)), (a_pile, .inl (cZ, 64, .inl v_pile))]
abbrev rX5_would : Room := { frames := 4, cells := 0, slots := 0, locals := 93 }
def fX5_would_31 (v_s : Nat → Int32) (ag4 : (Nat → Int32) → Int32 → Int32 → Int32 → Option (Int32 × (Nat → Int32))) (v_pile : Nat → Int32) (s0 : Int32) (s1 : Int32) (y1 : Int32) (y3 : Int32) : Option (Int32 × (Nat → Int32)) :=
  nm (s0 ||| s1) (fun u1 =>
  nm (y3 + 1) (fun u2 =>
  ag4 v_pile y1 u1 u2))
set_option maxRecDepth 100000 in
set_option maxHeartbeats 4000000 in
theorem LX5_would_31 {p : Program} {l : Launch} {e : Env} {s : State} {m : MethodId} {args : Array Value} {below : List Frame} {meth : Method} {c : Code} {D : va_G} {cI cJ cZ cS : ClassId} {tb : Nat} {A : Nat → Prop} {a_t a_s a_keptS a_statuses a_pile a_tape a_steps a_wish a_mark a_bitsOf a_sizeOf a_number a_moved : Nat} {v_isKept : Int32} {v_taped : Int32} {v_at : Int32} {v_fault : Int32} {v_laid : Int32} {v_open : Int32} {v_s : Nat → Int32} {rr : Int32} {kk' : (Nat → Int32)} (fx : q_Fx p s m args meth c cX5_would 4 RX5 (some .int) D cI cJ cZ cS tb A) {ag4 : (Nat → Int32) → Int32 → Int32 → Int32 → Option (Int32 × (Nat → Int32))} (hag4 : ∀ {v_pile : Nat → Int32} {y1 : Int32} {y2 : Int32} {y3 : Int32} {H : Heap} {locs : List Loc} {ls : Array Slot}, q_H D A s (wX5_would cI cJ cZ cS a_t a_s a_keptS a_statuses a_pile a_tape a_steps a_wish a_mark a_bitsOf a_sizeOf a_number a_moved v_isKept v_taped v_at v_fault v_laid v_open v_s v_pile) H locs → lv_has ls 4 [(0, .ref a_t), (1, .int y1), (2, .int y2), (3, .int y3)] → ag4 v_pile y1 y2 y3 = some (rr, kk') → W p l e rX5_would s m args below meth c H locs 0 0 (MQ below (q_Ri D rr A ((fun k : (Nat → Int32) => (wX5_would cI cJ cZ cS a_t a_s a_keptS a_statuses a_pile a_tape a_steps a_wish a_mark a_bitsOf a_sizeOf a_number a_moved v_isKept v_taped v_at v_fault v_laid v_open v_s k)) kk')) args s 0 0 A) (F0 m 4 ls [])) : ∀ {v_pile : Nat → Int32} {s0 : Int32} {s1 : Int32} {y1 : Int32} {y3 : Int32} {H : Heap} {locs : List Loc} {ls : Array Slot}, q_H D A s (wX5_would cI cJ cZ cS a_t a_s a_keptS a_statuses a_pile a_tape a_steps a_wish a_mark a_bitsOf a_sizeOf a_number a_moved v_isKept v_taped v_at v_fault v_laid v_open v_s v_pile) H locs → lv_has ls 4 [(0, .ref a_t), (1, .int y1), (3, .int y3)] → fX5_would_31 v_s ag4 v_pile s0 s1 y1 y3 = some (rr, kk') → W p l e rX5_would s m args below meth c H locs 0 0 (MQ below (q_Ri D rr A ((fun k : (Nat → Int32) => (wX5_would cI cJ cZ cS a_t a_s a_keptS a_statuses a_pile a_tape a_steps a_wish a_mark a_bitsOf a_sizeOf a_number a_moved v_isKept v_taped v_at v_fault v_laid v_open v_s k)) kk')) args s 0 0 A) (F0 m 31 ls [.int s1, .int s0]) := by
  intro v_pile s0 s1 y1 y3 H locs ls h hl hf
  have hx := fx.1
  have hb := fx.2.1
  unfold fX5_would_31 at hf
  refine lv_ior hx hb dX5_would_31 ?_
  obtain ⟨u1, eu1, hf⟩ := nm_inv hf
  refine lv_eqi eu1 ?_
  refine lv_istore_n (lv' := [(2, .int u1), (0, .ref a_t), (1, .int y1), (3, .int y3)]) hx hb dX5_would_32 rfl hl (by decide) rfl (fun ls hl => ?_)
  obtain ⟨u2, eu2, hf⟩ := nm_inv hf
  refine lv_iinc (v := u2) (lv' := [(3, .int u2), (2, .int u1), (0, .ref a_t), (1, .int y1)]) hx hb dX5_would_33 hl (k := 3) rfl (by rw [eu2]; rfl) (by decide) rfl (fun ls hl => ?_)
  refine lv_goto (tgt := 4) hx hb dX5_would_36 (by decide) ?_
  exact hag4 h (lv_sub hl [2, 3, 1, 0] rfl) hf
def fX5_would_4 (v_s : Nat → Int32) (ag4 : (Nat → Int32) → Int32 → Int32 → Int32 → Option (Int32 × (Nat → Int32))) (v_pile : Nat → Int32) (y1 : Int32) (y2 : Int32) (y3 : Int32) : Option (Int32 × (Nat → Int32)) :=
  (if (v_s 0) ≤ y3 then (
  some (y2, v_pile))
  else (
  bR (fX5_comesBy v_s v_pile y3 y1) (fun r4 k4 =>
  (if r4 = 0 then (
  fX5_would_31 v_s ag4 k4 y2 0 y1 y3)
  else (
  fX5_would_31 v_s ag4 k4 y2 (jshl 1 y3) y1 y3)))))
set_option maxRecDepth 100000 in
set_option maxHeartbeats 4000000 in
theorem LX5_would_4 {p : Program} {l : Launch} {e : Env} {s : State} {m : MethodId} {args : Array Value} {below : List Frame} {meth : Method} {c : Code} {D : va_G} {cI cJ cZ cS : ClassId} {tb : Nat} {A : Nat → Prop} {a_t a_s a_keptS a_statuses a_pile a_tape a_steps a_wish a_mark a_bitsOf a_sizeOf a_number a_moved : Nat} {v_isKept : Int32} {v_taped : Int32} {v_at : Int32} {v_fault : Int32} {v_laid : Int32} {v_open : Int32} {v_s : Nat → Int32} {rr : Int32} {kk' : (Nat → Int32)} (fx : q_Fx p s m args meth c cX5_would 4 RX5 (some .int) D cI cJ cZ cS tb A) {ag4 : (Nat → Int32) → Int32 → Int32 → Int32 → Option (Int32 × (Nat → Int32))} (hag4 : ∀ {v_pile : Nat → Int32} {y1 : Int32} {y2 : Int32} {y3 : Int32} {H : Heap} {locs : List Loc} {ls : Array Slot}, q_H D A s (wX5_would cI cJ cZ cS a_t a_s a_keptS a_statuses a_pile a_tape a_steps a_wish a_mark a_bitsOf a_sizeOf a_number a_moved v_isKept v_taped v_at v_fault v_laid v_open v_s v_pile) H locs → lv_has ls 4 [(0, .ref a_t), (1, .int y1), (2, .int y2), (3, .int y3)] → ag4 v_pile y1 y2 y3 = some (rr, kk') → W p l e rX5_would s m args below meth c H locs 0 0 (MQ below (q_Ri D rr A ((fun k : (Nat → Int32) => (wX5_would cI cJ cZ cS a_t a_s a_keptS a_statuses a_pile a_tape a_steps a_wish a_mark a_bitsOf a_sizeOf a_number a_moved v_isKept v_taped v_at v_fault v_laid v_open v_s k)) kk')) args s 0 0 A) (F0 m 4 ls [])) : ∀ {v_pile : Nat → Int32} {y1 : Int32} {y2 : Int32} {y3 : Int32} {H : Heap} {locs : List Loc} {ls : Array Slot}, q_H D A s (wX5_would cI cJ cZ cS a_t a_s a_keptS a_statuses a_pile a_tape a_steps a_wish a_mark a_bitsOf a_sizeOf a_number a_moved v_isKept v_taped v_at v_fault v_laid v_open v_s v_pile) H locs → lv_has ls 4 [(0, .ref a_t), (1, .int y1), (2, .int y2), (3, .int y3)] → fX5_would_4 v_s ag4 v_pile y1 y2 y3 = some (rr, kk') → W p l e rX5_would s m args below meth c H locs 0 0 (MQ below (q_Ri D rr A ((fun k : (Nat → Int32) => (wX5_would cI cJ cZ cS a_t a_s a_keptS a_statuses a_pile a_tape a_steps a_wish a_mark a_bitsOf a_sizeOf a_number a_moved v_isKept v_taped v_at v_fault v_laid v_open v_s k)) kk')) args s 0 0 A) (F0 m 4 ls []) := by
  intro v_pile y1 y2 y3 H locs ls h hl hf
  have hx := fx.1
  have hb := fx.2.1
  unfold fX5_would_4 at hf
  refine lv_iload_n hx hb dX5_would_4 rfl (lv_at hl 3 rfl) ?_
  refine lv_aload_n hx hb dX5_would_5 rfl (lv_at hl 0 rfl) ?_
  refine q_get (v := .ref a_s) fx inX5 h 0 rfl rfl 0 (by decide) k_636 rfl dX5_would_6 ?_
  refine lv_iconst (v := 0) hx hb dX5_would_9 (by decide) ?_
  refine q_ialdK fx h 1 rfl 0 (vinK (by decide)) (by decide) dX5_would_10 ?_
  refine lv_icmp_ge (tgt := 39) hx hb dX5_would_11 (by decide) (fun c3 => ?_) (fun c3 => ?_)
  · have hf := it_t c3 hf
    refine lv_iload_n hx hb dX5_would_39 rfl (lv_at hl 2 rfl) ?_
    exact q_reti (fun k : (Nat → Int32) => (wX5_would cI cJ cZ cS a_t a_s a_keptS a_statuses a_pile a_tape a_steps a_wish a_mark a_bitsOf a_sizeOf a_number a_moved v_isKept v_taped v_at v_fault v_laid v_open v_s k)) fx hf h dX5_would_40
  have hf := it_f c3 hf
  refine lv_iload_n hx hb dX5_would_14 rfl (lv_at hl 2 rfl) ?_
  refine lv_aload_n hx hb dX5_would_15 rfl (lv_at hl 0 rfl) ?_
  refine lv_iload_n hx hb dX5_would_16 rfl (lv_at hl 3 rfl) ?_
  refine lv_iload_n hx hb dX5_would_17 rfl (lv_at hl 1 rfl) ?_
  obtain ⟨r4, k4, hg, hf⟩ := bR_inv hf
  refine q_ci (rest := [.int y2]) (ws' := (wX5_would cI cJ cZ cS a_t a_s a_keptS a_statuses a_pile a_tape a_steps a_wish a_mark a_bitsOf a_sizeOf a_number a_moved v_isKept v_taped v_at v_fault v_laid v_open v_s k4)) (w1 := (wX5_comesBy cI cJ cZ cS a_t a_s a_keptS a_statuses a_pile a_tape a_steps a_wish a_mark a_bitsOf a_sizeOf a_number a_moved v_isKept v_taped v_at v_fault v_laid v_open v_s k4)) fx h [0, 1, 2] rfl rfl rfl rfl (q_runV fx h hl.1 [0, 1, 2] rfl rfl (tX5_comesBy l D cI cJ cZ cS tb a_t a_s a_keptS a_statuses a_pile a_tape a_steps a_wish a_mark a_bitsOf a_sizeOf a_number a_moved H.size v_isKept v_taped v_at v_fault v_laid v_open v_s v_pile y3 y1 r4 k4 hg) mvX5_comesBy k_715 ⟨rfl, rfl⟩ ⟨Nat.le_of_ble_eq_true rfl, Nat.le_of_ble_eq_true rfl⟩ rfl rfl rfl rfl (Nat.le_of_ble_eq_true rfl) dX5_would_18 ⟨Nat.le_of_ble_eq_true rfl, Nat.le_of_ble_eq_true rfl⟩) (fun H locs h => ?_)
  refine lv_if_eq (tgt := 30) hx hb dX5_would_21 (by decide) (fun c5 => ?_) (fun c5 => ?_)
  · have hf := it_t c5 hf
    refine lv_iconst (v := 0) hx hb dX5_would_30 (by decide) ?_
    exact LX5_would_31 fx hag4 h (lv_sub hl [0, 1, 3] rfl) hf
  have hf := it_f c5 hf
  refine lv_iconst (v := 1) hx hb dX5_would_24 (by decide) ?_
  refine lv_iload_n hx hb dX5_would_25 rfl (lv_at hl 3 rfl) ?_
  refine lv_ishl hx hb dX5_would_26 ?_
  refine lv_goto (tgt := 31) hx hb dX5_would_27 (by decide) ?_
  exact LX5_would_31 fx hag4 h (lv_sub hl [0, 1, 3] rfl) hf
set_option maxRecDepth 100000 in
theorem EX5_would_4 {p : Program} {l : Launch} {e : Env} {s : State} {m : MethodId} {args : Array Value} {below : List Frame} {meth : Method} {c : Code} {D : va_G} {cI cJ cZ cS : ClassId} {tb : Nat} {A : Nat → Prop} {a_t a_s a_keptS a_statuses a_pile a_tape a_steps a_wish a_mark a_bitsOf a_sizeOf a_number a_moved : Nat} {v_isKept : Int32} {v_taped : Int32} {v_at : Int32} {v_fault : Int32} {v_laid : Int32} {v_open : Int32} {v_s : Nat → Int32} {rr : Int32} {kk' : (Nat → Int32)} (fx : q_Fx p s m args meth c cX5_would 4 RX5 (some .int) D cI cJ cZ cS tb A) : ∀ (n : Nat), ∀ {v_pile : Nat → Int32} {y1 : Int32} {y2 : Int32} {y3 : Int32} {H : Heap} {locs : List Loc} {ls : Array Slot}, q_H D A s (wX5_would cI cJ cZ cS a_t a_s a_keptS a_statuses a_pile a_tape a_steps a_wish a_mark a_bitsOf a_sizeOf a_number a_moved v_isKept v_taped v_at v_fault v_laid v_open v_s v_pile) H locs → lv_has ls 4 [(0, .ref a_t), (1, .int y1), (2, .int y2), (3, .int y3)] → ll4 (fX5_would_4 v_s) n v_pile y1 y2 y3 = some (rr, kk') → W p l e rX5_would s m args below meth c H locs 0 0 (MQ below (q_Ri D rr A ((fun k : (Nat → Int32) => (wX5_would cI cJ cZ cS a_t a_s a_keptS a_statuses a_pile a_tape a_steps a_wish a_mark a_bitsOf a_sizeOf a_number a_moved v_isKept v_taped v_at v_fault v_laid v_open v_s k)) kk')) args s 0 0 A) (F0 m 4 ls []) := by
  intro n
  induction n with
  | zero => intro v_pile y1 y2 y3 H locs ls h hl hf; exact (ll4_z hf).elim
  | succ n ih => intro v_pile y1 y2 y3 H locs ls h hl hf; exact LX5_would_4 fx ih h hl (ll4_s hf)
def fX5_would (v_s : Nat → Int32) (v_pile : Nat → Int32) (x1 : Int32) : Option (Int32 × (Nat → Int32)) :=
  ll4 (fX5_would_4 v_s) qF v_pile x1 0 0
set_option maxRecDepth 100000 in
set_option maxHeartbeats 4000000 in
theorem tX5_would (l : Launch) (D : va_G) (cI cJ cZ cS : ClassId) (tb : Nat) (a_t a_s a_keptS a_statuses a_pile a_tape a_steps a_wish a_mark a_bitsOf a_sizeOf a_number a_moved : Nat) (sz : Nat) (v_isKept : Int32) (v_taped : Int32) (v_at : Int32) (v_fault : Int32) (v_laid : Int32) (v_open : Int32) (v_s : Nat → Int32) (v_pile : Nat → Int32) (x1 : Int32) (rr : Int32) (kk' : (Nat → Int32)) (hf : fX5_would v_s v_pile x1 = some (rr, kk')) : Met l yX5_would (Cond.code yX5_would cX5_would 4 (some .int) :: wA) rX5_would (q_Pre D cI cJ cZ cS tb [.ref a_t, .int x1] sz (wX5_would cI cJ cZ cS a_t a_s a_keptS a_statuses a_pile a_tape a_steps a_wish a_mark a_bitsOf a_sizeOf a_number a_moved v_isKept v_taped v_at v_fault v_laid v_open v_s v_pile)) (q_Ri D rr (va_A (wX5_would cI cJ cZ cS a_t a_s a_keptS a_statuses a_pile a_tape a_steps a_wish a_mark a_bitsOf a_sizeOf a_number a_moved v_isKept v_taped v_at v_fault v_laid v_open v_s v_pile) sz) ((fun k : (Nat → Int32) => (wX5_would cI cJ cZ cS a_t a_s a_keptS a_statuses a_pile a_tape a_steps a_wish a_mark a_bitsOf a_sizeOf a_number a_moved v_isKept v_taped v_at v_fault v_laid v_open v_s k)) kk')) 0 0 (va_A (wX5_would cI cJ cZ cS a_t a_s a_keptS a_statuses a_pile a_tape a_steps a_wish a_mark a_bitsOf a_sizeOf a_number a_moved v_isKept v_taped v_at v_fault v_laid v_open v_s v_pile) sz) := by
  refine q_enter (Qf := fun A => (q_Ri D rr A ((fun k : (Nat → Int32) => (wX5_would cI cJ cZ cS a_t a_s a_keptS a_statuses a_pile a_tape a_steps a_wish a_mark a_bitsOf a_sizeOf a_number a_moved v_isKept v_taped v_at v_fault v_laid v_open v_s k)) kk'))) (by decide) rfl (Nat.le_of_ble_eq_true rfl) ?_
  intro p e s m below meth c A ls fx hname h hl
  have hx := fx.1
  have hb := fx.2.1
  have hl : lv_has ls 4 [(0, .ref a_t), (1, .int x1)] := hl
  generalize h9 : s.heap = H at h ⊢
  clear h9
  generalize h9 : ([] : List Loc) = locs at h ⊢
  clear h9
  unfold fX5_would at hf
  refine lv_iconst (v := 0) hx hb dX5_would_0 (by decide) ?_
  refine lv_istore_n (lv' := [(2, .int 0), (0, .ref a_t), (1, .int x1)]) hx hb dX5_would_1 rfl hl (by decide) rfl (fun ls hl => ?_)
  refine lv_iconst (v := 0) hx hb dX5_would_2 (by decide) ?_
  refine lv_istore_n (lv' := [(3, .int 0), (2, .int 0), (0, .ref a_t), (1, .int x1)]) hx hb dX5_would_3 rfl hl (by decide) rfl (fun ls hl => ?_)
  exact EX5_would_4 fx qF h (lv_sub hl [2, 3, 1, 0] rfl) hf
/-! X5_of -/
abbrev wX5_of (cI cJ cZ cS : ClassId) (a_t a_s a_keptS a_statuses a_pile a_tape a_steps a_wish a_mark a_bitsOf a_sizeOf a_number a_moved : Nat) (v_isKept : Int32) (v_taped : Int32) (v_at : Int32) (v_fault : Int32) (v_laid : Int32) (v_open : Int32) (v_s : Nat → Int32) (v_statuses : Nat → Int32) (v_pile : Nat → Int32) : va_W := [(a_t, .inr (5, [.ref a_s, .ref a_keptS, .ref a_statuses, .int v_isKept, .ref a_pile, .ref a_tape, .ref a_steps, .int v_taped, .int v_at, .int v_fault, .int v_laid, .int v_open, .ref a_wish, .ref a_mark, .ref a_bitsOf, .ref a_sizeOf, .ref a_number, .ref a_moved])), (a_s, .inl (cI, 538, .inl v_s)), (a_statuses, .inl (cI, 7, .inl v_statuses)), (a_pile, .inl (cZ, 64, .inl v_pile))]
abbrev rX5_of : Room := { frames := 4, cells := 0, slots := 0, locals := 93 }
def fX5_of_20 (v_s : Nat → Int32) (v_statuses : Nat → Int32) (v_pile : Nat → Int32) : Option (Int32 × (Nat → Int32) × (Nat → Int32)) :=
  bR (fX5_finds v_statuses (-1000000001)) (fun r1 k1 =>
  some (r1, (k1, v_pile)))
set_option maxRecDepth 100000 in
set_option maxHeartbeats 4000000 in
theorem LX5_of_20 {p : Program} {l : Launch} {e : Env} {s : State} {m : MethodId} {args : Array Value} {below : List Frame} {meth : Method} {c : Code} {D : va_G} {cI cJ cZ cS : ClassId} {tb : Nat} {A : Nat → Prop} {a_t a_s a_keptS a_statuses a_pile a_tape a_steps a_wish a_mark a_bitsOf a_sizeOf a_number a_moved : Nat} {v_isKept : Int32} {v_taped : Int32} {v_at : Int32} {v_fault : Int32} {v_laid : Int32} {v_open : Int32} {v_s : Nat → Int32} {rr : Int32} {kk' : (Nat → Int32) × (Nat → Int32)} (fx : q_Fx p s m args meth c cX5_of 3 RX5 (some .int) D cI cJ cZ cS tb A) : ∀ {v_statuses : Nat → Int32} {v_pile : Nat → Int32} {H : Heap} {locs : List Loc} {ls : Array Slot}, q_H D A s (wX5_of cI cJ cZ cS a_t a_s a_keptS a_statuses a_pile a_tape a_steps a_wish a_mark a_bitsOf a_sizeOf a_number a_moved v_isKept v_taped v_at v_fault v_laid v_open v_s v_statuses v_pile) H locs → lv_has ls 3 [(0, .ref a_t)] → fX5_of_20 v_s v_statuses v_pile = some (rr, kk') → W p l e rX5_of s m args below meth c H locs 0 0 (MQ below (q_Ri D rr A ((fun k : (Nat → Int32) × (Nat → Int32) => (wX5_of cI cJ cZ cS a_t a_s a_keptS a_statuses a_pile a_tape a_steps a_wish a_mark a_bitsOf a_sizeOf a_number a_moved v_isKept v_taped v_at v_fault v_laid v_open v_s k.1 k.2)) kk')) args s 0 0 A) (F0 m 20 ls []) := by
  intro v_statuses v_pile H locs ls h hl hf
  have hx := fx.1
  have hb := fx.2.1
  unfold fX5_of_20 at hf
  refine lv_aload_n hx hb dX5_of_20 rfl (lv_at hl 0 rfl) ?_
  refine q_ldc fx k_701 dX5_of_21 ?_
  obtain ⟨r1, k1, hg, hf⟩ := bR_inv hf
  refine q_ci (rest := []) (ws' := (wX5_of cI cJ cZ cS a_t a_s a_keptS a_statuses a_pile a_tape a_steps a_wish a_mark a_bitsOf a_sizeOf a_number a_moved v_isKept v_taped v_at v_fault v_laid v_open v_s k1 v_pile)) (w1 := (wX5_finds cI cJ cZ cS a_t a_s a_keptS a_statuses a_pile a_tape a_steps a_wish a_mark a_bitsOf a_sizeOf a_number a_moved v_isKept v_taped v_at v_fault v_laid v_open k1)) fx h [0, 2] rfl rfl rfl rfl (q_runV fx h hl.1 [0, 2] rfl rfl (tX5_finds l D cI cJ cZ cS tb a_t a_s a_keptS a_statuses a_pile a_tape a_steps a_wish a_mark a_bitsOf a_sizeOf a_number a_moved H.size v_isKept v_taped v_at v_fault v_laid v_open v_statuses (-1000000001) r1 k1 hg) mvX5_finds k_702 ⟨rfl, rfl⟩ ⟨Nat.le_of_ble_eq_true rfl, Nat.le_of_ble_eq_true rfl⟩ rfl rfl rfl rfl (Nat.le_of_ble_eq_true rfl) dX5_of_23 ⟨Nat.le_of_ble_eq_true rfl, Nat.le_of_ble_eq_true rfl⟩) (fun H locs h => ?_)
  exact q_reti (fun k : (Nat → Int32) × (Nat → Int32) => (wX5_of cI cJ cZ cS a_t a_s a_keptS a_statuses a_pile a_tape a_steps a_wish a_mark a_bitsOf a_sizeOf a_number a_moved v_isKept v_taped v_at v_fault v_laid v_open v_s k.1 k.2)) fx hf h dX5_of_26
def fX5_of (v_s : Nat → Int32) (v_statuses : Nat → Int32) (v_pile : Nat → Int32) (x1 : Int32) (x2 : Int32) : Option (Int32 × (Nat → Int32) × (Nat → Int32)) :=
  bR (fX5_isGuest v_s x1) (fun r2 k2 =>
  (if r2 = 0 then (
  fX5_of_20 v_s v_statuses v_pile)
  else (
  bR (fX5_in (x2.toInt64) 0 5) (fun r4 k4 =>
  (if r4 = 0 then (
  fX5_of_20 v_s v_statuses v_pile)
  else (
  (if (x2).toInt < 2 ∨ 5 < (x2).toInt then (
  bR (fX5_its v_s x1 x2) (fun r7 k7 =>
  some (r7, (v_statuses, v_pile))))
  else (if x2 = 2 then (
  some ((jshr (v_s 1) x1) &&& 1, (v_statuses, v_pile)))
  else (if x2 = 3 then (
  bR (fX5_comesBy v_s v_pile x1 (v_s 1)) (fun r10 k10 =>
  (if r10 = 0 then (
  some (0, (v_statuses, k10)))
  else (
  some (1, (v_statuses, k10))))))
  else (if x2 = 4 then (
  bR (fX5_holds v_s v_pile x1 (v_s 1)) (fun r13 k13 =>
  (if r13 = 0 then (
  some (0, (v_statuses, k13)))
  else (
  some (1, (v_statuses, k13))))))
  else (if x2 = 5 then (
  bR (fX5_others x1 (v_s 1)) (fun r16 k16 =>
  some (r16, (v_statuses, v_pile))))
  else none)))))))))))
set_option maxRecDepth 100000 in
set_option maxHeartbeats 4000000 in
theorem tX5_of (l : Launch) (D : va_G) (cI cJ cZ cS : ClassId) (tb : Nat) (a_t a_s a_keptS a_statuses a_pile a_tape a_steps a_wish a_mark a_bitsOf a_sizeOf a_number a_moved : Nat) (sz : Nat) (v_isKept : Int32) (v_taped : Int32) (v_at : Int32) (v_fault : Int32) (v_laid : Int32) (v_open : Int32) (v_s : Nat → Int32) (v_statuses : Nat → Int32) (v_pile : Nat → Int32) (x1 : Int32) (x2 : Int32) (rr : Int32) (kk' : (Nat → Int32) × (Nat → Int32)) (hf : fX5_of v_s v_statuses v_pile x1 x2 = some (rr, kk')) : Met l yX5_of (Cond.code yX5_of cX5_of 3 (some .int) :: wA) rX5_of (q_Pre D cI cJ cZ cS tb [.ref a_t, .int x1, .int x2] sz (wX5_of cI cJ cZ cS a_t a_s a_keptS a_statuses a_pile a_tape a_steps a_wish a_mark a_bitsOf a_sizeOf a_number a_moved v_isKept v_taped v_at v_fault v_laid v_open v_s v_statuses v_pile)) (q_Ri D rr (va_A (wX5_of cI cJ cZ cS a_t a_s a_keptS a_statuses a_pile a_tape a_steps a_wish a_mark a_bitsOf a_sizeOf a_number a_moved v_isKept v_taped v_at v_fault v_laid v_open v_s v_statuses v_pile) sz) ((fun k : (Nat → Int32) × (Nat → Int32) => (wX5_of cI cJ cZ cS a_t a_s a_keptS a_statuses a_pile a_tape a_steps a_wish a_mark a_bitsOf a_sizeOf a_number a_moved v_isKept v_taped v_at v_fault v_laid v_open v_s k.1 k.2)) kk')) 0 0 (va_A (wX5_of cI cJ cZ cS a_t a_s a_keptS a_statuses a_pile a_tape a_steps a_wish a_mark a_bitsOf a_sizeOf a_number a_moved v_isKept v_taped v_at v_fault v_laid v_open v_s v_statuses v_pile) sz) := by
  refine q_enter (Qf := fun A => (q_Ri D rr A ((fun k : (Nat → Int32) × (Nat → Int32) => (wX5_of cI cJ cZ cS a_t a_s a_keptS a_statuses a_pile a_tape a_steps a_wish a_mark a_bitsOf a_sizeOf a_number a_moved v_isKept v_taped v_at v_fault v_laid v_open v_s k.1 k.2)) kk'))) (by decide) rfl (Nat.le_of_ble_eq_true rfl) ?_
  intro p e s m below meth c A ls fx hname h hl
  have hx := fx.1
  have hb := fx.2.1
  have hl : lv_has ls 3 [(0, .ref a_t), (1, .int x1), (2, .int x2)] := hl
  generalize h9 : s.heap = H at h ⊢
  clear h9
  generalize h9 : ([] : List Loc) = locs at h ⊢
  clear h9
  unfold fX5_of at hf
  refine lv_aload_n hx hb dX5_of_0 rfl (lv_at hl 0 rfl) ?_
  refine lv_iload_n hx hb dX5_of_1 rfl (lv_at hl 1 rfl) ?_
  obtain ⟨r2, k2, hg, hf⟩ := bR_inv hf
  refine q_ci (rest := []) (ws' := (wX5_of cI cJ cZ cS a_t a_s a_keptS a_statuses a_pile a_tape a_steps a_wish a_mark a_bitsOf a_sizeOf a_number a_moved v_isKept v_taped v_at v_fault v_laid v_open v_s v_statuses v_pile)) (w1 := (wX5_isGuest cI cJ cZ cS a_t a_s a_keptS a_statuses a_pile a_tape a_steps a_wish a_mark a_bitsOf a_sizeOf a_number a_moved v_isKept v_taped v_at v_fault v_laid v_open v_s)) fx h [0, 1] rfl rfl rfl rfl (q_runV fx h hl.1 [0, 1] rfl rfl (tX5_isGuest l D cI cJ cZ cS tb a_t a_s a_keptS a_statuses a_pile a_tape a_steps a_wish a_mark a_bitsOf a_sizeOf a_number a_moved H.size v_isKept v_taped v_at v_fault v_laid v_open v_s x1 r2 k2 hg) mvX5_isGuest k_711 ⟨rfl, rfl⟩ ⟨Nat.le_of_ble_eq_true rfl, Nat.le_of_ble_eq_true rfl⟩ rfl rfl rfl rfl (Nat.le_of_ble_eq_true rfl) dX5_of_2 ⟨Nat.le_of_ble_eq_true rfl, Nat.le_of_ble_eq_true rfl⟩) (fun H locs h => ?_)
  refine lv_if_eq (tgt := 20) hx hb dX5_of_5 (by decide) (fun c3 => ?_) (fun c3 => ?_)
  · have hf := it_t c3 hf
    exact LX5_of_20 fx h (lv_sub hl [0] rfl) hf
  have hf := it_f c3 hf
  refine lv_iload_n hx hb dX5_of_8 rfl (lv_at hl 2 rfl) ?_
  refine lv_i2l hx hb dX5_of_9 rfl ?_
  refine lv_lconst (v := 0) hx hb dX5_of_10 (by decide) ?_
  refine q_ldc2 fx k_696 dX5_of_11 ?_
  obtain ⟨r4, k4, hg, hf⟩ := bR_inv hf
  refine q_ci (rest := []) (ws' := (wX5_of cI cJ cZ cS a_t a_s a_keptS a_statuses a_pile a_tape a_steps a_wish a_mark a_bitsOf a_sizeOf a_number a_moved v_isKept v_taped v_at v_fault v_laid v_open v_s v_statuses v_pile)) (w1 := (wX5_in cI cJ cZ cS)) fx h [] rfl rfl rfl rfl (q_runS fx h hl.1 [] rfl rfl (tX5_in l D cI cJ cZ cS tb H.size (x2.toInt64) 0 5 r4 k4 hg) msX5_in k_697 ⟨rfl, rfl⟩ ⟨Nat.le_of_ble_eq_true rfl, Nat.le_of_ble_eq_true rfl⟩ rfl rfl (Nat.le_of_ble_eq_true rfl) dX5_of_14 ⟨Nat.le_of_ble_eq_true rfl, Nat.le_of_ble_eq_true rfl⟩) (fun H locs h => ?_)
  refine lv_if_ne (tgt := 27) hx hb dX5_of_17 (by decide) (fun c5 => ?_) (fun c5 => ?_)
  · have hf := it_f c5 hf
    refine lv_iload_n hx hb dX5_of_27 rfl (lv_at hl 2 rfl) ?_
    rcases it_or hf with ⟨c6, hf⟩ | ⟨c6, hf⟩
    · refine lv_tableOut (tgt := 122) hx hb dX5_of_28 c6 (by decide) ?_
      refine lv_aload_n hx hb dX5_of_122 rfl (lv_at hl 0 rfl) ?_
      refine lv_iload_n hx hb dX5_of_123 rfl (lv_at hl 1 rfl) ?_
      refine lv_iload_n hx hb dX5_of_124 rfl (lv_at hl 2 rfl) ?_
      obtain ⟨r7, k7, hg, hf⟩ := bR_inv hf
      refine q_ci (rest := []) (ws' := (wX5_of cI cJ cZ cS a_t a_s a_keptS a_statuses a_pile a_tape a_steps a_wish a_mark a_bitsOf a_sizeOf a_number a_moved v_isKept v_taped v_at v_fault v_laid v_open v_s v_statuses v_pile)) (w1 := (wX5_its cI cJ cZ cS a_t a_s a_keptS a_statuses a_pile a_tape a_steps a_wish a_mark a_bitsOf a_sizeOf a_number a_moved v_isKept v_taped v_at v_fault v_laid v_open v_s)) fx h [0, 1] rfl rfl rfl rfl (q_runV fx h hl.1 [0, 1] rfl rfl (tX5_its l D cI cJ cZ cS tb a_t a_s a_keptS a_statuses a_pile a_tape a_steps a_wish a_mark a_bitsOf a_sizeOf a_number a_moved H.size v_isKept v_taped v_at v_fault v_laid v_open v_s x1 x2 r7 k7 hg) mvX5_its k_725 ⟨rfl, rfl⟩ ⟨Nat.le_of_ble_eq_true rfl, Nat.le_of_ble_eq_true rfl⟩ rfl rfl rfl rfl (Nat.le_of_ble_eq_true rfl) dX5_of_125 ⟨Nat.le_of_ble_eq_true rfl, Nat.le_of_ble_eq_true rfl⟩) (fun H locs h => ?_)
      exact q_reti (fun k : (Nat → Int32) × (Nat → Int32) => (wX5_of cI cJ cZ cS a_t a_s a_keptS a_statuses a_pile a_tape a_steps a_wish a_mark a_bitsOf a_sizeOf a_number a_moved v_isKept v_taped v_at v_fault v_laid v_open v_s k.1 k.2)) fx hf h dX5_of_128
    have c6 := not_or.mp c6
    rcases it_or hf with ⟨c8, hf⟩ | ⟨c8, hf⟩
    · refine lv_tableIn (off := 32) (tgt := 60) hx hb dX5_of_28 c6.1 c6.2 (by rw [c8]; rfl) (by decide) ?_
      refine lv_aload_n hx hb dX5_of_60 rfl (lv_at hl 0 rfl) ?_
      refine q_get (v := .ref a_s) fx inX5 h 0 rfl rfl 0 (by decide) k_636 rfl dX5_of_61 ?_
      refine lv_iconst (v := 1) hx hb dX5_of_64 (by decide) ?_
      refine q_ialdK fx h 1 rfl 1 (vinK (by decide)) (by decide) dX5_of_65 ?_
      refine lv_iload_n hx hb dX5_of_66 rfl (lv_at hl 1 rfl) ?_
      refine lv_ishr hx hb dX5_of_67 ?_
      refine lv_iconst (v := 1) hx hb dX5_of_68 (by decide) ?_
      refine lv_iand hx hb dX5_of_69 ?_
      exact q_reti (fun k : (Nat → Int32) × (Nat → Int32) => (wX5_of cI cJ cZ cS a_t a_s a_keptS a_statuses a_pile a_tape a_steps a_wish a_mark a_bitsOf a_sizeOf a_number a_moved v_isKept v_taped v_at v_fault v_laid v_open v_s k.1 k.2)) fx hf h dX5_of_70
    rcases it_or hf with ⟨c9, hf⟩ | ⟨c9, hf⟩
    · refine lv_tableIn (off := 43) (tgt := 71) hx hb dX5_of_28 c6.1 c6.2 (by rw [c9]; rfl) (by decide) ?_
      refine lv_aload_n hx hb dX5_of_71 rfl (lv_at hl 0 rfl) ?_
      refine lv_iload_n hx hb dX5_of_72 rfl (lv_at hl 1 rfl) ?_
      refine lv_aload_n hx hb dX5_of_73 rfl (lv_at hl 0 rfl) ?_
      refine q_get (v := .ref a_s) fx inX5 h 0 rfl rfl 0 (by decide) k_636 rfl dX5_of_74 ?_
      refine lv_iconst (v := 1) hx hb dX5_of_77 (by decide) ?_
      refine q_ialdK fx h 1 rfl 1 (vinK (by decide)) (by decide) dX5_of_78 ?_
      obtain ⟨r10, k10, hg, hf⟩ := bR_inv hf
      refine q_ci (rest := []) (ws' := (wX5_of cI cJ cZ cS a_t a_s a_keptS a_statuses a_pile a_tape a_steps a_wish a_mark a_bitsOf a_sizeOf a_number a_moved v_isKept v_taped v_at v_fault v_laid v_open v_s v_statuses k10)) (w1 := (wX5_comesBy cI cJ cZ cS a_t a_s a_keptS a_statuses a_pile a_tape a_steps a_wish a_mark a_bitsOf a_sizeOf a_number a_moved v_isKept v_taped v_at v_fault v_laid v_open v_s k10)) fx h [0, 1, 3] rfl rfl rfl rfl (q_runV fx h hl.1 [0, 1, 3] rfl rfl (tX5_comesBy l D cI cJ cZ cS tb a_t a_s a_keptS a_statuses a_pile a_tape a_steps a_wish a_mark a_bitsOf a_sizeOf a_number a_moved H.size v_isKept v_taped v_at v_fault v_laid v_open v_s v_pile x1 (v_s 1) r10 k10 hg) mvX5_comesBy k_715 ⟨rfl, rfl⟩ ⟨Nat.le_of_ble_eq_true rfl, Nat.le_of_ble_eq_true rfl⟩ rfl rfl rfl rfl (Nat.le_of_ble_eq_true rfl) dX5_of_79 ⟨Nat.le_of_ble_eq_true rfl, Nat.le_of_ble_eq_true rfl⟩) (fun H locs h => ?_)
      refine lv_if_eq (tgt := 89) hx hb dX5_of_82 (by decide) (fun c11 => ?_) (fun c11 => ?_)
      · have hf := it_t c11 hf
        refine lv_iconst (v := 0) hx hb dX5_of_89 (by decide) ?_
        exact q_reti (fun k : (Nat → Int32) × (Nat → Int32) => (wX5_of cI cJ cZ cS a_t a_s a_keptS a_statuses a_pile a_tape a_steps a_wish a_mark a_bitsOf a_sizeOf a_number a_moved v_isKept v_taped v_at v_fault v_laid v_open v_s k.1 k.2)) fx hf h dX5_of_90
      have hf := it_f c11 hf
      refine lv_iconst (v := 1) hx hb dX5_of_85 (by decide) ?_
      refine lv_goto (tgt := 90) hx hb dX5_of_86 (by decide) ?_
      exact q_reti (fun k : (Nat → Int32) × (Nat → Int32) => (wX5_of cI cJ cZ cS a_t a_s a_keptS a_statuses a_pile a_tape a_steps a_wish a_mark a_bitsOf a_sizeOf a_number a_moved v_isKept v_taped v_at v_fault v_laid v_open v_s k.1 k.2)) fx hf h dX5_of_90
    rcases it_or hf with ⟨c12, hf⟩ | ⟨c12, hf⟩
    · refine lv_tableIn (off := 63) (tgt := 91) hx hb dX5_of_28 c6.1 c6.2 (by rw [c12]; rfl) (by decide) ?_
      refine lv_aload_n hx hb dX5_of_91 rfl (lv_at hl 0 rfl) ?_
      refine lv_iload_n hx hb dX5_of_92 rfl (lv_at hl 1 rfl) ?_
      refine lv_aload_n hx hb dX5_of_93 rfl (lv_at hl 0 rfl) ?_
      refine q_get (v := .ref a_s) fx inX5 h 0 rfl rfl 0 (by decide) k_636 rfl dX5_of_94 ?_
      refine lv_iconst (v := 1) hx hb dX5_of_97 (by decide) ?_
      refine q_ialdK fx h 1 rfl 1 (vinK (by decide)) (by decide) dX5_of_98 ?_
      obtain ⟨r13, k13, hg, hf⟩ := bR_inv hf
      refine q_ci (rest := []) (ws' := (wX5_of cI cJ cZ cS a_t a_s a_keptS a_statuses a_pile a_tape a_steps a_wish a_mark a_bitsOf a_sizeOf a_number a_moved v_isKept v_taped v_at v_fault v_laid v_open v_s v_statuses k13)) (w1 := (wX5_holds cI cJ cZ cS a_t a_s a_keptS a_statuses a_pile a_tape a_steps a_wish a_mark a_bitsOf a_sizeOf a_number a_moved v_isKept v_taped v_at v_fault v_laid v_open v_s k13)) fx h [0, 1, 3] rfl rfl rfl rfl (q_runV fx h hl.1 [0, 1, 3] rfl rfl (tX5_holds l D cI cJ cZ cS tb a_t a_s a_keptS a_statuses a_pile a_tape a_steps a_wish a_mark a_bitsOf a_sizeOf a_number a_moved H.size v_isKept v_taped v_at v_fault v_laid v_open v_s v_pile x1 (v_s 1) r13 k13 hg) mvX5_holds k_729 ⟨rfl, rfl⟩ ⟨Nat.le_of_ble_eq_true rfl, Nat.le_of_ble_eq_true rfl⟩ rfl rfl rfl rfl (Nat.le_of_ble_eq_true rfl) dX5_of_99 ⟨Nat.le_of_ble_eq_true rfl, Nat.le_of_ble_eq_true rfl⟩) (fun H locs h => ?_)
      refine lv_if_eq (tgt := 109) hx hb dX5_of_102 (by decide) (fun c14 => ?_) (fun c14 => ?_)
      · have hf := it_t c14 hf
        refine lv_iconst (v := 0) hx hb dX5_of_109 (by decide) ?_
        exact q_reti (fun k : (Nat → Int32) × (Nat → Int32) => (wX5_of cI cJ cZ cS a_t a_s a_keptS a_statuses a_pile a_tape a_steps a_wish a_mark a_bitsOf a_sizeOf a_number a_moved v_isKept v_taped v_at v_fault v_laid v_open v_s k.1 k.2)) fx hf h dX5_of_110
      have hf := it_f c14 hf
      refine lv_iconst (v := 1) hx hb dX5_of_105 (by decide) ?_
      refine lv_goto (tgt := 110) hx hb dX5_of_106 (by decide) ?_
      exact q_reti (fun k : (Nat → Int32) × (Nat → Int32) => (wX5_of cI cJ cZ cS a_t a_s a_keptS a_statuses a_pile a_tape a_steps a_wish a_mark a_bitsOf a_sizeOf a_number a_moved v_isKept v_taped v_at v_fault v_laid v_open v_s k.1 k.2)) fx hf h dX5_of_110
    rcases it_or hf with ⟨c15, hf⟩ | ⟨c15, hf⟩
    · refine lv_tableIn (off := 83) (tgt := 111) hx hb dX5_of_28 c6.1 c6.2 (by rw [c15]; rfl) (by decide) ?_
      refine lv_iload_n hx hb dX5_of_111 rfl (lv_at hl 1 rfl) ?_
      refine lv_aload_n hx hb dX5_of_112 rfl (lv_at hl 0 rfl) ?_
      refine q_get (v := .ref a_s) fx inX5 h 0 rfl rfl 0 (by decide) k_636 rfl dX5_of_113 ?_
      refine lv_iconst (v := 1) hx hb dX5_of_116 (by decide) ?_
      refine q_ialdK fx h 1 rfl 1 (vinK (by decide)) (by decide) dX5_of_117 ?_
      obtain ⟨r16, k16, hg, hf⟩ := bR_inv hf
      refine q_ci (rest := []) (ws' := (wX5_of cI cJ cZ cS a_t a_s a_keptS a_statuses a_pile a_tape a_steps a_wish a_mark a_bitsOf a_sizeOf a_number a_moved v_isKept v_taped v_at v_fault v_laid v_open v_s v_statuses v_pile)) (w1 := (wX5_others cI cJ cZ cS)) fx h [] rfl rfl rfl rfl (q_runS fx h hl.1 [] rfl rfl (tX5_others l D cI cJ cZ cS tb H.size x1 (v_s 1) r16 k16 hg) msX5_others k_719 ⟨rfl, rfl⟩ ⟨Nat.le_of_ble_eq_true rfl, Nat.le_of_ble_eq_true rfl⟩ rfl rfl (Nat.le_of_ble_eq_true rfl) dX5_of_118 ⟨Nat.le_of_ble_eq_true rfl, Nat.le_of_ble_eq_true rfl⟩) (fun H locs h => ?_)
      exact q_reti (fun k : (Nat → Int32) × (Nat → Int32) => (wX5_of cI cJ cZ cS a_t a_s a_keptS a_statuses a_pile a_tape a_steps a_wish a_mark a_bitsOf a_sizeOf a_number a_moved v_isKept v_taped v_at v_fault v_laid v_open v_s k.1 k.2)) fx hf h dX5_of_121
    cases hf
  have hf := it_t c5 hf
  exact LX5_of_20 fx h (lv_sub hl [0] rfl) hf
/-! X5_becomes -/
abbrev wX5_becomes (cI cJ cZ cS : ClassId) (a_t a_s a_keptS a_statuses a_pile a_tape a_steps a_wish a_mark a_bitsOf a_sizeOf a_number a_moved : Nat) (v_isKept : Int32) (v_taped : Int32) (v_at : Int32) (v_fault : Int32) (v_laid : Int32) (v_open : Int32) (v_s : Nat → Int32) : va_W := [(a_t, .inr (5, [.ref a_s, .ref a_keptS, .ref a_statuses, .int v_isKept, .ref a_pile, .ref a_tape, .ref a_steps, .int v_taped, .int v_at, .int v_fault, .int v_laid, .int v_open, .ref a_wish, .ref a_mark, .ref a_bitsOf, .ref a_sizeOf, .ref a_number, .ref a_moved])), (a_s, .inl (cI, 538, .inl v_s))]
abbrev rX5_becomes : Room := { frames := 0, cells := 0, slots := 0, locals := 0 }
def fX5_becomes (v_s : Nat → Int32) (x1 : Int32) (x2 : Int32) : Option (Int32 × (Nat → Int32)) :=
  gIn x1 538 (
  nm (v_s x1.toNatClampNeg) (fun u2 =>
  gIn x1 538 (
  some (u2, (upd v_s x1.toNatClampNeg x2)))))
set_option maxRecDepth 100000 in
set_option maxHeartbeats 4000000 in
theorem tX5_becomes (l : Launch) (D : va_G) (cI cJ cZ cS : ClassId) (tb : Nat) (a_t a_s a_keptS a_statuses a_pile a_tape a_steps a_wish a_mark a_bitsOf a_sizeOf a_number a_moved : Nat) (sz : Nat) (v_isKept : Int32) (v_taped : Int32) (v_at : Int32) (v_fault : Int32) (v_laid : Int32) (v_open : Int32) (v_s : Nat → Int32) (x1 : Int32) (x2 : Int32) (rr : Int32) (kk' : (Nat → Int32)) (hf : fX5_becomes v_s x1 x2 = some (rr, kk')) : Met l yX5_becomes (Cond.code yX5_becomes cX5_becomes 4 (some .int) :: wA) rX5_becomes (q_Pre D cI cJ cZ cS tb [.ref a_t, .int x1, .int x2] sz (wX5_becomes cI cJ cZ cS a_t a_s a_keptS a_statuses a_pile a_tape a_steps a_wish a_mark a_bitsOf a_sizeOf a_number a_moved v_isKept v_taped v_at v_fault v_laid v_open v_s)) (q_Ri D rr (va_A (wX5_becomes cI cJ cZ cS a_t a_s a_keptS a_statuses a_pile a_tape a_steps a_wish a_mark a_bitsOf a_sizeOf a_number a_moved v_isKept v_taped v_at v_fault v_laid v_open v_s) sz) ((fun k : (Nat → Int32) => (wX5_becomes cI cJ cZ cS a_t a_s a_keptS a_statuses a_pile a_tape a_steps a_wish a_mark a_bitsOf a_sizeOf a_number a_moved v_isKept v_taped v_at v_fault v_laid v_open k)) kk')) 0 0 (va_A (wX5_becomes cI cJ cZ cS a_t a_s a_keptS a_statuses a_pile a_tape a_steps a_wish a_mark a_bitsOf a_sizeOf a_number a_moved v_isKept v_taped v_at v_fault v_laid v_open v_s) sz) := by
  refine q_enter (Qf := fun A => (q_Ri D rr A ((fun k : (Nat → Int32) => (wX5_becomes cI cJ cZ cS a_t a_s a_keptS a_statuses a_pile a_tape a_steps a_wish a_mark a_bitsOf a_sizeOf a_number a_moved v_isKept v_taped v_at v_fault v_laid v_open k)) kk'))) (by decide) rfl (Nat.le_of_ble_eq_true rfl) ?_
  intro p e s m below meth c A ls fx hname h hl
  have hx := fx.1
  have hb := fx.2.1
  have hl : lv_has ls 4 [(0, .ref a_t), (1, .int x1), (2, .int x2)] := hl
  generalize h9 : s.heap = H at h ⊢
  clear h9
  generalize h9 : ([] : List Loc) = locs at h ⊢
  clear h9
  unfold fX5_becomes at hf
  refine lv_aload_n hx hb dX5_becomes_0 rfl (lv_at hl 0 rfl) ?_
  refine q_get (v := .ref a_s) fx inX5 h 0 rfl rfl 0 (by decide) k_636 rfl dX5_becomes_1 ?_
  refine lv_iload_n hx hb dX5_becomes_4 rfl (lv_at hl 1 rfl) ?_
  obtain ⟨i1, hf⟩ := gIn_inv hf
  refine q_iald fx h 1 rfl i1 dX5_becomes_5 ?_
  obtain ⟨u2, eu2, hf⟩ := nm_inv hf
  refine lv_eqi eu2 ?_
  refine lv_istore_n (lv' := [(3, .int u2), (0, .ref a_t), (1, .int x1), (2, .int x2)]) hx hb dX5_becomes_6 rfl hl (by decide) rfl (fun ls hl => ?_)
  refine lv_aload_n hx hb dX5_becomes_7 rfl (lv_at hl 1 rfl) ?_
  refine q_get (v := .ref a_s) fx inX5 h 0 rfl rfl 0 (by decide) k_636 rfl dX5_becomes_8 ?_
  refine lv_iload_n hx hb dX5_becomes_11 rfl (lv_at hl 2 rfl) ?_
  refine lv_iload_n hx hb dX5_becomes_12 rfl (lv_at hl 3 rfl) ?_
  obtain ⟨i3, hf⟩ := gIn_inv hf
  refine q_iast (ws' := (wX5_becomes cI cJ cZ cS a_t a_s a_keptS a_statuses a_pile a_tape a_steps a_wish a_mark a_bitsOf a_sizeOf a_number a_moved v_isKept v_taped v_at v_fault v_laid v_open (upd v_s x1.toNatClampNeg x2))) fx h 1 rfl i3 rfl dX5_becomes_13 (fun H locs h => ?_)
  refine lv_iload_n hx hb dX5_becomes_14 rfl (lv_at hl 0 rfl) ?_
  exact q_reti (fun k : (Nat → Int32) => (wX5_becomes cI cJ cZ cS a_t a_s a_keptS a_statuses a_pile a_tape a_steps a_wish a_mark a_bitsOf a_sizeOf a_number a_moved v_isKept v_taped v_at v_fault v_laid v_open k)) fx hf h dX5_becomes_15
/-! X5_cost -/
abbrev wX5_cost (cI cJ cZ cS : ClassId) (a_t a_s a_keptS a_statuses a_pile a_tape a_steps a_wish a_mark a_bitsOf a_sizeOf a_number a_moved : Nat) (v_isKept : Int32) (v_taped : Int32) (v_at : Int32) (v_fault : Int32) (v_laid : Int32) (v_open : Int32) (v_s : Nat → Int32) (v_statuses : Nat → Int32) : va_W := [(a_t, .inr (5, [.ref a_s, .ref a_keptS, .ref a_statuses, .int v_isKept, .ref a_pile, .ref a_tape, .ref a_steps, .int v_taped, .int v_at, .int v_fault, .int v_laid, .int v_open, .ref a_wish, .ref a_mark, .ref a_bitsOf, .ref a_sizeOf, .ref a_number, .ref a_moved])), (a_s, .inl (cI, 538, .inl v_s)), (a_statuses, .inl (cI, 7, .inl v_statuses))]
abbrev rX5_cost : Room := { frames := 2, cells := 0, slots := 0, locals := 46 }
def fX5_cost_35 (v_s : Nat → Int32) (v_statuses : Nat → Int32) : Option (Int32 × (Nat → Int32) × (Nat → Int32)) :=
  bR (fX5_finds v_statuses (-1000000001)) (fun r1 k1 =>
  some (r1, (v_s, k1)))
set_option maxRecDepth 100000 in
set_option maxHeartbeats 4000000 in
theorem LX5_cost_35 {p : Program} {l : Launch} {e : Env} {s : State} {m : MethodId} {args : Array Value} {below : List Frame} {meth : Method} {c : Code} {D : va_G} {cI cJ cZ cS : ClassId} {tb : Nat} {A : Nat → Prop} {a_t a_s a_keptS a_statuses a_pile a_tape a_steps a_wish a_mark a_bitsOf a_sizeOf a_number a_moved : Nat} {v_isKept : Int32} {v_taped : Int32} {v_at : Int32} {v_fault : Int32} {v_laid : Int32} {v_open : Int32} {rr : Int32} {kk' : (Nat → Int32) × (Nat → Int32)} (fx : q_Fx p s m args meth c cX5_cost 3 RX5 (some .int) D cI cJ cZ cS tb A) : ∀ {v_s : Nat → Int32} {v_statuses : Nat → Int32} {H : Heap} {locs : List Loc} {ls : Array Slot}, q_H D A s (wX5_cost cI cJ cZ cS a_t a_s a_keptS a_statuses a_pile a_tape a_steps a_wish a_mark a_bitsOf a_sizeOf a_number a_moved v_isKept v_taped v_at v_fault v_laid v_open v_s v_statuses) H locs → lv_has ls 3 [(0, .ref a_t)] → fX5_cost_35 v_s v_statuses = some (rr, kk') → W p l e rX5_cost s m args below meth c H locs 0 0 (MQ below (q_Ri D rr A ((fun k : (Nat → Int32) × (Nat → Int32) => (wX5_cost cI cJ cZ cS a_t a_s a_keptS a_statuses a_pile a_tape a_steps a_wish a_mark a_bitsOf a_sizeOf a_number a_moved v_isKept v_taped v_at v_fault v_laid v_open k.1 k.2)) kk')) args s 0 0 A) (F0 m 35 ls []) := by
  intro v_s v_statuses H locs ls h hl hf
  have hx := fx.1
  have hb := fx.2.1
  unfold fX5_cost_35 at hf
  refine lv_aload_n hx hb dX5_cost_35 rfl (lv_at hl 0 rfl) ?_
  refine q_ldc fx k_701 dX5_cost_36 ?_
  obtain ⟨r1, k1, hg, hf⟩ := bR_inv hf
  refine q_ci (rest := []) (ws' := (wX5_cost cI cJ cZ cS a_t a_s a_keptS a_statuses a_pile a_tape a_steps a_wish a_mark a_bitsOf a_sizeOf a_number a_moved v_isKept v_taped v_at v_fault v_laid v_open v_s k1)) (w1 := (wX5_finds cI cJ cZ cS a_t a_s a_keptS a_statuses a_pile a_tape a_steps a_wish a_mark a_bitsOf a_sizeOf a_number a_moved v_isKept v_taped v_at v_fault v_laid v_open k1)) fx h [0, 2] rfl rfl rfl rfl (q_runV fx h hl.1 [0, 2] rfl rfl (tX5_finds l D cI cJ cZ cS tb a_t a_s a_keptS a_statuses a_pile a_tape a_steps a_wish a_mark a_bitsOf a_sizeOf a_number a_moved H.size v_isKept v_taped v_at v_fault v_laid v_open v_statuses (-1000000001) r1 k1 hg) mvX5_finds k_702 ⟨rfl, rfl⟩ ⟨Nat.le_of_ble_eq_true rfl, Nat.le_of_ble_eq_true rfl⟩ rfl rfl rfl rfl (Nat.le_of_ble_eq_true rfl) dX5_cost_38 ⟨Nat.le_of_ble_eq_true rfl, Nat.le_of_ble_eq_true rfl⟩) (fun H locs h => ?_)
  exact q_reti (fun k : (Nat → Int32) × (Nat → Int32) => (wX5_cost cI cJ cZ cS a_t a_s a_keptS a_statuses a_pile a_tape a_steps a_wish a_mark a_bitsOf a_sizeOf a_number a_moved v_isKept v_taped v_at v_fault v_laid v_open k.1 k.2)) fx hf h dX5_cost_41
def fX5_cost (v_s : Nat → Int32) (v_statuses : Nat → Int32) (x1 : Int32) (x2 : Int32) : Option (Int32 × (Nat → Int32) × (Nat → Int32)) :=
  bR (fX5_isGuest v_s x1) (fun r2 k2 =>
  (if r2 = 0 then (
  fX5_cost_35  v_s v_statuses)
  else (
  bR (fX5_in (x2.toInt64) 0 99) (fun r4 k4 =>
  (if r4 = 0 then (
  fX5_cost_35  v_s v_statuses)
  else (
  bR (fX5_becomes v_s ((2 + (3 * x1)) + 1) x2) (fun r6 k6 =>
  some (r6, (k6, v_statuses)))))))))
set_option maxRecDepth 100000 in
set_option maxHeartbeats 4000000 in
theorem tX5_cost (l : Launch) (D : va_G) (cI cJ cZ cS : ClassId) (tb : Nat) (a_t a_s a_keptS a_statuses a_pile a_tape a_steps a_wish a_mark a_bitsOf a_sizeOf a_number a_moved : Nat) (sz : Nat) (v_isKept : Int32) (v_taped : Int32) (v_at : Int32) (v_fault : Int32) (v_laid : Int32) (v_open : Int32) (v_s : Nat → Int32) (v_statuses : Nat → Int32) (x1 : Int32) (x2 : Int32) (rr : Int32) (kk' : (Nat → Int32) × (Nat → Int32)) (hf : fX5_cost v_s v_statuses x1 x2 = some (rr, kk')) : Met l yX5_cost (Cond.code yX5_cost cX5_cost 3 (some .int) :: wA) rX5_cost (q_Pre D cI cJ cZ cS tb [.ref a_t, .int x1, .int x2] sz (wX5_cost cI cJ cZ cS a_t a_s a_keptS a_statuses a_pile a_tape a_steps a_wish a_mark a_bitsOf a_sizeOf a_number a_moved v_isKept v_taped v_at v_fault v_laid v_open v_s v_statuses)) (q_Ri D rr (va_A (wX5_cost cI cJ cZ cS a_t a_s a_keptS a_statuses a_pile a_tape a_steps a_wish a_mark a_bitsOf a_sizeOf a_number a_moved v_isKept v_taped v_at v_fault v_laid v_open v_s v_statuses) sz) ((fun k : (Nat → Int32) × (Nat → Int32) => (wX5_cost cI cJ cZ cS a_t a_s a_keptS a_statuses a_pile a_tape a_steps a_wish a_mark a_bitsOf a_sizeOf a_number a_moved v_isKept v_taped v_at v_fault v_laid v_open k.1 k.2)) kk')) 0 0 (va_A (wX5_cost cI cJ cZ cS a_t a_s a_keptS a_statuses a_pile a_tape a_steps a_wish a_mark a_bitsOf a_sizeOf a_number a_moved v_isKept v_taped v_at v_fault v_laid v_open v_s v_statuses) sz) := by
  refine q_enter (Qf := fun A => (q_Ri D rr A ((fun k : (Nat → Int32) × (Nat → Int32) => (wX5_cost cI cJ cZ cS a_t a_s a_keptS a_statuses a_pile a_tape a_steps a_wish a_mark a_bitsOf a_sizeOf a_number a_moved v_isKept v_taped v_at v_fault v_laid v_open k.1 k.2)) kk'))) (by decide) rfl (Nat.le_of_ble_eq_true rfl) ?_
  intro p e s m below meth c A ls fx hname h hl
  have hx := fx.1
  have hb := fx.2.1
  have hl : lv_has ls 3 [(0, .ref a_t), (1, .int x1), (2, .int x2)] := hl
  generalize h9 : s.heap = H at h ⊢
  clear h9
  generalize h9 : ([] : List Loc) = locs at h ⊢
  clear h9
  unfold fX5_cost at hf
  refine lv_aload_n hx hb dX5_cost_0 rfl (lv_at hl 0 rfl) ?_
  refine lv_iload_n hx hb dX5_cost_1 rfl (lv_at hl 1 rfl) ?_
  obtain ⟨r2, k2, hg, hf⟩ := bR_inv hf
  refine q_ci (rest := []) (ws' := (wX5_cost cI cJ cZ cS a_t a_s a_keptS a_statuses a_pile a_tape a_steps a_wish a_mark a_bitsOf a_sizeOf a_number a_moved v_isKept v_taped v_at v_fault v_laid v_open v_s v_statuses)) (w1 := (wX5_isGuest cI cJ cZ cS a_t a_s a_keptS a_statuses a_pile a_tape a_steps a_wish a_mark a_bitsOf a_sizeOf a_number a_moved v_isKept v_taped v_at v_fault v_laid v_open v_s)) fx h [0, 1] rfl rfl rfl rfl (q_runV fx h hl.1 [0, 1] rfl rfl (tX5_isGuest l D cI cJ cZ cS tb a_t a_s a_keptS a_statuses a_pile a_tape a_steps a_wish a_mark a_bitsOf a_sizeOf a_number a_moved H.size v_isKept v_taped v_at v_fault v_laid v_open v_s x1 r2 k2 hg) mvX5_isGuest k_711 ⟨rfl, rfl⟩ ⟨Nat.le_of_ble_eq_true rfl, Nat.le_of_ble_eq_true rfl⟩ rfl rfl rfl rfl (Nat.le_of_ble_eq_true rfl) dX5_cost_2 ⟨Nat.le_of_ble_eq_true rfl, Nat.le_of_ble_eq_true rfl⟩) (fun H locs h => ?_)
  refine lv_if_eq (tgt := 35) hx hb dX5_cost_5 (by decide) (fun c3 => ?_) (fun c3 => ?_)
  · have hf := it_t c3 hf
    exact LX5_cost_35 fx h (lv_sub hl [0] rfl) hf
  have hf := it_f c3 hf
  refine lv_iload_n hx hb dX5_cost_8 rfl (lv_at hl 2 rfl) ?_
  refine lv_i2l hx hb dX5_cost_9 rfl ?_
  refine lv_lconst (v := 0) hx hb dX5_cost_10 (by decide) ?_
  refine q_ldc2 fx k_700 dX5_cost_11 ?_
  obtain ⟨r4, k4, hg, hf⟩ := bR_inv hf
  refine q_ci (rest := []) (ws' := (wX5_cost cI cJ cZ cS a_t a_s a_keptS a_statuses a_pile a_tape a_steps a_wish a_mark a_bitsOf a_sizeOf a_number a_moved v_isKept v_taped v_at v_fault v_laid v_open v_s v_statuses)) (w1 := (wX5_in cI cJ cZ cS)) fx h [] rfl rfl rfl rfl (q_runS fx h hl.1 [] rfl rfl (tX5_in l D cI cJ cZ cS tb H.size (x2.toInt64) 0 99 r4 k4 hg) msX5_in k_697 ⟨rfl, rfl⟩ ⟨Nat.le_of_ble_eq_true rfl, Nat.le_of_ble_eq_true rfl⟩ rfl rfl (Nat.le_of_ble_eq_true rfl) dX5_cost_14 ⟨Nat.le_of_ble_eq_true rfl, Nat.le_of_ble_eq_true rfl⟩) (fun H locs h => ?_)
  refine lv_if_eq (tgt := 35) hx hb dX5_cost_17 (by decide) (fun c5 => ?_) (fun c5 => ?_)
  · have hf := it_t c5 hf
    exact LX5_cost_35 fx h (lv_sub hl [0] rfl) hf
  have hf := it_f c5 hf
  refine lv_aload_n hx hb dX5_cost_20 rfl (lv_at hl 0 rfl) ?_
  refine lv_iconst (v := 2) hx hb dX5_cost_21 (by decide) ?_
  refine lv_iconst (v := 3) hx hb dX5_cost_22 (by decide) ?_
  refine lv_iload_n hx hb dX5_cost_23 rfl (lv_at hl 1 rfl) ?_
  refine lv_imul hx hb dX5_cost_24 ?_
  refine lv_iadd hx hb dX5_cost_25 ?_
  refine lv_iconst (v := 1) hx hb dX5_cost_26 (by decide) ?_
  refine lv_iadd hx hb dX5_cost_27 ?_
  refine lv_iload_n hx hb dX5_cost_28 rfl (lv_at hl 2 rfl) ?_
  obtain ⟨r6, k6, hg, hf⟩ := bR_inv hf
  refine q_ci (rest := []) (ws' := (wX5_cost cI cJ cZ cS a_t a_s a_keptS a_statuses a_pile a_tape a_steps a_wish a_mark a_bitsOf a_sizeOf a_number a_moved v_isKept v_taped v_at v_fault v_laid v_open k6 v_statuses)) (w1 := (wX5_becomes cI cJ cZ cS a_t a_s a_keptS a_statuses a_pile a_tape a_steps a_wish a_mark a_bitsOf a_sizeOf a_number a_moved v_isKept v_taped v_at v_fault v_laid v_open k6)) fx h [0, 1] rfl rfl rfl rfl (q_runV fx h hl.1 [0, 1] rfl rfl (tX5_becomes l D cI cJ cZ cS tb a_t a_s a_keptS a_statuses a_pile a_tape a_steps a_wish a_mark a_bitsOf a_sizeOf a_number a_moved H.size v_isKept v_taped v_at v_fault v_laid v_open v_s ((2 + (3 * x1)) + 1) x2 r6 k6 hg) mvX5_becomes k_740 ⟨rfl, rfl⟩ ⟨Nat.le_of_ble_eq_true rfl, Nat.le_of_ble_eq_true rfl⟩ rfl rfl rfl rfl (Nat.le_of_ble_eq_true rfl) dX5_cost_29 ⟨Nat.le_of_ble_eq_true rfl, Nat.le_of_ble_eq_true rfl⟩) (fun H locs h => ?_)
  refine lv_goto (tgt := 41) hx hb dX5_cost_32 (by decide) ?_
  exact q_reti (fun k : (Nat → Int32) × (Nat → Int32) => (wX5_cost cI cJ cZ cS a_t a_s a_keptS a_statuses a_pile a_tape a_steps a_wish a_mark a_bitsOf a_sizeOf a_number a_moved v_isKept v_taped v_at v_fault v_laid v_open k.1 k.2)) fx hf h dX5_cost_41
