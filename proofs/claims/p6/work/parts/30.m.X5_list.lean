/-! X5_list -/
abbrev wX5_list (cI cJ cZ cS : ClassId) (a_t a_s a_keptS a_statuses a_pile a_tape a_steps a_wish a_mark a_bitsOf a_sizeOf a_number a_moved : Nat) (v_isKept : Int32) (v_taped : Int32) (v_at : Int32) (v_fault : Int32) (v_laid : Int32) (v_open : Int32) (v_s : Nat → Int32) (v_statuses : Nat → Int32) : va_W := [(a_t, .inr (5, [.ref a_s, .ref a_keptS, .ref a_statuses, .int v_isKept, .ref a_pile, .ref a_tape, .ref a_steps, .int v_taped, .int v_at, .int v_fault, .int v_laid, .int v_open, .ref a_wish, .ref a_mark, .ref a_bitsOf, .ref a_sizeOf, .ref a_number, .ref a_moved])), (a_s, .inl (cI, 538, .inl v_s)), (a_statuses, .inl (cI, 7, .inl v_statuses))]
abbrev rX5_list : Room := { frames := 2, cells := 0, slots := 0, locals := 47 }
def fX5_list (v_s : Nat → Int32) (v_statuses : Nat → Int32) (x1 : Int32) : Option (Int32 × (Nat → Int32) × (Nat → Int32)) :=
  bR (fX5_isList v_s (x1.toInt64)) (fun r1 k1 =>
  (if r1 = 0 then (
  bR (fX5_finds v_statuses (-1000000001)) (fun r3 k3 =>
  some (r3, (v_s, k3))))
  else (
  bR (fX5_becomes v_s 1 x1) (fun r4 k4 =>
  some (r4, (k4, v_statuses))))))
set_option maxRecDepth 100000 in
set_option maxHeartbeats 4000000 in
theorem tX5_list (l : Launch) (D : va_G) (cI cJ cZ cS : ClassId) (tb : Nat) (a_t a_s a_keptS a_statuses a_pile a_tape a_steps a_wish a_mark a_bitsOf a_sizeOf a_number a_moved : Nat) (sz : Nat) (v_isKept : Int32) (v_taped : Int32) (v_at : Int32) (v_fault : Int32) (v_laid : Int32) (v_open : Int32) (v_s : Nat → Int32) (v_statuses : Nat → Int32) (x1 : Int32) (rr : Int32) (kk' : (Nat → Int32) × (Nat → Int32)) (hf : fX5_list v_s v_statuses x1 = some (rr, kk')) : Met l yX5_list (Cond.code yX5_list cX5_list 2 (some .int) :: wA) rX5_list (q_Pre D cI cJ cZ cS tb [.ref a_t, .int x1] sz (wX5_list cI cJ cZ cS a_t a_s a_keptS a_statuses a_pile a_tape a_steps a_wish a_mark a_bitsOf a_sizeOf a_number a_moved v_isKept v_taped v_at v_fault v_laid v_open v_s v_statuses)) (q_Ri D rr (va_A (wX5_list cI cJ cZ cS a_t a_s a_keptS a_statuses a_pile a_tape a_steps a_wish a_mark a_bitsOf a_sizeOf a_number a_moved v_isKept v_taped v_at v_fault v_laid v_open v_s v_statuses) sz) ((fun k : (Nat → Int32) × (Nat → Int32) => (wX5_list cI cJ cZ cS a_t a_s a_keptS a_statuses a_pile a_tape a_steps a_wish a_mark a_bitsOf a_sizeOf a_number a_moved v_isKept v_taped v_at v_fault v_laid v_open k.1 k.2)) kk')) 0 0 (va_A (wX5_list cI cJ cZ cS a_t a_s a_keptS a_statuses a_pile a_tape a_steps a_wish a_mark a_bitsOf a_sizeOf a_number a_moved v_isKept v_taped v_at v_fault v_laid v_open v_s v_statuses) sz) := by
  refine q_enter (Qf := fun A => (q_Ri D rr A ((fun k : (Nat → Int32) × (Nat → Int32) => (wX5_list cI cJ cZ cS a_t a_s a_keptS a_statuses a_pile a_tape a_steps a_wish a_mark a_bitsOf a_sizeOf a_number a_moved v_isKept v_taped v_at v_fault v_laid v_open k.1 k.2)) kk'))) (by decide) rfl (Nat.le_of_ble_eq_true rfl) ?_
  intro p e s m below meth c A ls fx hname h hl
  have hx := fx.1
  have hb := fx.2.1
  have hl : lv_has ls 2 [(0, .ref a_t), (1, .int x1)] := hl
  generalize h9 : s.heap = H at h ⊢
  clear h9
  generalize h9 : ([] : List Loc) = locs at h ⊢
  clear h9
  unfold fX5_list at hf
  refine lv_aload_n hx hb dX5_list_0 rfl (lv_at hl 0 rfl) ?_
  refine lv_iload_n hx hb dX5_list_1 rfl (lv_at hl 1 rfl) ?_
  refine lv_i2l hx hb dX5_list_2 rfl ?_
  obtain ⟨r1, k1, hg, hf⟩ := bR_inv hf
  refine q_ci (rest := []) (ws' := (wX5_list cI cJ cZ cS a_t a_s a_keptS a_statuses a_pile a_tape a_steps a_wish a_mark a_bitsOf a_sizeOf a_number a_moved v_isKept v_taped v_at v_fault v_laid v_open v_s v_statuses)) (w1 := (wX5_isList cI cJ cZ cS a_t a_s a_keptS a_statuses a_pile a_tape a_steps a_wish a_mark a_bitsOf a_sizeOf a_number a_moved v_isKept v_taped v_at v_fault v_laid v_open v_s)) fx h [0, 1] rfl rfl rfl rfl (q_runV fx h hl.1 [0, 1] rfl rfl (tX5_isList l D cI cJ cZ cS tb a_t a_s a_keptS a_statuses a_pile a_tape a_steps a_wish a_mark a_bitsOf a_sizeOf a_number a_moved H.size v_isKept v_taped v_at v_fault v_laid v_open v_s (x1.toInt64) r1 k1 hg) mvX5_isList k_806 ⟨rfl, rfl⟩ ⟨Nat.le_of_ble_eq_true rfl, Nat.le_of_ble_eq_true rfl⟩ rfl rfl rfl rfl (Nat.le_of_ble_eq_true rfl) dX5_list_3 ⟨Nat.le_of_ble_eq_true rfl, Nat.le_of_ble_eq_true rfl⟩) (fun H locs h => ?_)
  refine lv_if_eq (tgt := 18) hx hb dX5_list_6 (by decide) (fun c2 => ?_) (fun c2 => ?_)
  · have hf := it_t c2 hf
    refine lv_aload_n hx hb dX5_list_18 rfl (lv_at hl 0 rfl) ?_
    refine q_ldc fx k_701 dX5_list_19 ?_
    obtain ⟨r3, k3, hg, hf⟩ := bR_inv hf
    refine q_ci (rest := []) (ws' := (wX5_list cI cJ cZ cS a_t a_s a_keptS a_statuses a_pile a_tape a_steps a_wish a_mark a_bitsOf a_sizeOf a_number a_moved v_isKept v_taped v_at v_fault v_laid v_open v_s k3)) (w1 := (wX5_finds cI cJ cZ cS a_t a_s a_keptS a_statuses a_pile a_tape a_steps a_wish a_mark a_bitsOf a_sizeOf a_number a_moved v_isKept v_taped v_at v_fault v_laid v_open k3)) fx h [0, 2] rfl rfl rfl rfl (q_runV fx h hl.1 [0, 2] rfl rfl (tX5_finds l D cI cJ cZ cS tb a_t a_s a_keptS a_statuses a_pile a_tape a_steps a_wish a_mark a_bitsOf a_sizeOf a_number a_moved H.size v_isKept v_taped v_at v_fault v_laid v_open v_statuses (-1000000001) r3 k3 hg) mvX5_finds k_702 ⟨rfl, rfl⟩ ⟨Nat.le_of_ble_eq_true rfl, Nat.le_of_ble_eq_true rfl⟩ rfl rfl rfl rfl (Nat.le_of_ble_eq_true rfl) dX5_list_21 ⟨Nat.le_of_ble_eq_true rfl, Nat.le_of_ble_eq_true rfl⟩) (fun H locs h => ?_)
    exact q_reti (fun k : (Nat → Int32) × (Nat → Int32) => (wX5_list cI cJ cZ cS a_t a_s a_keptS a_statuses a_pile a_tape a_steps a_wish a_mark a_bitsOf a_sizeOf a_number a_moved v_isKept v_taped v_at v_fault v_laid v_open k.1 k.2)) fx hf h dX5_list_24
  have hf := it_f c2 hf
  refine lv_aload_n hx hb dX5_list_9 rfl (lv_at hl 0 rfl) ?_
  refine lv_iconst (v := 1) hx hb dX5_list_10 (by decide) ?_
  refine lv_iload_n hx hb dX5_list_11 rfl (lv_at hl 1 rfl) ?_
  obtain ⟨r4, k4, hg, hf⟩ := bR_inv hf
  refine q_ci (rest := []) (ws' := (wX5_list cI cJ cZ cS a_t a_s a_keptS a_statuses a_pile a_tape a_steps a_wish a_mark a_bitsOf a_sizeOf a_number a_moved v_isKept v_taped v_at v_fault v_laid v_open k4 v_statuses)) (w1 := (wX5_becomes cI cJ cZ cS a_t a_s a_keptS a_statuses a_pile a_tape a_steps a_wish a_mark a_bitsOf a_sizeOf a_number a_moved v_isKept v_taped v_at v_fault v_laid v_open k4)) fx h [0, 1] rfl rfl rfl rfl (q_runV fx h hl.1 [0, 1] rfl rfl (tX5_becomes l D cI cJ cZ cS tb a_t a_s a_keptS a_statuses a_pile a_tape a_steps a_wish a_mark a_bitsOf a_sizeOf a_number a_moved H.size v_isKept v_taped v_at v_fault v_laid v_open v_s 1 x1 r4 k4 hg) mvX5_becomes k_740 ⟨rfl, rfl⟩ ⟨Nat.le_of_ble_eq_true rfl, Nat.le_of_ble_eq_true rfl⟩ rfl rfl rfl rfl (Nat.le_of_ble_eq_true rfl) dX5_list_12 ⟨Nat.le_of_ble_eq_true rfl, Nat.le_of_ble_eq_true rfl⟩) (fun H locs h => ?_)
  refine lv_goto (tgt := 24) hx hb dX5_list_15 (by decide) ?_
  exact q_reti (fun k : (Nat → Int32) × (Nat → Int32) => (wX5_list cI cJ cZ cS a_t a_s a_keptS a_statuses a_pile a_tape a_steps a_wish a_mark a_bitsOf a_sizeOf a_number a_moved v_isKept v_taped v_at v_fault v_laid v_open k.1 k.2)) fx hf h dX5_list_24
/-! X5_costOf -/
abbrev wX5_costOf (cI cJ cZ cS : ClassId) (a_t a_s a_keptS a_statuses a_pile a_tape a_steps a_wish a_mark a_bitsOf a_sizeOf a_number a_moved : Nat) (v_isKept : Int32) (v_taped : Int32) (v_at : Int32) (v_fault : Int32) (v_laid : Int32) (v_open : Int32) (v_s : Nat → Int32) : va_W := [(a_t, .inr (5, [.ref a_s, .ref a_keptS, .ref a_statuses, .int v_isKept, .ref a_pile, .ref a_tape, .ref a_steps, .int v_taped, .int v_at, .int v_fault, .int v_laid, .int v_open, .ref a_wish, .ref a_mark, .ref a_bitsOf, .ref a_sizeOf, .ref a_number, .ref a_moved])), (a_s, .inl (cI, 538, .inl v_s))]
abbrev rX5_costOf : Room := { frames := 1, cells := 0, slots := 0, locals := 22 }
def fX5_costOf_33 (v_s : Nat → Int32) (ag4 : Int32 → Int32 → Int32 → Option (Int32 × Unit)) (s0 : Int32) (s1 : Int32) (y1 : Int32) (y3 : Int32) : Option (Int32 × Unit) :=
  nm (s0 + s1) (fun u1 =>
  nm (y3 + 1) (fun u2 =>
  ag4 y1 u1 u2))
set_option maxRecDepth 100000 in
set_option maxHeartbeats 4000000 in
theorem LX5_costOf_33 {p : Program} {l : Launch} {e : Env} {s : State} {m : MethodId} {args : Array Value} {below : List Frame} {meth : Method} {c : Code} {D : va_G} {cI cJ cZ cS : ClassId} {tb : Nat} {A : Nat → Prop} {a_t a_s a_keptS a_statuses a_pile a_tape a_steps a_wish a_mark a_bitsOf a_sizeOf a_number a_moved : Nat} {v_isKept : Int32} {v_taped : Int32} {v_at : Int32} {v_fault : Int32} {v_laid : Int32} {v_open : Int32} {v_s : Nat → Int32} {rr : Int32} {kk' : Unit} (fx : q_Fx p s m args meth c cX5_costOf 4 RX5 (some .int) D cI cJ cZ cS tb A) {ag4 : Int32 → Int32 → Int32 → Option (Int32 × Unit)} (hag4 : ∀ {y1 : Int32} {y2 : Int32} {y3 : Int32} {H : Heap} {locs : List Loc} {ls : Array Slot}, q_H D A s (wX5_costOf cI cJ cZ cS a_t a_s a_keptS a_statuses a_pile a_tape a_steps a_wish a_mark a_bitsOf a_sizeOf a_number a_moved v_isKept v_taped v_at v_fault v_laid v_open v_s) H locs → lv_has ls 4 [(0, .ref a_t), (1, .int y1), (2, .int y2), (3, .int y3)] → ag4 y1 y2 y3 = some (rr, kk') → W p l e rX5_costOf s m args below meth c H locs 0 0 (MQ below (q_Ri D rr A ((fun k : Unit => (wX5_costOf cI cJ cZ cS a_t a_s a_keptS a_statuses a_pile a_tape a_steps a_wish a_mark a_bitsOf a_sizeOf a_number a_moved v_isKept v_taped v_at v_fault v_laid v_open v_s)) kk')) args s 0 0 A) (F0 m 4 ls [])) : ∀ {s0 : Int32} {s1 : Int32} {y1 : Int32} {y3 : Int32} {H : Heap} {locs : List Loc} {ls : Array Slot}, q_H D A s (wX5_costOf cI cJ cZ cS a_t a_s a_keptS a_statuses a_pile a_tape a_steps a_wish a_mark a_bitsOf a_sizeOf a_number a_moved v_isKept v_taped v_at v_fault v_laid v_open v_s) H locs → lv_has ls 4 [(0, .ref a_t), (1, .int y1), (3, .int y3)] → fX5_costOf_33 v_s ag4 s0 s1 y1 y3 = some (rr, kk') → W p l e rX5_costOf s m args below meth c H locs 0 0 (MQ below (q_Ri D rr A ((fun k : Unit => (wX5_costOf cI cJ cZ cS a_t a_s a_keptS a_statuses a_pile a_tape a_steps a_wish a_mark a_bitsOf a_sizeOf a_number a_moved v_isKept v_taped v_at v_fault v_laid v_open v_s)) kk')) args s 0 0 A) (F0 m 33 ls [.int s1, .int s0]) := by
  intro s0 s1 y1 y3 H locs ls h hl hf
  have hx := fx.1
  have hb := fx.2.1
  unfold fX5_costOf_33 at hf
  refine lv_iadd hx hb dX5_costOf_33 ?_
  obtain ⟨u1, eu1, hf⟩ := nm_inv hf
  refine lv_eqi eu1 ?_
  refine lv_istore_n (lv' := [(2, .int u1), (0, .ref a_t), (1, .int y1), (3, .int y3)]) hx hb dX5_costOf_34 rfl hl (by decide) rfl (fun ls hl => ?_)
  obtain ⟨u2, eu2, hf⟩ := nm_inv hf
  refine lv_iinc (v := u2) (lv' := [(3, .int u2), (2, .int u1), (0, .ref a_t), (1, .int y1)]) hx hb dX5_costOf_35 hl (k := 3) rfl (by rw [eu2]; rfl) (by decide) rfl (fun ls hl => ?_)
  refine lv_goto (tgt := 4) hx hb dX5_costOf_38 (by decide) ?_
  exact hag4 h (lv_sub hl [2, 3, 1, 0] rfl) hf
def fX5_costOf_4 (v_s : Nat → Int32) (ag4 : Int32 → Int32 → Int32 → Option (Int32 × Unit)) (y1 : Int32) (y2 : Int32) (y3 : Int32) : Option (Int32 × Unit) :=
  (if (v_s 0) ≤ y3 then (
  some (y2, ()))
  else (
  bR (fX5_has y1 y3) (fun r4 k4 =>
  (if r4 = 0 then (
  fX5_costOf_33 v_s ag4 y2 0 y1 y3)
  else (
  bR (fX5_its v_s y3 1) (fun r6 k6 =>
  fX5_costOf_33 v_s ag4 y2 r6 y1 y3))))))
set_option maxRecDepth 100000 in
set_option maxHeartbeats 4000000 in
theorem LX5_costOf_4 {p : Program} {l : Launch} {e : Env} {s : State} {m : MethodId} {args : Array Value} {below : List Frame} {meth : Method} {c : Code} {D : va_G} {cI cJ cZ cS : ClassId} {tb : Nat} {A : Nat → Prop} {a_t a_s a_keptS a_statuses a_pile a_tape a_steps a_wish a_mark a_bitsOf a_sizeOf a_number a_moved : Nat} {v_isKept : Int32} {v_taped : Int32} {v_at : Int32} {v_fault : Int32} {v_laid : Int32} {v_open : Int32} {v_s : Nat → Int32} {rr : Int32} {kk' : Unit} (fx : q_Fx p s m args meth c cX5_costOf 4 RX5 (some .int) D cI cJ cZ cS tb A) {ag4 : Int32 → Int32 → Int32 → Option (Int32 × Unit)} (hag4 : ∀ {y1 : Int32} {y2 : Int32} {y3 : Int32} {H : Heap} {locs : List Loc} {ls : Array Slot}, q_H D A s (wX5_costOf cI cJ cZ cS a_t a_s a_keptS a_statuses a_pile a_tape a_steps a_wish a_mark a_bitsOf a_sizeOf a_number a_moved v_isKept v_taped v_at v_fault v_laid v_open v_s) H locs → lv_has ls 4 [(0, .ref a_t), (1, .int y1), (2, .int y2), (3, .int y3)] → ag4 y1 y2 y3 = some (rr, kk') → W p l e rX5_costOf s m args below meth c H locs 0 0 (MQ below (q_Ri D rr A ((fun k : Unit => (wX5_costOf cI cJ cZ cS a_t a_s a_keptS a_statuses a_pile a_tape a_steps a_wish a_mark a_bitsOf a_sizeOf a_number a_moved v_isKept v_taped v_at v_fault v_laid v_open v_s)) kk')) args s 0 0 A) (F0 m 4 ls [])) : ∀ {y1 : Int32} {y2 : Int32} {y3 : Int32} {H : Heap} {locs : List Loc} {ls : Array Slot}, q_H D A s (wX5_costOf cI cJ cZ cS a_t a_s a_keptS a_statuses a_pile a_tape a_steps a_wish a_mark a_bitsOf a_sizeOf a_number a_moved v_isKept v_taped v_at v_fault v_laid v_open v_s) H locs → lv_has ls 4 [(0, .ref a_t), (1, .int y1), (2, .int y2), (3, .int y3)] → fX5_costOf_4 v_s ag4 y1 y2 y3 = some (rr, kk') → W p l e rX5_costOf s m args below meth c H locs 0 0 (MQ below (q_Ri D rr A ((fun k : Unit => (wX5_costOf cI cJ cZ cS a_t a_s a_keptS a_statuses a_pile a_tape a_steps a_wish a_mark a_bitsOf a_sizeOf a_number a_moved v_isKept v_taped v_at v_fault v_laid v_open v_s)) kk')) args s 0 0 A) (F0 m 4 ls []) := by
  intro y1 y2 y3 H locs ls h hl hf
  have hx := fx.1
  have hb := fx.2.1
  unfold fX5_costOf_4 at hf
  refine lv_iload_n hx hb dX5_costOf_4 rfl (lv_at hl 3 rfl) ?_
  refine lv_aload_n hx hb dX5_costOf_5 rfl (lv_at hl 0 rfl) ?_
  refine q_get (v := .ref a_s) fx inX5 h 0 rfl rfl 0 (by decide) k_636 rfl dX5_costOf_6 ?_
  refine lv_iconst (v := 0) hx hb dX5_costOf_9 (by decide) ?_
  refine q_ialdK fx h 1 rfl 0 (vinK (by decide)) (by decide) dX5_costOf_10 ?_
  refine lv_icmp_ge (tgt := 41) hx hb dX5_costOf_11 (by decide) (fun c3 => ?_) (fun c3 => ?_)
  · have hf := it_t c3 hf
    refine lv_iload_n hx hb dX5_costOf_41 rfl (lv_at hl 2 rfl) ?_
    exact q_reti (fun k : Unit => (wX5_costOf cI cJ cZ cS a_t a_s a_keptS a_statuses a_pile a_tape a_steps a_wish a_mark a_bitsOf a_sizeOf a_number a_moved v_isKept v_taped v_at v_fault v_laid v_open v_s)) fx hf h dX5_costOf_42
  have hf := it_f c3 hf
  refine lv_iload_n hx hb dX5_costOf_14 rfl (lv_at hl 2 rfl) ?_
  refine lv_iload_n hx hb dX5_costOf_15 rfl (lv_at hl 1 rfl) ?_
  refine lv_iload_n hx hb dX5_costOf_16 rfl (lv_at hl 3 rfl) ?_
  obtain ⟨r4, k4, hg, hf⟩ := bR_inv hf
  refine q_ci (rest := [.int y2]) (ws' := (wX5_costOf cI cJ cZ cS a_t a_s a_keptS a_statuses a_pile a_tape a_steps a_wish a_mark a_bitsOf a_sizeOf a_number a_moved v_isKept v_taped v_at v_fault v_laid v_open v_s)) (w1 := (wX5_has cI cJ cZ cS)) fx h [] rfl rfl rfl rfl (q_runS fx h hl.1 [] rfl rfl (tX5_has l D cI cJ cZ cS tb H.size y1 y3 r4 k4 hg) msX5_has k_733 ⟨rfl, rfl⟩ ⟨Nat.le_of_ble_eq_true rfl, Nat.le_of_ble_eq_true rfl⟩ rfl rfl (Nat.le_of_ble_eq_true rfl) dX5_costOf_17 ⟨Nat.le_of_ble_eq_true rfl, Nat.le_of_ble_eq_true rfl⟩) (fun H locs h => ?_)
  refine lv_if_eq (tgt := 32) hx hb dX5_costOf_20 (by decide) (fun c5 => ?_) (fun c5 => ?_)
  · have hf := it_t c5 hf
    refine lv_iconst (v := 0) hx hb dX5_costOf_32 (by decide) ?_
    exact LX5_costOf_33 fx hag4 h (lv_sub hl [0, 1, 3] rfl) hf
  have hf := it_f c5 hf
  refine lv_aload_n hx hb dX5_costOf_23 rfl (lv_at hl 0 rfl) ?_
  refine lv_iload_n hx hb dX5_costOf_24 rfl (lv_at hl 3 rfl) ?_
  refine lv_iconst (v := 1) hx hb dX5_costOf_25 (by decide) ?_
  obtain ⟨r6, k6, hg, hf⟩ := bR_inv hf
  refine q_ci (rest := [.int y2]) (ws' := (wX5_costOf cI cJ cZ cS a_t a_s a_keptS a_statuses a_pile a_tape a_steps a_wish a_mark a_bitsOf a_sizeOf a_number a_moved v_isKept v_taped v_at v_fault v_laid v_open v_s)) (w1 := (wX5_its cI cJ cZ cS a_t a_s a_keptS a_statuses a_pile a_tape a_steps a_wish a_mark a_bitsOf a_sizeOf a_number a_moved v_isKept v_taped v_at v_fault v_laid v_open v_s)) fx h [0, 1] rfl rfl rfl rfl (q_runV fx h hl.1 [0, 1] rfl rfl (tX5_its l D cI cJ cZ cS tb a_t a_s a_keptS a_statuses a_pile a_tape a_steps a_wish a_mark a_bitsOf a_sizeOf a_number a_moved H.size v_isKept v_taped v_at v_fault v_laid v_open v_s y3 1 r6 k6 hg) mvX5_its k_725 ⟨rfl, rfl⟩ ⟨Nat.le_of_ble_eq_true rfl, Nat.le_of_ble_eq_true rfl⟩ rfl rfl rfl rfl (Nat.le_of_ble_eq_true rfl) dX5_costOf_26 ⟨Nat.le_of_ble_eq_true rfl, Nat.le_of_ble_eq_true rfl⟩) (fun H locs h => ?_)
  refine lv_goto (tgt := 33) hx hb dX5_costOf_29 (by decide) ?_
  exact LX5_costOf_33 fx hag4 h (lv_sub hl [0, 1, 3] rfl) hf
set_option maxRecDepth 100000 in
theorem EX5_costOf_4 {p : Program} {l : Launch} {e : Env} {s : State} {m : MethodId} {args : Array Value} {below : List Frame} {meth : Method} {c : Code} {D : va_G} {cI cJ cZ cS : ClassId} {tb : Nat} {A : Nat → Prop} {a_t a_s a_keptS a_statuses a_pile a_tape a_steps a_wish a_mark a_bitsOf a_sizeOf a_number a_moved : Nat} {v_isKept : Int32} {v_taped : Int32} {v_at : Int32} {v_fault : Int32} {v_laid : Int32} {v_open : Int32} {v_s : Nat → Int32} {rr : Int32} {kk' : Unit} (fx : q_Fx p s m args meth c cX5_costOf 4 RX5 (some .int) D cI cJ cZ cS tb A) : ∀ (n : Nat), ∀ {y1 : Int32} {y2 : Int32} {y3 : Int32} {H : Heap} {locs : List Loc} {ls : Array Slot}, q_H D A s (wX5_costOf cI cJ cZ cS a_t a_s a_keptS a_statuses a_pile a_tape a_steps a_wish a_mark a_bitsOf a_sizeOf a_number a_moved v_isKept v_taped v_at v_fault v_laid v_open v_s) H locs → lv_has ls 4 [(0, .ref a_t), (1, .int y1), (2, .int y2), (3, .int y3)] → ll3 (fX5_costOf_4 v_s) n y1 y2 y3 = some (rr, kk') → W p l e rX5_costOf s m args below meth c H locs 0 0 (MQ below (q_Ri D rr A ((fun k : Unit => (wX5_costOf cI cJ cZ cS a_t a_s a_keptS a_statuses a_pile a_tape a_steps a_wish a_mark a_bitsOf a_sizeOf a_number a_moved v_isKept v_taped v_at v_fault v_laid v_open v_s)) kk')) args s 0 0 A) (F0 m 4 ls []) := by
  intro n
  induction n with
  | zero => intro y1 y2 y3 H locs ls h hl hf; exact (ll3_z hf).elim
  | succ n ih => intro y1 y2 y3 H locs ls h hl hf; exact LX5_costOf_4 fx ih h hl (ll3_s hf)
def fX5_costOf (v_s : Nat → Int32) (x1 : Int32) : Option (Int32 × Unit) :=
  ll3 (fX5_costOf_4 v_s) qF x1 0 0
set_option maxRecDepth 100000 in
set_option maxHeartbeats 4000000 in
theorem tX5_costOf (l : Launch) (D : va_G) (cI cJ cZ cS : ClassId) (tb : Nat) (a_t a_s a_keptS a_statuses a_pile a_tape a_steps a_wish a_mark a_bitsOf a_sizeOf a_number a_moved : Nat) (sz : Nat) (v_isKept : Int32) (v_taped : Int32) (v_at : Int32) (v_fault : Int32) (v_laid : Int32) (v_open : Int32) (v_s : Nat → Int32) (x1 : Int32) (rr : Int32) (kk' : Unit) (hf : fX5_costOf v_s x1 = some (rr, kk')) : Met l yX5_costOf (Cond.code yX5_costOf cX5_costOf 4 (some .int) :: wA) rX5_costOf (q_Pre D cI cJ cZ cS tb [.ref a_t, .int x1] sz (wX5_costOf cI cJ cZ cS a_t a_s a_keptS a_statuses a_pile a_tape a_steps a_wish a_mark a_bitsOf a_sizeOf a_number a_moved v_isKept v_taped v_at v_fault v_laid v_open v_s)) (q_Ri D rr (va_A (wX5_costOf cI cJ cZ cS a_t a_s a_keptS a_statuses a_pile a_tape a_steps a_wish a_mark a_bitsOf a_sizeOf a_number a_moved v_isKept v_taped v_at v_fault v_laid v_open v_s) sz) ((fun k : Unit => (wX5_costOf cI cJ cZ cS a_t a_s a_keptS a_statuses a_pile a_tape a_steps a_wish a_mark a_bitsOf a_sizeOf a_number a_moved v_isKept v_taped v_at v_fault v_laid v_open v_s)) kk')) 0 0 (va_A (wX5_costOf cI cJ cZ cS a_t a_s a_keptS a_statuses a_pile a_tape a_steps a_wish a_mark a_bitsOf a_sizeOf a_number a_moved v_isKept v_taped v_at v_fault v_laid v_open v_s) sz) := by
  refine q_enter (Qf := fun A => (q_Ri D rr A ((fun k : Unit => (wX5_costOf cI cJ cZ cS a_t a_s a_keptS a_statuses a_pile a_tape a_steps a_wish a_mark a_bitsOf a_sizeOf a_number a_moved v_isKept v_taped v_at v_fault v_laid v_open v_s)) kk'))) (by decide) rfl (Nat.le_of_ble_eq_true rfl) ?_
  intro p e s m below meth c A ls fx hname h hl
  have hx := fx.1
  have hb := fx.2.1
  have hl : lv_has ls 4 [(0, .ref a_t), (1, .int x1)] := hl
  generalize h9 : s.heap = H at h ⊢
  clear h9
  generalize h9 : ([] : List Loc) = locs at h ⊢
  clear h9
  unfold fX5_costOf at hf
  refine lv_iconst (v := 0) hx hb dX5_costOf_0 (by decide) ?_
  refine lv_istore_n (lv' := [(2, .int 0), (0, .ref a_t), (1, .int x1)]) hx hb dX5_costOf_1 rfl hl (by decide) rfl (fun ls hl => ?_)
  refine lv_iconst (v := 0) hx hb dX5_costOf_2 (by decide) ?_
  refine lv_istore_n (lv' := [(3, .int 0), (2, .int 0), (0, .ref a_t), (1, .int x1)]) hx hb dX5_costOf_3 rfl hl (by decide) rfl (fun ls hl => ?_)
  exact EX5_costOf_4 fx qF h (lv_sub hl [2, 3, 1, 0] rfl) hf
/-! X5_now -/
abbrev wX5_now (cI cJ cZ cS : ClassId) (a_t a_s a_keptS a_statuses a_pile a_tape a_steps a_wish a_mark a_bitsOf a_sizeOf a_number a_moved : Nat) (v_isKept : Int32) (v_taped : Int32) (v_at : Int32) (v_fault : Int32) (v_laid : Int32) (v_open : Int32) (v_s : Nat → Int32) (v_statuses : Nat → Int32) (v_pile : Nat → Int32) : va_W := [(a_t, .inr (5, [.ref a_s, .ref a_keptS, .ref a_statuses, .int v_isKept, .ref a_pile, .ref a_tape, .ref a_steps, .int v_taped, .int v_at, .int v_fault, .int v_laid, .int v_open, .ref a_wish, .ref a_mark, .ref a_bitsOf, .ref a_sizeOf, .ref a_number, .ref a_moved])), (a_s, .inl (cI, 538, .inl v_s)), (a_statuses, .inl (cI, 7, .inl v_statuses)), (a_pile, .inl (cZ, 64, .inl v_pile))]
abbrev rX5_now : Room := { frames := 5, cells := 0, slots := 0, locals := 116 }
def fX5_now (v_s : Nat → Int32) (v_statuses : Nat → Int32) (v_pile : Nat → Int32) (x1 : Int32) : Option (Int32 × (Nat → Int32) × (Nat → Int32)) :=
  (if (x1).toInt < 0 ∨ 4 < (x1).toInt then (
  bR (fX5_finds v_statuses (-1000000001)) (fun r2 k2 =>
  some (r2, (k2, v_pile))))
  else (if x1 = 0 then (
  some (v_s 1, (v_statuses, v_pile)))
  else (if x1 = 1 then (
  bR (fX5_ones (v_s 1)) (fun r5 k5 =>
  some (r5, (v_statuses, v_pile))))
  else (if x1 = 2 then (
  bR (fX5_would v_s v_pile (v_s 1)) (fun r7 k7 =>
  some (r7, (v_statuses, k7))))
  else (if x1 = 3 then (
  bR (fX5_would v_s v_pile (v_s 1)) (fun r9 k9 =>
  (if r9 = (v_s 1) then (
  some (1, (v_statuses, k9)))
  else (
  some (0, (v_statuses, k9))))))
  else (if x1 = 4 then (
  bR (fX5_costOf v_s (v_s 1)) (fun r12 k12 =>
  some (r12, (v_statuses, v_pile))))
  else none))))))
set_option maxRecDepth 100000 in
set_option maxHeartbeats 4000000 in
theorem tX5_now (l : Launch) (D : va_G) (cI cJ cZ cS : ClassId) (tb : Nat) (a_t a_s a_keptS a_statuses a_pile a_tape a_steps a_wish a_mark a_bitsOf a_sizeOf a_number a_moved : Nat) (sz : Nat) (v_isKept : Int32) (v_taped : Int32) (v_at : Int32) (v_fault : Int32) (v_laid : Int32) (v_open : Int32) (v_s : Nat → Int32) (v_statuses : Nat → Int32) (v_pile : Nat → Int32) (x1 : Int32) (rr : Int32) (kk' : (Nat → Int32) × (Nat → Int32)) (hf : fX5_now v_s v_statuses v_pile x1 = some (rr, kk')) : Met l yX5_now (Cond.code yX5_now cX5_now 2 (some .int) :: wA) rX5_now (q_Pre D cI cJ cZ cS tb [.ref a_t, .int x1] sz (wX5_now cI cJ cZ cS a_t a_s a_keptS a_statuses a_pile a_tape a_steps a_wish a_mark a_bitsOf a_sizeOf a_number a_moved v_isKept v_taped v_at v_fault v_laid v_open v_s v_statuses v_pile)) (q_Ri D rr (va_A (wX5_now cI cJ cZ cS a_t a_s a_keptS a_statuses a_pile a_tape a_steps a_wish a_mark a_bitsOf a_sizeOf a_number a_moved v_isKept v_taped v_at v_fault v_laid v_open v_s v_statuses v_pile) sz) ((fun k : (Nat → Int32) × (Nat → Int32) => (wX5_now cI cJ cZ cS a_t a_s a_keptS a_statuses a_pile a_tape a_steps a_wish a_mark a_bitsOf a_sizeOf a_number a_moved v_isKept v_taped v_at v_fault v_laid v_open v_s k.1 k.2)) kk')) 0 0 (va_A (wX5_now cI cJ cZ cS a_t a_s a_keptS a_statuses a_pile a_tape a_steps a_wish a_mark a_bitsOf a_sizeOf a_number a_moved v_isKept v_taped v_at v_fault v_laid v_open v_s v_statuses v_pile) sz) := by
  refine q_enter (Qf := fun A => (q_Ri D rr A ((fun k : (Nat → Int32) × (Nat → Int32) => (wX5_now cI cJ cZ cS a_t a_s a_keptS a_statuses a_pile a_tape a_steps a_wish a_mark a_bitsOf a_sizeOf a_number a_moved v_isKept v_taped v_at v_fault v_laid v_open v_s k.1 k.2)) kk'))) (by decide) rfl (Nat.le_of_ble_eq_true rfl) ?_
  intro p e s m below meth c A ls fx hname h hl
  have hx := fx.1
  have hb := fx.2.1
  have hl : lv_has ls 2 [(0, .ref a_t), (1, .int x1)] := hl
  generalize h9 : s.heap = H at h ⊢
  clear h9
  generalize h9 : ([] : List Loc) = locs at h ⊢
  clear h9
  unfold fX5_now at hf
  refine lv_iload_n hx hb dX5_now_0 rfl (lv_at hl 1 rfl) ?_
  rcases it_or hf with ⟨c1, hf⟩ | ⟨c1, hf⟩
  · refine lv_tableOut (tgt := 100) hx hb dX5_now_1 c1 (by decide) ?_
    refine lv_aload_n hx hb dX5_now_100 rfl (lv_at hl 0 rfl) ?_
    refine q_ldc fx k_701 dX5_now_101 ?_
    obtain ⟨r2, k2, hg, hf⟩ := bR_inv hf
    refine q_ci (rest := []) (ws' := (wX5_now cI cJ cZ cS a_t a_s a_keptS a_statuses a_pile a_tape a_steps a_wish a_mark a_bitsOf a_sizeOf a_number a_moved v_isKept v_taped v_at v_fault v_laid v_open v_s k2 v_pile)) (w1 := (wX5_finds cI cJ cZ cS a_t a_s a_keptS a_statuses a_pile a_tape a_steps a_wish a_mark a_bitsOf a_sizeOf a_number a_moved v_isKept v_taped v_at v_fault v_laid v_open k2)) fx h [0, 2] rfl rfl rfl rfl (q_runV fx h hl.1 [0, 2] rfl rfl (tX5_finds l D cI cJ cZ cS tb a_t a_s a_keptS a_statuses a_pile a_tape a_steps a_wish a_mark a_bitsOf a_sizeOf a_number a_moved H.size v_isKept v_taped v_at v_fault v_laid v_open v_statuses (-1000000001) r2 k2 hg) mvX5_finds k_702 ⟨rfl, rfl⟩ ⟨Nat.le_of_ble_eq_true rfl, Nat.le_of_ble_eq_true rfl⟩ rfl rfl rfl rfl (Nat.le_of_ble_eq_true rfl) dX5_now_103 ⟨Nat.le_of_ble_eq_true rfl, Nat.le_of_ble_eq_true rfl⟩) (fun H locs h => ?_)
    exact q_reti (fun k : (Nat → Int32) × (Nat → Int32) => (wX5_now cI cJ cZ cS a_t a_s a_keptS a_statuses a_pile a_tape a_steps a_wish a_mark a_bitsOf a_sizeOf a_number a_moved v_isKept v_taped v_at v_fault v_laid v_open v_s k.1 k.2)) fx hf h dX5_now_106
  have c1 := not_or.mp c1
  rcases it_or hf with ⟨c3, hf⟩ | ⟨c3, hf⟩
  · refine lv_tableIn (off := 35) (tgt := 36) hx hb dX5_now_1 c1.1 c1.2 (by rw [c3]; rfl) (by decide) ?_
    refine lv_aload_n hx hb dX5_now_36 rfl (lv_at hl 0 rfl) ?_
    refine q_get (v := .ref a_s) fx inX5 h 0 rfl rfl 0 (by decide) k_636 rfl dX5_now_37 ?_
    refine lv_iconst (v := 1) hx hb dX5_now_40 (by decide) ?_
    refine q_ialdK fx h 1 rfl 1 (vinK (by decide)) (by decide) dX5_now_41 ?_
    exact q_reti (fun k : (Nat → Int32) × (Nat → Int32) => (wX5_now cI cJ cZ cS a_t a_s a_keptS a_statuses a_pile a_tape a_steps a_wish a_mark a_bitsOf a_sizeOf a_number a_moved v_isKept v_taped v_at v_fault v_laid v_open v_s k.1 k.2)) fx hf h dX5_now_42
  rcases it_or hf with ⟨c4, hf⟩ | ⟨c4, hf⟩
  · refine lv_tableIn (off := 42) (tgt := 43) hx hb dX5_now_1 c1.1 c1.2 (by rw [c4]; rfl) (by decide) ?_
    refine lv_aload_n hx hb dX5_now_43 rfl (lv_at hl 0 rfl) ?_
    refine q_get (v := .ref a_s) fx inX5 h 0 rfl rfl 0 (by decide) k_636 rfl dX5_now_44 ?_
    refine lv_iconst (v := 1) hx hb dX5_now_47 (by decide) ?_
    refine q_ialdK fx h 1 rfl 1 (vinK (by decide)) (by decide) dX5_now_48 ?_
    obtain ⟨r5, k5, hg, hf⟩ := bR_inv hf
    refine q_ci (rest := []) (ws' := (wX5_now cI cJ cZ cS a_t a_s a_keptS a_statuses a_pile a_tape a_steps a_wish a_mark a_bitsOf a_sizeOf a_number a_moved v_isKept v_taped v_at v_fault v_laid v_open v_s v_statuses v_pile)) (w1 := (wX5_ones cI cJ cZ cS)) fx h [] rfl rfl rfl rfl (q_runS fx h hl.1 [] rfl rfl (tX5_ones l D cI cJ cZ cS tb H.size (v_s 1) r5 k5 hg) msX5_ones k_722 ⟨rfl, rfl⟩ ⟨Nat.le_of_ble_eq_true rfl, Nat.le_of_ble_eq_true rfl⟩ rfl rfl (Nat.le_of_ble_eq_true rfl) dX5_now_49 ⟨Nat.le_of_ble_eq_true rfl, Nat.le_of_ble_eq_true rfl⟩) (fun H locs h => ?_)
    exact q_reti (fun k : (Nat → Int32) × (Nat → Int32) => (wX5_now cI cJ cZ cS a_t a_s a_keptS a_statuses a_pile a_tape a_steps a_wish a_mark a_bitsOf a_sizeOf a_number a_moved v_isKept v_taped v_at v_fault v_laid v_open v_s k.1 k.2)) fx hf h dX5_now_52
  rcases it_or hf with ⟨c6, hf⟩ | ⟨c6, hf⟩
  · refine lv_tableIn (off := 52) (tgt := 53) hx hb dX5_now_1 c1.1 c1.2 (by rw [c6]; rfl) (by decide) ?_
    refine lv_aload_n hx hb dX5_now_53 rfl (lv_at hl 0 rfl) ?_
    refine lv_aload_n hx hb dX5_now_54 rfl (lv_at hl 0 rfl) ?_
    refine q_get (v := .ref a_s) fx inX5 h 0 rfl rfl 0 (by decide) k_636 rfl dX5_now_55 ?_
    refine lv_iconst (v := 1) hx hb dX5_now_58 (by decide) ?_
    refine q_ialdK fx h 1 rfl 1 (vinK (by decide)) (by decide) dX5_now_59 ?_
    obtain ⟨r7, k7, hg, hf⟩ := bR_inv hf
    refine q_ci (rest := []) (ws' := (wX5_now cI cJ cZ cS a_t a_s a_keptS a_statuses a_pile a_tape a_steps a_wish a_mark a_bitsOf a_sizeOf a_number a_moved v_isKept v_taped v_at v_fault v_laid v_open v_s v_statuses k7)) (w1 := (wX5_would cI cJ cZ cS a_t a_s a_keptS a_statuses a_pile a_tape a_steps a_wish a_mark a_bitsOf a_sizeOf a_number a_moved v_isKept v_taped v_at v_fault v_laid v_open v_s k7)) fx h [0, 1, 3] rfl rfl rfl rfl (q_runV fx h hl.1 [0, 1, 3] rfl rfl (tX5_would l D cI cJ cZ cS tb a_t a_s a_keptS a_statuses a_pile a_tape a_steps a_wish a_mark a_bitsOf a_sizeOf a_number a_moved H.size v_isKept v_taped v_at v_fault v_laid v_open v_s v_pile (v_s 1) r7 k7 hg) mvX5_would k_818 ⟨rfl, rfl⟩ ⟨Nat.le_of_ble_eq_true rfl, Nat.le_of_ble_eq_true rfl⟩ rfl rfl rfl rfl (Nat.le_of_ble_eq_true rfl) dX5_now_60 ⟨Nat.le_of_ble_eq_true rfl, Nat.le_of_ble_eq_true rfl⟩) (fun H locs h => ?_)
    exact q_reti (fun k : (Nat → Int32) × (Nat → Int32) => (wX5_now cI cJ cZ cS a_t a_s a_keptS a_statuses a_pile a_tape a_steps a_wish a_mark a_bitsOf a_sizeOf a_number a_moved v_isKept v_taped v_at v_fault v_laid v_open v_s k.1 k.2)) fx hf h dX5_now_63
  rcases it_or hf with ⟨c8, hf⟩ | ⟨c8, hf⟩
  · refine lv_tableIn (off := 63) (tgt := 64) hx hb dX5_now_1 c1.1 c1.2 (by rw [c8]; rfl) (by decide) ?_
    refine lv_aload_n hx hb dX5_now_64 rfl (lv_at hl 0 rfl) ?_
    refine lv_aload_n hx hb dX5_now_65 rfl (lv_at hl 0 rfl) ?_
    refine q_get (v := .ref a_s) fx inX5 h 0 rfl rfl 0 (by decide) k_636 rfl dX5_now_66 ?_
    refine lv_iconst (v := 1) hx hb dX5_now_69 (by decide) ?_
    refine q_ialdK fx h 1 rfl 1 (vinK (by decide)) (by decide) dX5_now_70 ?_
    obtain ⟨r9, k9, hg, hf⟩ := bR_inv hf
    refine q_ci (rest := []) (ws' := (wX5_now cI cJ cZ cS a_t a_s a_keptS a_statuses a_pile a_tape a_steps a_wish a_mark a_bitsOf a_sizeOf a_number a_moved v_isKept v_taped v_at v_fault v_laid v_open v_s v_statuses k9)) (w1 := (wX5_would cI cJ cZ cS a_t a_s a_keptS a_statuses a_pile a_tape a_steps a_wish a_mark a_bitsOf a_sizeOf a_number a_moved v_isKept v_taped v_at v_fault v_laid v_open v_s k9)) fx h [0, 1, 3] rfl rfl rfl rfl (q_runV fx h hl.1 [0, 1, 3] rfl rfl (tX5_would l D cI cJ cZ cS tb a_t a_s a_keptS a_statuses a_pile a_tape a_steps a_wish a_mark a_bitsOf a_sizeOf a_number a_moved H.size v_isKept v_taped v_at v_fault v_laid v_open v_s v_pile (v_s 1) r9 k9 hg) mvX5_would k_818 ⟨rfl, rfl⟩ ⟨Nat.le_of_ble_eq_true rfl, Nat.le_of_ble_eq_true rfl⟩ rfl rfl rfl rfl (Nat.le_of_ble_eq_true rfl) dX5_now_71 ⟨Nat.le_of_ble_eq_true rfl, Nat.le_of_ble_eq_true rfl⟩) (fun H locs h => ?_)
    refine lv_aload_n hx hb dX5_now_74 rfl (lv_at hl 0 rfl) ?_
    refine q_get (v := .ref a_s) fx inX5 h 0 rfl rfl 0 (by decide) k_636 rfl dX5_now_75 ?_
    refine lv_iconst (v := 1) hx hb dX5_now_78 (by decide) ?_
    refine q_ialdK fx h 1 rfl 1 (vinK (by decide)) (by decide) dX5_now_79 ?_
    refine lv_icmp_ne (tgt := 87) hx hb dX5_now_80 (by decide) (fun c10 => ?_) (fun c10 => ?_)
    · have hf := it_f c10 hf
      refine lv_iconst (v := 0) hx hb dX5_now_87 (by decide) ?_
      exact q_reti (fun k : (Nat → Int32) × (Nat → Int32) => (wX5_now cI cJ cZ cS a_t a_s a_keptS a_statuses a_pile a_tape a_steps a_wish a_mark a_bitsOf a_sizeOf a_number a_moved v_isKept v_taped v_at v_fault v_laid v_open v_s k.1 k.2)) fx hf h dX5_now_88
    have hf := it_t c10 hf
    refine lv_iconst (v := 1) hx hb dX5_now_83 (by decide) ?_
    refine lv_goto (tgt := 88) hx hb dX5_now_84 (by decide) ?_
    exact q_reti (fun k : (Nat → Int32) × (Nat → Int32) => (wX5_now cI cJ cZ cS a_t a_s a_keptS a_statuses a_pile a_tape a_steps a_wish a_mark a_bitsOf a_sizeOf a_number a_moved v_isKept v_taped v_at v_fault v_laid v_open v_s k.1 k.2)) fx hf h dX5_now_88
  rcases it_or hf with ⟨c11, hf⟩ | ⟨c11, hf⟩
  · refine lv_tableIn (off := 88) (tgt := 89) hx hb dX5_now_1 c1.1 c1.2 (by rw [c11]; rfl) (by decide) ?_
    refine lv_aload_n hx hb dX5_now_89 rfl (lv_at hl 0 rfl) ?_
    refine lv_aload_n hx hb dX5_now_90 rfl (lv_at hl 0 rfl) ?_
    refine q_get (v := .ref a_s) fx inX5 h 0 rfl rfl 0 (by decide) k_636 rfl dX5_now_91 ?_
    refine lv_iconst (v := 1) hx hb dX5_now_94 (by decide) ?_
    refine q_ialdK fx h 1 rfl 1 (vinK (by decide)) (by decide) dX5_now_95 ?_
    obtain ⟨r12, k12, hg, hf⟩ := bR_inv hf
    refine q_ci (rest := []) (ws' := (wX5_now cI cJ cZ cS a_t a_s a_keptS a_statuses a_pile a_tape a_steps a_wish a_mark a_bitsOf a_sizeOf a_number a_moved v_isKept v_taped v_at v_fault v_laid v_open v_s v_statuses v_pile)) (w1 := (wX5_costOf cI cJ cZ cS a_t a_s a_keptS a_statuses a_pile a_tape a_steps a_wish a_mark a_bitsOf a_sizeOf a_number a_moved v_isKept v_taped v_at v_fault v_laid v_open v_s)) fx h [0, 1] rfl rfl rfl rfl (q_runV fx h hl.1 [0, 1] rfl rfl (tX5_costOf l D cI cJ cZ cS tb a_t a_s a_keptS a_statuses a_pile a_tape a_steps a_wish a_mark a_bitsOf a_sizeOf a_number a_moved H.size v_isKept v_taped v_at v_fault v_laid v_open v_s (v_s 1) r12 k12 hg) mvX5_costOf k_822 ⟨rfl, rfl⟩ ⟨Nat.le_of_ble_eq_true rfl, Nat.le_of_ble_eq_true rfl⟩ rfl rfl rfl rfl (Nat.le_of_ble_eq_true rfl) dX5_now_96 ⟨Nat.le_of_ble_eq_true rfl, Nat.le_of_ble_eq_true rfl⟩) (fun H locs h => ?_)
    exact q_reti (fun k : (Nat → Int32) × (Nat → Int32) => (wX5_now cI cJ cZ cS a_t a_s a_keptS a_statuses a_pile a_tape a_steps a_wish a_mark a_bitsOf a_sizeOf a_number a_moved v_isKept v_taped v_at v_fault v_laid v_open v_s k.1 k.2)) fx hf h dX5_now_99
  cases hf
/-! X5_called -/
abbrev wX5_called (cI cJ cZ cS : ClassId) (a_t a_s a_keptS a_statuses a_pile a_tape a_steps a_wish a_mark a_bitsOf a_sizeOf a_number a_moved : Nat) (v_isKept : Int32) (v_taped : Int32) (v_at : Int32) (v_fault : Int32) (v_laid : Int32) (v_open : Int32) (v_s : Nat → Int32) (v_pile : Nat → Int32) : va_W := [(a_t, .inr (5, [.ref a_s, .ref a_keptS, .ref a_statuses, .int v_isKept, .ref a_pile, .ref a_tape, .ref a_steps, .int v_taped, .int v_at, .int v_fault, .int v_laid, .int v_open, .ref a_wish, .ref a_mark, .ref a_bitsOf, .ref a_sizeOf, .ref a_number, .ref a_moved])), (a_s, .inl (cI, 538, .inl v_s)), (a_pile, .inl (cZ, 64, .inl v_pile))]
abbrev rX5_called : Room := { frames := 4, cells := 0, slots := 0, locals := 93 }
def fX5_called_23 (v_s : Nat → Int32) (v_pile : Nat → Int32) (s0 : Int32) (s1 : Int32) : Option (Int32 × (Nat → Int32)) :=
  some (s0 ||| s1, v_pile)
set_option maxRecDepth 100000 in
set_option maxHeartbeats 4000000 in
theorem LX5_called_23 {p : Program} {l : Launch} {e : Env} {s : State} {m : MethodId} {args : Array Value} {below : List Frame} {meth : Method} {c : Code} {D : va_G} {cI cJ cZ cS : ClassId} {tb : Nat} {A : Nat → Prop} {a_t a_s a_keptS a_statuses a_pile a_tape a_steps a_wish a_mark a_bitsOf a_sizeOf a_number a_moved : Nat} {v_isKept : Int32} {v_taped : Int32} {v_at : Int32} {v_fault : Int32} {v_laid : Int32} {v_open : Int32} {v_s : Nat → Int32} {rr : Int32} {kk' : (Nat → Int32)} (fx : q_Fx p s m args meth c cX5_called 3 RX5 (some .int) D cI cJ cZ cS tb A) : ∀ {v_pile : Nat → Int32} {s0 : Int32} {s1 : Int32} {H : Heap} {locs : List Loc} {ls : Array Slot}, q_H D A s (wX5_called cI cJ cZ cS a_t a_s a_keptS a_statuses a_pile a_tape a_steps a_wish a_mark a_bitsOf a_sizeOf a_number a_moved v_isKept v_taped v_at v_fault v_laid v_open v_s v_pile) H locs → lv_has ls 3 [] → fX5_called_23 v_s v_pile s0 s1 = some (rr, kk') → W p l e rX5_called s m args below meth c H locs 0 0 (MQ below (q_Ri D rr A ((fun k : (Nat → Int32) => (wX5_called cI cJ cZ cS a_t a_s a_keptS a_statuses a_pile a_tape a_steps a_wish a_mark a_bitsOf a_sizeOf a_number a_moved v_isKept v_taped v_at v_fault v_laid v_open v_s k)) kk')) args s 0 0 A) (F0 m 23 ls [.int s1, .int s0]) := by
  intro v_pile s0 s1 H locs ls h hl hf
  have hx := fx.1
  have hb := fx.2.1
  unfold fX5_called_23 at hf
  refine lv_ior hx hb dX5_called_23 ?_
  exact q_reti (fun k : (Nat → Int32) => (wX5_called cI cJ cZ cS a_t a_s a_keptS a_statuses a_pile a_tape a_steps a_wish a_mark a_bitsOf a_sizeOf a_number a_moved v_isKept v_taped v_at v_fault v_laid v_open v_s k)) fx hf h dX5_called_24
def fX5_called (v_s : Nat → Int32) (v_pile : Nat → Int32) (x1 : Int32) (x2 : Int32) : Option (Int32 × (Nat → Int32)) :=
  bR (fX5_comesBy v_s v_pile x2 x1) (fun r1 k1 =>
  (if r1 = 0 then (
  fX5_called_23 v_s k1 (x1 &&& ((jshl 1 x2) ^^^ (-1))) 0)
  else (
  fX5_called_23 v_s k1 (x1 &&& ((jshl 1 x2) ^^^ (-1))) (jshl 1 x2))))
set_option maxRecDepth 100000 in
set_option maxHeartbeats 4000000 in
theorem tX5_called (l : Launch) (D : va_G) (cI cJ cZ cS : ClassId) (tb : Nat) (a_t a_s a_keptS a_statuses a_pile a_tape a_steps a_wish a_mark a_bitsOf a_sizeOf a_number a_moved : Nat) (sz : Nat) (v_isKept : Int32) (v_taped : Int32) (v_at : Int32) (v_fault : Int32) (v_laid : Int32) (v_open : Int32) (v_s : Nat → Int32) (v_pile : Nat → Int32) (x1 : Int32) (x2 : Int32) (rr : Int32) (kk' : (Nat → Int32)) (hf : fX5_called v_s v_pile x1 x2 = some (rr, kk')) : Met l yX5_called (Cond.code yX5_called cX5_called 3 (some .int) :: wA) rX5_called (q_Pre D cI cJ cZ cS tb [.ref a_t, .int x1, .int x2] sz (wX5_called cI cJ cZ cS a_t a_s a_keptS a_statuses a_pile a_tape a_steps a_wish a_mark a_bitsOf a_sizeOf a_number a_moved v_isKept v_taped v_at v_fault v_laid v_open v_s v_pile)) (q_Ri D rr (va_A (wX5_called cI cJ cZ cS a_t a_s a_keptS a_statuses a_pile a_tape a_steps a_wish a_mark a_bitsOf a_sizeOf a_number a_moved v_isKept v_taped v_at v_fault v_laid v_open v_s v_pile) sz) ((fun k : (Nat → Int32) => (wX5_called cI cJ cZ cS a_t a_s a_keptS a_statuses a_pile a_tape a_steps a_wish a_mark a_bitsOf a_sizeOf a_number a_moved v_isKept v_taped v_at v_fault v_laid v_open v_s k)) kk')) 0 0 (va_A (wX5_called cI cJ cZ cS a_t a_s a_keptS a_statuses a_pile a_tape a_steps a_wish a_mark a_bitsOf a_sizeOf a_number a_moved v_isKept v_taped v_at v_fault v_laid v_open v_s v_pile) sz) := by
  refine q_enter (Qf := fun A => (q_Ri D rr A ((fun k : (Nat → Int32) => (wX5_called cI cJ cZ cS a_t a_s a_keptS a_statuses a_pile a_tape a_steps a_wish a_mark a_bitsOf a_sizeOf a_number a_moved v_isKept v_taped v_at v_fault v_laid v_open v_s k)) kk'))) (by decide) rfl (Nat.le_of_ble_eq_true rfl) ?_
  intro p e s m below meth c A ls fx hname h hl
  have hx := fx.1
  have hb := fx.2.1
  have hl : lv_has ls 3 [(0, .ref a_t), (1, .int x1), (2, .int x2)] := hl
  generalize h9 : s.heap = H at h ⊢
  clear h9
  generalize h9 : ([] : List Loc) = locs at h ⊢
  clear h9
  unfold fX5_called at hf
  refine lv_iload_n hx hb dX5_called_0 rfl (lv_at hl 1 rfl) ?_
  refine lv_iconst (v := 1) hx hb dX5_called_1 (by decide) ?_
  refine lv_iload_n hx hb dX5_called_2 rfl (lv_at hl 2 rfl) ?_
  refine lv_ishl hx hb dX5_called_3 ?_
  refine lv_iconst (v := -1) hx hb dX5_called_4 (by decide) ?_
  refine lv_ixor hx hb dX5_called_5 ?_
  refine lv_iand hx hb dX5_called_6 ?_
  refine lv_aload_n hx hb dX5_called_7 rfl (lv_at hl 0 rfl) ?_
  refine lv_iload_n hx hb dX5_called_8 rfl (lv_at hl 2 rfl) ?_
  refine lv_iload_n hx hb dX5_called_9 rfl (lv_at hl 1 rfl) ?_
  obtain ⟨r1, k1, hg, hf⟩ := bR_inv hf
  refine q_ci (rest := [.int (x1 &&& ((jshl 1 x2) ^^^ (-1)))]) (ws' := (wX5_called cI cJ cZ cS a_t a_s a_keptS a_statuses a_pile a_tape a_steps a_wish a_mark a_bitsOf a_sizeOf a_number a_moved v_isKept v_taped v_at v_fault v_laid v_open v_s k1)) (w1 := (wX5_comesBy cI cJ cZ cS a_t a_s a_keptS a_statuses a_pile a_tape a_steps a_wish a_mark a_bitsOf a_sizeOf a_number a_moved v_isKept v_taped v_at v_fault v_laid v_open v_s k1)) fx h [0, 1, 2] rfl rfl rfl rfl (q_runV fx h hl.1 [0, 1, 2] rfl rfl (tX5_comesBy l D cI cJ cZ cS tb a_t a_s a_keptS a_statuses a_pile a_tape a_steps a_wish a_mark a_bitsOf a_sizeOf a_number a_moved H.size v_isKept v_taped v_at v_fault v_laid v_open v_s v_pile x2 x1 r1 k1 hg) mvX5_comesBy k_715 ⟨rfl, rfl⟩ ⟨Nat.le_of_ble_eq_true rfl, Nat.le_of_ble_eq_true rfl⟩ rfl rfl rfl rfl (Nat.le_of_ble_eq_true rfl) dX5_called_10 ⟨Nat.le_of_ble_eq_true rfl, Nat.le_of_ble_eq_true rfl⟩) (fun H locs h => ?_)
  refine lv_if_eq (tgt := 22) hx hb dX5_called_13 (by decide) (fun c2 => ?_) (fun c2 => ?_)
  · have hf := it_t c2 hf
    refine lv_iconst (v := 0) hx hb dX5_called_22 (by decide) ?_
    exact LX5_called_23 fx h (lv_sub hl [] rfl) hf
  have hf := it_f c2 hf
  refine lv_iconst (v := 1) hx hb dX5_called_16 (by decide) ?_
  refine lv_iload_n hx hb dX5_called_17 rfl (lv_at hl 2 rfl) ?_
  refine lv_ishl hx hb dX5_called_18 ?_
  refine lv_goto (tgt := 23) hx hb dX5_called_19 (by decide) ?_
  exact LX5_called_23 fx h (lv_sub hl [] rfl) hf
/-! X5_calling -/
abbrev wX5_calling (cI cJ cZ cS : ClassId) (a_t a_s a_keptS a_statuses a_pile a_tape a_steps a_wish a_mark a_bitsOf a_sizeOf a_number a_moved : Nat) (v_isKept : Int32) (v_taped : Int32) (v_at : Int32) (v_fault : Int32) (v_laid : Int32) (v_open : Int32) (v_s : Nat → Int32) (v_pile : Nat → Int32) : va_W := [(a_t, .inr (5, [.ref a_s, .ref a_keptS, .ref a_statuses, .int v_isKept, .ref a_pile, .ref a_tape, .ref a_steps, .int v_taped, .int v_at, .int v_fault, .int v_laid, .int v_open, .ref a_wish, .ref a_mark, .ref a_bitsOf, .ref a_sizeOf, .ref a_number, .ref a_moved])), (a_s, .inl (cI, 538, .inl v_s)), (a_pile, .inl (cZ, 64, .inl v_pile))]
abbrev rX5_calling : Room := { frames := 5, cells := 0, slots := 0, locals := 115 }
def fX5_calling (v_s : Nat → Int32) (v_pile : Nat → Int32) (x1 : Int32) : Option (Int32 × (Nat → Int32) × (Nat → Int32)) :=
  nm (v_s 1) (fun u1 =>
  bR (fX5_called v_s v_pile u1 x1) (fun r2 k2 =>
  (if ((upd v_s 1 r2) 1) = u1 then (
  some (0, ((upd v_s 1 r2), k2)))
  else (
  some (1, ((upd v_s 1 r2), k2))))))
set_option maxRecDepth 100000 in
set_option maxHeartbeats 4000000 in
theorem tX5_calling (l : Launch) (D : va_G) (cI cJ cZ cS : ClassId) (tb : Nat) (a_t a_s a_keptS a_statuses a_pile a_tape a_steps a_wish a_mark a_bitsOf a_sizeOf a_number a_moved : Nat) (sz : Nat) (v_isKept : Int32) (v_taped : Int32) (v_at : Int32) (v_fault : Int32) (v_laid : Int32) (v_open : Int32) (v_s : Nat → Int32) (v_pile : Nat → Int32) (x1 : Int32) (rr : Int32) (kk' : (Nat → Int32) × (Nat → Int32)) (hf : fX5_calling v_s v_pile x1 = some (rr, kk')) : Met l yX5_calling (Cond.code yX5_calling cX5_calling 3 (some .int) :: wA) rX5_calling (q_Pre D cI cJ cZ cS tb [.ref a_t, .int x1] sz (wX5_calling cI cJ cZ cS a_t a_s a_keptS a_statuses a_pile a_tape a_steps a_wish a_mark a_bitsOf a_sizeOf a_number a_moved v_isKept v_taped v_at v_fault v_laid v_open v_s v_pile)) (q_Ri D rr (va_A (wX5_calling cI cJ cZ cS a_t a_s a_keptS a_statuses a_pile a_tape a_steps a_wish a_mark a_bitsOf a_sizeOf a_number a_moved v_isKept v_taped v_at v_fault v_laid v_open v_s v_pile) sz) ((fun k : (Nat → Int32) × (Nat → Int32) => (wX5_calling cI cJ cZ cS a_t a_s a_keptS a_statuses a_pile a_tape a_steps a_wish a_mark a_bitsOf a_sizeOf a_number a_moved v_isKept v_taped v_at v_fault v_laid v_open k.1 k.2)) kk')) 0 0 (va_A (wX5_calling cI cJ cZ cS a_t a_s a_keptS a_statuses a_pile a_tape a_steps a_wish a_mark a_bitsOf a_sizeOf a_number a_moved v_isKept v_taped v_at v_fault v_laid v_open v_s v_pile) sz) := by
  refine q_enter (Qf := fun A => (q_Ri D rr A ((fun k : (Nat → Int32) × (Nat → Int32) => (wX5_calling cI cJ cZ cS a_t a_s a_keptS a_statuses a_pile a_tape a_steps a_wish a_mark a_bitsOf a_sizeOf a_number a_moved v_isKept v_taped v_at v_fault v_laid v_open k.1 k.2)) kk'))) (by decide) rfl (Nat.le_of_ble_eq_true rfl) ?_
  intro p e s m below meth c A ls fx hname h hl
  have hx := fx.1
  have hb := fx.2.1
  have hl : lv_has ls 3 [(0, .ref a_t), (1, .int x1)] := hl
  generalize h9 : s.heap = H at h ⊢
  clear h9
  generalize h9 : ([] : List Loc) = locs at h ⊢
  clear h9
  unfold fX5_calling at hf
  refine lv_aload_n hx hb dX5_calling_0 rfl (lv_at hl 0 rfl) ?_
  refine q_get (v := .ref a_s) fx inX5 h 0 rfl rfl 0 (by decide) k_636 rfl dX5_calling_1 ?_
  refine lv_iconst (v := 1) hx hb dX5_calling_4 (by decide) ?_
  refine q_ialdK fx h 1 rfl 1 (vinK (by decide)) (by decide) dX5_calling_5 ?_
  obtain ⟨u1, eu1, hf⟩ := nm_inv hf
  refine lv_eqi eu1 ?_
  refine lv_istore_n (lv' := [(2, .int u1), (0, .ref a_t), (1, .int x1)]) hx hb dX5_calling_6 rfl hl (by decide) rfl (fun ls hl => ?_)
  refine lv_aload_n hx hb dX5_calling_7 rfl (lv_at hl 1 rfl) ?_
  refine q_get (v := .ref a_s) fx inX5 h 0 rfl rfl 0 (by decide) k_636 rfl dX5_calling_8 ?_
  refine lv_iconst (v := 1) hx hb dX5_calling_11 (by decide) ?_
  refine lv_aload_n hx hb dX5_calling_12 rfl (lv_at hl 1 rfl) ?_
  refine lv_iload_n hx hb dX5_calling_13 rfl (lv_at hl 0 rfl) ?_
  refine lv_iload_n hx hb dX5_calling_14 rfl (lv_at hl 2 rfl) ?_
  obtain ⟨r2, k2, hg, hf⟩ := bR_inv hf
  refine q_ci (rest := [.int 1, .ref a_s]) (ws' := (wX5_calling cI cJ cZ cS a_t a_s a_keptS a_statuses a_pile a_tape a_steps a_wish a_mark a_bitsOf a_sizeOf a_number a_moved v_isKept v_taped v_at v_fault v_laid v_open v_s k2)) (w1 := (wX5_called cI cJ cZ cS a_t a_s a_keptS a_statuses a_pile a_tape a_steps a_wish a_mark a_bitsOf a_sizeOf a_number a_moved v_isKept v_taped v_at v_fault v_laid v_open v_s k2)) fx h [0, 1, 2] rfl rfl rfl rfl (q_runV fx h hl.1 [0, 1, 2] rfl rfl (tX5_called l D cI cJ cZ cS tb a_t a_s a_keptS a_statuses a_pile a_tape a_steps a_wish a_mark a_bitsOf a_sizeOf a_number a_moved H.size v_isKept v_taped v_at v_fault v_laid v_open v_s v_pile u1 x1 r2 k2 hg) mvX5_called k_834 ⟨rfl, rfl⟩ ⟨Nat.le_of_ble_eq_true rfl, Nat.le_of_ble_eq_true rfl⟩ rfl rfl rfl rfl (Nat.le_of_ble_eq_true rfl) dX5_calling_15 ⟨Nat.le_of_ble_eq_true rfl, Nat.le_of_ble_eq_true rfl⟩) (fun H locs h => ?_)
  refine q_iastK (ws' := (wX5_calling cI cJ cZ cS a_t a_s a_keptS a_statuses a_pile a_tape a_steps a_wish a_mark a_bitsOf a_sizeOf a_number a_moved v_isKept v_taped v_at v_fault v_laid v_open (upd v_s 1 r2) k2)) fx h 1 rfl 1 (vinK (by decide)) (by decide) rfl dX5_calling_18 (fun H locs h => ?_)
  refine lv_aload_n hx hb dX5_calling_19 rfl (lv_at hl 1 rfl) ?_
  refine q_get (v := .ref a_s) fx inX5 h 0 rfl rfl 0 (by decide) k_636 rfl dX5_calling_20 ?_
  refine lv_iconst (v := 1) hx hb dX5_calling_23 (by decide) ?_
  refine q_ialdK fx h 1 rfl 1 (vinK (by decide)) (by decide) dX5_calling_24 ?_
  refine lv_iload_n hx hb dX5_calling_25 rfl (lv_at hl 0 rfl) ?_
  refine lv_icmp_ne (tgt := 33) hx hb dX5_calling_26 (by decide) (fun c3 => ?_) (fun c3 => ?_)
  · have hf := it_f c3 hf
    refine lv_iconst (v := 1) hx hb dX5_calling_33 (by decide) ?_
    exact q_reti (fun k : (Nat → Int32) × (Nat → Int32) => (wX5_calling cI cJ cZ cS a_t a_s a_keptS a_statuses a_pile a_tape a_steps a_wish a_mark a_bitsOf a_sizeOf a_number a_moved v_isKept v_taped v_at v_fault v_laid v_open k.1 k.2)) fx hf h dX5_calling_34
  have hf := it_t c3 hf
  refine lv_iconst (v := 0) hx hb dX5_calling_29 (by decide) ?_
  refine lv_goto (tgt := 34) hx hb dX5_calling_30 (by decide) ?_
  exact q_reti (fun k : (Nat → Int32) × (Nat → Int32) => (wX5_calling cI cJ cZ cS a_t a_s a_keptS a_statuses a_pile a_tape a_steps a_wish a_mark a_bitsOf a_sizeOf a_number a_moved v_isKept v_taped v_at v_fault v_laid v_open k.1 k.2)) fx hf h dX5_calling_34
/-! X5_call -/
abbrev wX5_call (cI cJ cZ cS : ClassId) (a_t a_s a_keptS a_statuses a_pile a_tape a_steps a_wish a_mark a_bitsOf a_sizeOf a_number a_moved : Nat) (v_isKept : Int32) (v_taped : Int32) (v_at : Int32) (v_fault : Int32) (v_laid : Int32) (v_open : Int32) (v_s : Nat → Int32) (v_statuses : Nat → Int32) (v_pile : Nat → Int32) : va_W := [(a_t, .inr (5, [.ref a_s, .ref a_keptS, .ref a_statuses, .int v_isKept, .ref a_pile, .ref a_tape, .ref a_steps, .int v_taped, .int v_at, .int v_fault, .int v_laid, .int v_open, .ref a_wish, .ref a_mark, .ref a_bitsOf, .ref a_sizeOf, .ref a_number, .ref a_moved])), (a_s, .inl (cI, 538, .inl v_s)), (a_statuses, .inl (cI, 7, .inl v_statuses)), (a_pile, .inl (cZ, 64, .inl v_pile))]
abbrev rX5_call : Room := { frames := 6, cells := 0, slots := 0, locals := 137 }
def fX5_call (v_s : Nat → Int32) (v_statuses : Nat → Int32) (v_pile : Nat → Int32) (x1 : Int32) : Option (Int32 × (Nat → Int32) × (Nat → Int32) × (Nat → Int32)) :=
  bR (fX5_isGuest v_s x1) (fun r1 k1 =>
  (if r1 = 0 then (
  bR (fX5_finds v_statuses (-1000000001)) (fun r3 k3 =>
  some (r3, (v_s, k3, v_pile))))
  else (
  bR (fX5_calling v_s v_pile x1) (fun r4 k4 =>
  some (r4, (k4.1, v_statuses, k4.2))))))
set_option maxRecDepth 100000 in
set_option maxHeartbeats 4000000 in
theorem tX5_call (l : Launch) (D : va_G) (cI cJ cZ cS : ClassId) (tb : Nat) (a_t a_s a_keptS a_statuses a_pile a_tape a_steps a_wish a_mark a_bitsOf a_sizeOf a_number a_moved : Nat) (sz : Nat) (v_isKept : Int32) (v_taped : Int32) (v_at : Int32) (v_fault : Int32) (v_laid : Int32) (v_open : Int32) (v_s : Nat → Int32) (v_statuses : Nat → Int32) (v_pile : Nat → Int32) (x1 : Int32) (rr : Int32) (kk' : (Nat → Int32) × (Nat → Int32) × (Nat → Int32)) (hf : fX5_call v_s v_statuses v_pile x1 = some (rr, kk')) : Met l yX5_call (Cond.code yX5_call cX5_call 2 (some .int) :: wA) rX5_call (q_Pre D cI cJ cZ cS tb [.ref a_t, .int x1] sz (wX5_call cI cJ cZ cS a_t a_s a_keptS a_statuses a_pile a_tape a_steps a_wish a_mark a_bitsOf a_sizeOf a_number a_moved v_isKept v_taped v_at v_fault v_laid v_open v_s v_statuses v_pile)) (q_Ri D rr (va_A (wX5_call cI cJ cZ cS a_t a_s a_keptS a_statuses a_pile a_tape a_steps a_wish a_mark a_bitsOf a_sizeOf a_number a_moved v_isKept v_taped v_at v_fault v_laid v_open v_s v_statuses v_pile) sz) ((fun k : (Nat → Int32) × (Nat → Int32) × (Nat → Int32) => (wX5_call cI cJ cZ cS a_t a_s a_keptS a_statuses a_pile a_tape a_steps a_wish a_mark a_bitsOf a_sizeOf a_number a_moved v_isKept v_taped v_at v_fault v_laid v_open k.1 k.2.1 k.2.2)) kk')) 0 0 (va_A (wX5_call cI cJ cZ cS a_t a_s a_keptS a_statuses a_pile a_tape a_steps a_wish a_mark a_bitsOf a_sizeOf a_number a_moved v_isKept v_taped v_at v_fault v_laid v_open v_s v_statuses v_pile) sz) := by
  refine q_enter (Qf := fun A => (q_Ri D rr A ((fun k : (Nat → Int32) × (Nat → Int32) × (Nat → Int32) => (wX5_call cI cJ cZ cS a_t a_s a_keptS a_statuses a_pile a_tape a_steps a_wish a_mark a_bitsOf a_sizeOf a_number a_moved v_isKept v_taped v_at v_fault v_laid v_open k.1 k.2.1 k.2.2)) kk'))) (by decide) rfl (Nat.le_of_ble_eq_true rfl) ?_
  intro p e s m below meth c A ls fx hname h hl
  have hx := fx.1
  have hb := fx.2.1
  have hl : lv_has ls 2 [(0, .ref a_t), (1, .int x1)] := hl
  generalize h9 : s.heap = H at h ⊢
  clear h9
  generalize h9 : ([] : List Loc) = locs at h ⊢
  clear h9
  unfold fX5_call at hf
  refine lv_aload_n hx hb dX5_call_0 rfl (lv_at hl 0 rfl) ?_
  refine lv_iload_n hx hb dX5_call_1 rfl (lv_at hl 1 rfl) ?_
  obtain ⟨r1, k1, hg, hf⟩ := bR_inv hf
  refine q_ci (rest := []) (ws' := (wX5_call cI cJ cZ cS a_t a_s a_keptS a_statuses a_pile a_tape a_steps a_wish a_mark a_bitsOf a_sizeOf a_number a_moved v_isKept v_taped v_at v_fault v_laid v_open v_s v_statuses v_pile)) (w1 := (wX5_isGuest cI cJ cZ cS a_t a_s a_keptS a_statuses a_pile a_tape a_steps a_wish a_mark a_bitsOf a_sizeOf a_number a_moved v_isKept v_taped v_at v_fault v_laid v_open v_s)) fx h [0, 1] rfl rfl rfl rfl (q_runV fx h hl.1 [0, 1] rfl rfl (tX5_isGuest l D cI cJ cZ cS tb a_t a_s a_keptS a_statuses a_pile a_tape a_steps a_wish a_mark a_bitsOf a_sizeOf a_number a_moved H.size v_isKept v_taped v_at v_fault v_laid v_open v_s x1 r1 k1 hg) mvX5_isGuest k_711 ⟨rfl, rfl⟩ ⟨Nat.le_of_ble_eq_true rfl, Nat.le_of_ble_eq_true rfl⟩ rfl rfl rfl rfl (Nat.le_of_ble_eq_true rfl) dX5_call_2 ⟨Nat.le_of_ble_eq_true rfl, Nat.le_of_ble_eq_true rfl⟩) (fun H locs h => ?_)
  refine lv_if_eq (tgt := 16) hx hb dX5_call_5 (by decide) (fun c2 => ?_) (fun c2 => ?_)
  · have hf := it_t c2 hf
    refine lv_aload_n hx hb dX5_call_16 rfl (lv_at hl 0 rfl) ?_
    refine q_ldc fx k_701 dX5_call_17 ?_
    obtain ⟨r3, k3, hg, hf⟩ := bR_inv hf
    refine q_ci (rest := []) (ws' := (wX5_call cI cJ cZ cS a_t a_s a_keptS a_statuses a_pile a_tape a_steps a_wish a_mark a_bitsOf a_sizeOf a_number a_moved v_isKept v_taped v_at v_fault v_laid v_open v_s k3 v_pile)) (w1 := (wX5_finds cI cJ cZ cS a_t a_s a_keptS a_statuses a_pile a_tape a_steps a_wish a_mark a_bitsOf a_sizeOf a_number a_moved v_isKept v_taped v_at v_fault v_laid v_open k3)) fx h [0, 2] rfl rfl rfl rfl (q_runV fx h hl.1 [0, 2] rfl rfl (tX5_finds l D cI cJ cZ cS tb a_t a_s a_keptS a_statuses a_pile a_tape a_steps a_wish a_mark a_bitsOf a_sizeOf a_number a_moved H.size v_isKept v_taped v_at v_fault v_laid v_open v_statuses (-1000000001) r3 k3 hg) mvX5_finds k_702 ⟨rfl, rfl⟩ ⟨Nat.le_of_ble_eq_true rfl, Nat.le_of_ble_eq_true rfl⟩ rfl rfl rfl rfl (Nat.le_of_ble_eq_true rfl) dX5_call_19 ⟨Nat.le_of_ble_eq_true rfl, Nat.le_of_ble_eq_true rfl⟩) (fun H locs h => ?_)
    exact q_reti (fun k : (Nat → Int32) × (Nat → Int32) × (Nat → Int32) => (wX5_call cI cJ cZ cS a_t a_s a_keptS a_statuses a_pile a_tape a_steps a_wish a_mark a_bitsOf a_sizeOf a_number a_moved v_isKept v_taped v_at v_fault v_laid v_open k.1 k.2.1 k.2.2)) fx hf h dX5_call_22
  have hf := it_f c2 hf
  refine lv_aload_n hx hb dX5_call_8 rfl (lv_at hl 0 rfl) ?_
  refine lv_iload_n hx hb dX5_call_9 rfl (lv_at hl 1 rfl) ?_
  obtain ⟨r4, k4, hg, hf⟩ := bR_inv hf
  refine q_ci (rest := []) (ws' := (wX5_call cI cJ cZ cS a_t a_s a_keptS a_statuses a_pile a_tape a_steps a_wish a_mark a_bitsOf a_sizeOf a_number a_moved v_isKept v_taped v_at v_fault v_laid v_open k4.1 v_statuses k4.2)) (w1 := (wX5_calling cI cJ cZ cS a_t a_s a_keptS a_statuses a_pile a_tape a_steps a_wish a_mark a_bitsOf a_sizeOf a_number a_moved v_isKept v_taped v_at v_fault v_laid v_open k4.1 k4.2)) fx h [0, 1, 3] rfl rfl rfl rfl (q_runV fx h hl.1 [0, 1, 3] rfl rfl (tX5_calling l D cI cJ cZ cS tb a_t a_s a_keptS a_statuses a_pile a_tape a_steps a_wish a_mark a_bitsOf a_sizeOf a_number a_moved H.size v_isKept v_taped v_at v_fault v_laid v_open v_s v_pile x1 r4 k4 hg) mvX5_calling k_830 ⟨rfl, rfl⟩ ⟨Nat.le_of_ble_eq_true rfl, Nat.le_of_ble_eq_true rfl⟩ rfl rfl rfl rfl (Nat.le_of_ble_eq_true rfl) dX5_call_10 ⟨Nat.le_of_ble_eq_true rfl, Nat.le_of_ble_eq_true rfl⟩) (fun H locs h => ?_)
  refine lv_goto (tgt := 22) hx hb dX5_call_13 (by decide) ?_
  exact q_reti (fun k : (Nat → Int32) × (Nat → Int32) × (Nat → Int32) => (wX5_call cI cJ cZ cS a_t a_s a_keptS a_statuses a_pile a_tape a_steps a_wish a_mark a_bitsOf a_sizeOf a_number a_moved v_isKept v_taped v_at v_fault v_laid v_open k.1 k.2.1 k.2.2)) fx hf h dX5_call_22
/-! X5_calls -/
abbrev wX5_calls (cI cJ cZ cS : ClassId) (a_t a_s a_keptS a_statuses a_pile a_tape a_steps a_wish a_mark a_bitsOf a_sizeOf a_number a_moved : Nat) (v_isKept : Int32) (v_taped : Int32) (v_at : Int32) (v_fault : Int32) (v_laid : Int32) (v_open : Int32) (v_s : Nat → Int32) (v_statuses : Nat → Int32) (v_pile : Nat → Int32) : va_W := [(a_t, .inr (5, [.ref a_s, .ref a_keptS, .ref a_statuses, .int v_isKept, .ref a_pile, .ref a_tape, .ref a_steps, .int v_taped, .int v_at, .int v_fault, .int v_laid, .int v_open, .ref a_wish, .ref a_mark, .ref a_bitsOf, .ref a_sizeOf, .ref a_number, .ref a_moved])), (a_s, .inl (cI, 538, .inl v_s)), (a_statuses, .inl (cI, 7, .inl v_statuses)), (a_pile, .inl (cZ, 64, .inl v_pile))]
abbrev rX5_calls : Room := { frames := 6, cells := 0, slots := 0, locals := 137 }
def fX5_calls_31 (ag23 : (Nat → Int32) → (Nat → Int32) → (Nat → Int32) → Int32 → Int32 → Int32 → Option (Int32 × (Nat → Int32) × (Nat → Int32) × (Nat → Int32))) (ag31 : (Nat → Int32) → (Nat → Int32) → (Nat → Int32) → Int32 → Int32 → Int32 → Int32 → Option (Int32 × (Nat → Int32) × (Nat → Int32) × (Nat → Int32))) (v_s : Nat → Int32) (v_statuses : Nat → Int32) (v_pile : Nat → Int32) (y1 : Int32) (y2 : Int32) (y3 : Int32) (y4 : Int32) : Option (Int32 × (Nat → Int32) × (Nat → Int32) × (Nat → Int32)) :=
  (if (v_s 0) ≤ y4 then (
  nm (y3 + 1) (fun u2 =>
  ag23 v_s v_statuses v_pile y1 y2 u2))
  else (
  bR (fX5_calling v_s v_pile y4) (fun r3 k3 =>
  nm (y2 + r3) (fun u4 =>
  nm (y4 + 1) (fun u5 =>
  ag31 k3.1 v_statuses k3.2 y1 u4 y3 u5)))))
set_option maxRecDepth 100000 in
set_option maxHeartbeats 4000000 in
theorem LX5_calls_31 {p : Program} {l : Launch} {e : Env} {s : State} {m : MethodId} {args : Array Value} {below : List Frame} {meth : Method} {c : Code} {D : va_G} {cI cJ cZ cS : ClassId} {tb : Nat} {A : Nat → Prop} {a_t a_s a_keptS a_statuses a_pile a_tape a_steps a_wish a_mark a_bitsOf a_sizeOf a_number a_moved : Nat} {v_isKept : Int32} {v_taped : Int32} {v_at : Int32} {v_fault : Int32} {v_laid : Int32} {v_open : Int32} {rr : Int32} {kk' : (Nat → Int32) × (Nat → Int32) × (Nat → Int32)} (fx : q_Fx p s m args meth c cX5_calls 5 RX5 (some .int) D cI cJ cZ cS tb A) {ag23 : (Nat → Int32) → (Nat → Int32) → (Nat → Int32) → Int32 → Int32 → Int32 → Option (Int32 × (Nat → Int32) × (Nat → Int32) × (Nat → Int32))} (hag23 : ∀ {v_s : Nat → Int32} {v_statuses : Nat → Int32} {v_pile : Nat → Int32} {y1 : Int32} {y2 : Int32} {y3 : Int32} {H : Heap} {locs : List Loc} {ls : Array Slot}, q_H D A s (wX5_calls cI cJ cZ cS a_t a_s a_keptS a_statuses a_pile a_tape a_steps a_wish a_mark a_bitsOf a_sizeOf a_number a_moved v_isKept v_taped v_at v_fault v_laid v_open v_s v_statuses v_pile) H locs → lv_has ls 5 [(0, .ref a_t), (1, .int y1), (2, .int y2), (3, .int y3)] → ag23 v_s v_statuses v_pile y1 y2 y3 = some (rr, kk') → W p l e rX5_calls s m args below meth c H locs 0 0 (MQ below (q_Ri D rr A ((fun k : (Nat → Int32) × (Nat → Int32) × (Nat → Int32) => (wX5_calls cI cJ cZ cS a_t a_s a_keptS a_statuses a_pile a_tape a_steps a_wish a_mark a_bitsOf a_sizeOf a_number a_moved v_isKept v_taped v_at v_fault v_laid v_open k.1 k.2.1 k.2.2)) kk')) args s 0 0 A) (F0 m 23 ls [])) {ag31 : (Nat → Int32) → (Nat → Int32) → (Nat → Int32) → Int32 → Int32 → Int32 → Int32 → Option (Int32 × (Nat → Int32) × (Nat → Int32) × (Nat → Int32))} (hag31 : ∀ {v_s : Nat → Int32} {v_statuses : Nat → Int32} {v_pile : Nat → Int32} {y1 : Int32} {y2 : Int32} {y3 : Int32} {y4 : Int32} {H : Heap} {locs : List Loc} {ls : Array Slot}, q_H D A s (wX5_calls cI cJ cZ cS a_t a_s a_keptS a_statuses a_pile a_tape a_steps a_wish a_mark a_bitsOf a_sizeOf a_number a_moved v_isKept v_taped v_at v_fault v_laid v_open v_s v_statuses v_pile) H locs → lv_has ls 5 [(0, .ref a_t), (1, .int y1), (2, .int y2), (3, .int y3), (4, .int y4)] → ag31 v_s v_statuses v_pile y1 y2 y3 y4 = some (rr, kk') → W p l e rX5_calls s m args below meth c H locs 0 0 (MQ below (q_Ri D rr A ((fun k : (Nat → Int32) × (Nat → Int32) × (Nat → Int32) => (wX5_calls cI cJ cZ cS a_t a_s a_keptS a_statuses a_pile a_tape a_steps a_wish a_mark a_bitsOf a_sizeOf a_number a_moved v_isKept v_taped v_at v_fault v_laid v_open k.1 k.2.1 k.2.2)) kk')) args s 0 0 A) (F0 m 31 ls [])) : ∀ {v_s : Nat → Int32} {v_statuses : Nat → Int32} {v_pile : Nat → Int32} {y1 : Int32} {y2 : Int32} {y3 : Int32} {y4 : Int32} {H : Heap} {locs : List Loc} {ls : Array Slot}, q_H D A s (wX5_calls cI cJ cZ cS a_t a_s a_keptS a_statuses a_pile a_tape a_steps a_wish a_mark a_bitsOf a_sizeOf a_number a_moved v_isKept v_taped v_at v_fault v_laid v_open v_s v_statuses v_pile) H locs → lv_has ls 5 [(0, .ref a_t), (1, .int y1), (2, .int y2), (3, .int y3), (4, .int y4)] → fX5_calls_31 ag23 ag31 v_s v_statuses v_pile y1 y2 y3 y4 = some (rr, kk') → W p l e rX5_calls s m args below meth c H locs 0 0 (MQ below (q_Ri D rr A ((fun k : (Nat → Int32) × (Nat → Int32) × (Nat → Int32) => (wX5_calls cI cJ cZ cS a_t a_s a_keptS a_statuses a_pile a_tape a_steps a_wish a_mark a_bitsOf a_sizeOf a_number a_moved v_isKept v_taped v_at v_fault v_laid v_open k.1 k.2.1 k.2.2)) kk')) args s 0 0 A) (F0 m 31 ls []) := by
  intro v_s v_statuses v_pile y1 y2 y3 y4 H locs ls h hl hf
  have hx := fx.1
  have hb := fx.2.1
  unfold fX5_calls_31 at hf
  refine lv_iload hx hb dX5_calls_31 (lv_at hl 4 rfl) ?_
  refine lv_aload_n hx hb dX5_calls_33 rfl (lv_at hl 0 rfl) ?_
  refine q_get (v := .ref a_s) fx inX5 h 0 rfl rfl 0 (by decide) k_636 rfl dX5_calls_34 ?_
  refine lv_iconst (v := 0) hx hb dX5_calls_37 (by decide) ?_
  refine q_ialdK fx h 1 rfl 0 (vinK (by decide)) (by decide) dX5_calls_38 ?_
  refine lv_icmp_ge (tgt := 57) hx hb dX5_calls_39 (by decide) (fun c1 => ?_) (fun c1 => ?_)
  · have hf := it_t c1 hf
    obtain ⟨u2, eu2, hf⟩ := nm_inv hf
    refine lv_iinc (v := u2) (lv' := [(3, .int u2), (0, .ref a_t), (1, .int y1), (2, .int y2), (4, .int y4)]) hx hb dX5_calls_57 hl (k := 3) rfl (by rw [eu2]; rfl) (by decide) rfl (fun ls hl => ?_)
    refine lv_goto (tgt := 23) hx hb dX5_calls_60 (by decide) ?_
    exact hag23 h (lv_sub hl [1, 2, 3, 0] rfl) hf
  have hf := it_f c1 hf
  refine lv_iload_n hx hb dX5_calls_42 rfl (lv_at hl 2 rfl) ?_
  refine lv_aload_n hx hb dX5_calls_43 rfl (lv_at hl 0 rfl) ?_
  refine lv_iload hx hb dX5_calls_44 (lv_at hl 4 rfl) ?_
  obtain ⟨r3, k3, hg, hf⟩ := bR_inv hf
  refine q_ci (rest := [.int y2]) (ws' := (wX5_calls cI cJ cZ cS a_t a_s a_keptS a_statuses a_pile a_tape a_steps a_wish a_mark a_bitsOf a_sizeOf a_number a_moved v_isKept v_taped v_at v_fault v_laid v_open k3.1 v_statuses k3.2)) (w1 := (wX5_calling cI cJ cZ cS a_t a_s a_keptS a_statuses a_pile a_tape a_steps a_wish a_mark a_bitsOf a_sizeOf a_number a_moved v_isKept v_taped v_at v_fault v_laid v_open k3.1 k3.2)) fx h [0, 1, 3] rfl rfl rfl rfl (q_runV fx h hl.1 [0, 1, 3] rfl rfl (tX5_calling l D cI cJ cZ cS tb a_t a_s a_keptS a_statuses a_pile a_tape a_steps a_wish a_mark a_bitsOf a_sizeOf a_number a_moved H.size v_isKept v_taped v_at v_fault v_laid v_open v_s v_pile y4 r3 k3 hg) mvX5_calling k_830 ⟨rfl, rfl⟩ ⟨Nat.le_of_ble_eq_true rfl, Nat.le_of_ble_eq_true rfl⟩ rfl rfl rfl rfl (Nat.le_of_ble_eq_true rfl) dX5_calls_46 ⟨Nat.le_of_ble_eq_true rfl, Nat.le_of_ble_eq_true rfl⟩) (fun H locs h => ?_)
  refine lv_iadd hx hb dX5_calls_49 ?_
  obtain ⟨u4, eu4, hf⟩ := nm_inv hf
  refine lv_eqi eu4 ?_
  refine lv_istore_n (lv' := [(2, .int u4), (0, .ref a_t), (1, .int y1), (3, .int y3), (4, .int y4)]) hx hb dX5_calls_50 rfl hl (by decide) rfl (fun ls hl => ?_)
  obtain ⟨u5, eu5, hf⟩ := nm_inv hf
  refine lv_iinc (v := u5) (lv' := [(4, .int u5), (2, .int u4), (0, .ref a_t), (1, .int y1), (3, .int y3)]) hx hb dX5_calls_51 hl (k := 4) rfl (by rw [eu5]; rfl) (by decide) rfl (fun ls hl => ?_)
  refine lv_goto (tgt := 31) hx hb dX5_calls_54 (by decide) ?_
  exact hag31 h (lv_sub hl [2, 3, 1, 4, 0] rfl) hf
set_option maxRecDepth 100000 in
theorem EX5_calls_31 {p : Program} {l : Launch} {e : Env} {s : State} {m : MethodId} {args : Array Value} {below : List Frame} {meth : Method} {c : Code} {D : va_G} {cI cJ cZ cS : ClassId} {tb : Nat} {A : Nat → Prop} {a_t a_s a_keptS a_statuses a_pile a_tape a_steps a_wish a_mark a_bitsOf a_sizeOf a_number a_moved : Nat} {v_isKept : Int32} {v_taped : Int32} {v_at : Int32} {v_fault : Int32} {v_laid : Int32} {v_open : Int32} {rr : Int32} {kk' : (Nat → Int32) × (Nat → Int32) × (Nat → Int32)} (fx : q_Fx p s m args meth c cX5_calls 5 RX5 (some .int) D cI cJ cZ cS tb A) {ag23 : (Nat → Int32) → (Nat → Int32) → (Nat → Int32) → Int32 → Int32 → Int32 → Option (Int32 × (Nat → Int32) × (Nat → Int32) × (Nat → Int32))} (hag23 : ∀ {v_s : Nat → Int32} {v_statuses : Nat → Int32} {v_pile : Nat → Int32} {y1 : Int32} {y2 : Int32} {y3 : Int32} {H : Heap} {locs : List Loc} {ls : Array Slot}, q_H D A s (wX5_calls cI cJ cZ cS a_t a_s a_keptS a_statuses a_pile a_tape a_steps a_wish a_mark a_bitsOf a_sizeOf a_number a_moved v_isKept v_taped v_at v_fault v_laid v_open v_s v_statuses v_pile) H locs → lv_has ls 5 [(0, .ref a_t), (1, .int y1), (2, .int y2), (3, .int y3)] → ag23 v_s v_statuses v_pile y1 y2 y3 = some (rr, kk') → W p l e rX5_calls s m args below meth c H locs 0 0 (MQ below (q_Ri D rr A ((fun k : (Nat → Int32) × (Nat → Int32) × (Nat → Int32) => (wX5_calls cI cJ cZ cS a_t a_s a_keptS a_statuses a_pile a_tape a_steps a_wish a_mark a_bitsOf a_sizeOf a_number a_moved v_isKept v_taped v_at v_fault v_laid v_open k.1 k.2.1 k.2.2)) kk')) args s 0 0 A) (F0 m 23 ls [])) : ∀ (n : Nat), ∀ {v_s : Nat → Int32} {v_statuses : Nat → Int32} {v_pile : Nat → Int32} {y1 : Int32} {y2 : Int32} {y3 : Int32} {y4 : Int32} {H : Heap} {locs : List Loc} {ls : Array Slot}, q_H D A s (wX5_calls cI cJ cZ cS a_t a_s a_keptS a_statuses a_pile a_tape a_steps a_wish a_mark a_bitsOf a_sizeOf a_number a_moved v_isKept v_taped v_at v_fault v_laid v_open v_s v_statuses v_pile) H locs → lv_has ls 5 [(0, .ref a_t), (1, .int y1), (2, .int y2), (3, .int y3), (4, .int y4)] → ll7 (fX5_calls_31 ag23) n v_s v_statuses v_pile y1 y2 y3 y4 = some (rr, kk') → W p l e rX5_calls s m args below meth c H locs 0 0 (MQ below (q_Ri D rr A ((fun k : (Nat → Int32) × (Nat → Int32) × (Nat → Int32) => (wX5_calls cI cJ cZ cS a_t a_s a_keptS a_statuses a_pile a_tape a_steps a_wish a_mark a_bitsOf a_sizeOf a_number a_moved v_isKept v_taped v_at v_fault v_laid v_open k.1 k.2.1 k.2.2)) kk')) args s 0 0 A) (F0 m 31 ls []) := by
  intro n
  induction n with
  | zero => intro v_s v_statuses v_pile y1 y2 y3 y4 H locs ls h hl hf; exact (ll7_z hf).elim
  | succ n ih => intro v_s v_statuses v_pile y1 y2 y3 y4 H locs ls h hl hf; exact LX5_calls_31 fx hag23 ih h hl (ll7_s hf)
def fX5_calls_23 (ag23 : (Nat → Int32) → (Nat → Int32) → (Nat → Int32) → Int32 → Int32 → Int32 → Option (Int32 × (Nat → Int32) × (Nat → Int32) × (Nat → Int32))) (v_s : Nat → Int32) (v_statuses : Nat → Int32) (v_pile : Nat → Int32) (y1 : Int32) (y2 : Int32) (y3 : Int32) : Option (Int32 × (Nat → Int32) × (Nat → Int32) × (Nat → Int32)) :=
  (if y1 ≤ y3 then (
  some (y2, (v_s, v_statuses, v_pile)))
  else (
  ll7 (fX5_calls_31 ag23) qF v_s v_statuses v_pile y1 y2 y3 0))
set_option maxRecDepth 100000 in
set_option maxHeartbeats 4000000 in
theorem LX5_calls_23 {p : Program} {l : Launch} {e : Env} {s : State} {m : MethodId} {args : Array Value} {below : List Frame} {meth : Method} {c : Code} {D : va_G} {cI cJ cZ cS : ClassId} {tb : Nat} {A : Nat → Prop} {a_t a_s a_keptS a_statuses a_pile a_tape a_steps a_wish a_mark a_bitsOf a_sizeOf a_number a_moved : Nat} {v_isKept : Int32} {v_taped : Int32} {v_at : Int32} {v_fault : Int32} {v_laid : Int32} {v_open : Int32} {rr : Int32} {kk' : (Nat → Int32) × (Nat → Int32) × (Nat → Int32)} (fx : q_Fx p s m args meth c cX5_calls 5 RX5 (some .int) D cI cJ cZ cS tb A) {ag23 : (Nat → Int32) → (Nat → Int32) → (Nat → Int32) → Int32 → Int32 → Int32 → Option (Int32 × (Nat → Int32) × (Nat → Int32) × (Nat → Int32))} (hag23 : ∀ {v_s : Nat → Int32} {v_statuses : Nat → Int32} {v_pile : Nat → Int32} {y1 : Int32} {y2 : Int32} {y3 : Int32} {H : Heap} {locs : List Loc} {ls : Array Slot}, q_H D A s (wX5_calls cI cJ cZ cS a_t a_s a_keptS a_statuses a_pile a_tape a_steps a_wish a_mark a_bitsOf a_sizeOf a_number a_moved v_isKept v_taped v_at v_fault v_laid v_open v_s v_statuses v_pile) H locs → lv_has ls 5 [(0, .ref a_t), (1, .int y1), (2, .int y2), (3, .int y3)] → ag23 v_s v_statuses v_pile y1 y2 y3 = some (rr, kk') → W p l e rX5_calls s m args below meth c H locs 0 0 (MQ below (q_Ri D rr A ((fun k : (Nat → Int32) × (Nat → Int32) × (Nat → Int32) => (wX5_calls cI cJ cZ cS a_t a_s a_keptS a_statuses a_pile a_tape a_steps a_wish a_mark a_bitsOf a_sizeOf a_number a_moved v_isKept v_taped v_at v_fault v_laid v_open k.1 k.2.1 k.2.2)) kk')) args s 0 0 A) (F0 m 23 ls [])) : ∀ {v_s : Nat → Int32} {v_statuses : Nat → Int32} {v_pile : Nat → Int32} {y1 : Int32} {y2 : Int32} {y3 : Int32} {H : Heap} {locs : List Loc} {ls : Array Slot}, q_H D A s (wX5_calls cI cJ cZ cS a_t a_s a_keptS a_statuses a_pile a_tape a_steps a_wish a_mark a_bitsOf a_sizeOf a_number a_moved v_isKept v_taped v_at v_fault v_laid v_open v_s v_statuses v_pile) H locs → lv_has ls 5 [(0, .ref a_t), (1, .int y1), (2, .int y2), (3, .int y3)] → fX5_calls_23 ag23 v_s v_statuses v_pile y1 y2 y3 = some (rr, kk') → W p l e rX5_calls s m args below meth c H locs 0 0 (MQ below (q_Ri D rr A ((fun k : (Nat → Int32) × (Nat → Int32) × (Nat → Int32) => (wX5_calls cI cJ cZ cS a_t a_s a_keptS a_statuses a_pile a_tape a_steps a_wish a_mark a_bitsOf a_sizeOf a_number a_moved v_isKept v_taped v_at v_fault v_laid v_open k.1 k.2.1 k.2.2)) kk')) args s 0 0 A) (F0 m 23 ls []) := by
  intro v_s v_statuses v_pile y1 y2 y3 H locs ls h hl hf
  have hx := fx.1
  have hb := fx.2.1
  unfold fX5_calls_23 at hf
  refine lv_iload_n hx hb dX5_calls_23 rfl (lv_at hl 3 rfl) ?_
  refine lv_iload_n hx hb dX5_calls_24 rfl (lv_at hl 1 rfl) ?_
  refine lv_icmp_ge (tgt := 63) hx hb dX5_calls_25 (by decide) (fun c6 => ?_) (fun c6 => ?_)
  · have hf := it_t c6 hf
    refine lv_iload_n hx hb dX5_calls_63 rfl (lv_at hl 2 rfl) ?_
    exact q_reti (fun k : (Nat → Int32) × (Nat → Int32) × (Nat → Int32) => (wX5_calls cI cJ cZ cS a_t a_s a_keptS a_statuses a_pile a_tape a_steps a_wish a_mark a_bitsOf a_sizeOf a_number a_moved v_isKept v_taped v_at v_fault v_laid v_open k.1 k.2.1 k.2.2)) fx hf h dX5_calls_64
  have hf := it_f c6 hf
  refine lv_iconst (v := 0) hx hb dX5_calls_28 (by decide) ?_
  refine lv_istore (lv' := [(4, .int 0), (0, .ref a_t), (1, .int y1), (2, .int y2), (3, .int y3)]) hx hb dX5_calls_29 hl (by decide) rfl (fun ls hl => ?_)
  exact EX5_calls_31 fx hag23 qF h (lv_sub hl [1, 2, 3, 4, 0] rfl) hf
set_option maxRecDepth 100000 in
theorem EX5_calls_23 {p : Program} {l : Launch} {e : Env} {s : State} {m : MethodId} {args : Array Value} {below : List Frame} {meth : Method} {c : Code} {D : va_G} {cI cJ cZ cS : ClassId} {tb : Nat} {A : Nat → Prop} {a_t a_s a_keptS a_statuses a_pile a_tape a_steps a_wish a_mark a_bitsOf a_sizeOf a_number a_moved : Nat} {v_isKept : Int32} {v_taped : Int32} {v_at : Int32} {v_fault : Int32} {v_laid : Int32} {v_open : Int32} {rr : Int32} {kk' : (Nat → Int32) × (Nat → Int32) × (Nat → Int32)} (fx : q_Fx p s m args meth c cX5_calls 5 RX5 (some .int) D cI cJ cZ cS tb A) : ∀ (n : Nat), ∀ {v_s : Nat → Int32} {v_statuses : Nat → Int32} {v_pile : Nat → Int32} {y1 : Int32} {y2 : Int32} {y3 : Int32} {H : Heap} {locs : List Loc} {ls : Array Slot}, q_H D A s (wX5_calls cI cJ cZ cS a_t a_s a_keptS a_statuses a_pile a_tape a_steps a_wish a_mark a_bitsOf a_sizeOf a_number a_moved v_isKept v_taped v_at v_fault v_laid v_open v_s v_statuses v_pile) H locs → lv_has ls 5 [(0, .ref a_t), (1, .int y1), (2, .int y2), (3, .int y3)] → ll6 (fX5_calls_23 ) n v_s v_statuses v_pile y1 y2 y3 = some (rr, kk') → W p l e rX5_calls s m args below meth c H locs 0 0 (MQ below (q_Ri D rr A ((fun k : (Nat → Int32) × (Nat → Int32) × (Nat → Int32) => (wX5_calls cI cJ cZ cS a_t a_s a_keptS a_statuses a_pile a_tape a_steps a_wish a_mark a_bitsOf a_sizeOf a_number a_moved v_isKept v_taped v_at v_fault v_laid v_open k.1 k.2.1 k.2.2)) kk')) args s 0 0 A) (F0 m 23 ls []) := by
  intro n
  induction n with
  | zero => intro v_s v_statuses v_pile y1 y2 y3 H locs ls h hl hf; exact (ll6_z hf).elim
  | succ n ih => intro v_s v_statuses v_pile y1 y2 y3 H locs ls h hl hf; exact LX5_calls_23 fx ih h hl (ll6_s hf)
def fX5_calls (v_s : Nat → Int32) (v_statuses : Nat → Int32) (v_pile : Nat → Int32) (x1 : Int32) : Option (Int32 × (Nat → Int32) × (Nat → Int32) × (Nat → Int32)) :=
  bR (fX5_in (x1.toInt64) 1 20) (fun r7 k7 =>
  (if r7 = 0 then (
  bR (fX5_finds v_statuses (-1000000001)) (fun r9 k9 =>
  some (r9, (v_s, k9, v_pile))))
  else (
  ll6 (fX5_calls_23 ) qF v_s v_statuses v_pile x1 0 0)))
set_option maxRecDepth 100000 in
set_option maxHeartbeats 4000000 in
theorem tX5_calls (l : Launch) (D : va_G) (cI cJ cZ cS : ClassId) (tb : Nat) (a_t a_s a_keptS a_statuses a_pile a_tape a_steps a_wish a_mark a_bitsOf a_sizeOf a_number a_moved : Nat) (sz : Nat) (v_isKept : Int32) (v_taped : Int32) (v_at : Int32) (v_fault : Int32) (v_laid : Int32) (v_open : Int32) (v_s : Nat → Int32) (v_statuses : Nat → Int32) (v_pile : Nat → Int32) (x1 : Int32) (rr : Int32) (kk' : (Nat → Int32) × (Nat → Int32) × (Nat → Int32)) (hf : fX5_calls v_s v_statuses v_pile x1 = some (rr, kk')) : Met l yX5_calls (Cond.code yX5_calls cX5_calls 5 (some .int) :: wA) rX5_calls (q_Pre D cI cJ cZ cS tb [.ref a_t, .int x1] sz (wX5_calls cI cJ cZ cS a_t a_s a_keptS a_statuses a_pile a_tape a_steps a_wish a_mark a_bitsOf a_sizeOf a_number a_moved v_isKept v_taped v_at v_fault v_laid v_open v_s v_statuses v_pile)) (q_Ri D rr (va_A (wX5_calls cI cJ cZ cS a_t a_s a_keptS a_statuses a_pile a_tape a_steps a_wish a_mark a_bitsOf a_sizeOf a_number a_moved v_isKept v_taped v_at v_fault v_laid v_open v_s v_statuses v_pile) sz) ((fun k : (Nat → Int32) × (Nat → Int32) × (Nat → Int32) => (wX5_calls cI cJ cZ cS a_t a_s a_keptS a_statuses a_pile a_tape a_steps a_wish a_mark a_bitsOf a_sizeOf a_number a_moved v_isKept v_taped v_at v_fault v_laid v_open k.1 k.2.1 k.2.2)) kk')) 0 0 (va_A (wX5_calls cI cJ cZ cS a_t a_s a_keptS a_statuses a_pile a_tape a_steps a_wish a_mark a_bitsOf a_sizeOf a_number a_moved v_isKept v_taped v_at v_fault v_laid v_open v_s v_statuses v_pile) sz) := by
  refine q_enter (Qf := fun A => (q_Ri D rr A ((fun k : (Nat → Int32) × (Nat → Int32) × (Nat → Int32) => (wX5_calls cI cJ cZ cS a_t a_s a_keptS a_statuses a_pile a_tape a_steps a_wish a_mark a_bitsOf a_sizeOf a_number a_moved v_isKept v_taped v_at v_fault v_laid v_open k.1 k.2.1 k.2.2)) kk'))) (by decide) rfl (Nat.le_of_ble_eq_true rfl) ?_
  intro p e s m below meth c A ls fx hname h hl
  have hx := fx.1
  have hb := fx.2.1
  have hl : lv_has ls 5 [(0, .ref a_t), (1, .int x1)] := hl
  generalize h9 : s.heap = H at h ⊢
  clear h9
  generalize h9 : ([] : List Loc) = locs at h ⊢
  clear h9
  unfold fX5_calls at hf
  refine lv_iload_n hx hb dX5_calls_0 rfl (lv_at hl 1 rfl) ?_
  refine lv_i2l hx hb dX5_calls_1 rfl ?_
  refine lv_lconst (v := 1) hx hb dX5_calls_2 (by decide) ?_
  refine q_ldc2 fx k_842 dX5_calls_3 ?_
  obtain ⟨r7, k7, hg, hf⟩ := bR_inv hf
  refine q_ci (rest := []) (ws' := (wX5_calls cI cJ cZ cS a_t a_s a_keptS a_statuses a_pile a_tape a_steps a_wish a_mark a_bitsOf a_sizeOf a_number a_moved v_isKept v_taped v_at v_fault v_laid v_open v_s v_statuses v_pile)) (w1 := (wX5_in cI cJ cZ cS)) fx h [] rfl rfl rfl rfl (q_runS fx h hl.1 [] rfl rfl (tX5_in l D cI cJ cZ cS tb H.size (x1.toInt64) 1 20 r7 k7 hg) msX5_in k_697 ⟨rfl, rfl⟩ ⟨Nat.le_of_ble_eq_true rfl, Nat.le_of_ble_eq_true rfl⟩ rfl rfl (Nat.le_of_ble_eq_true rfl) dX5_calls_6 ⟨Nat.le_of_ble_eq_true rfl, Nat.le_of_ble_eq_true rfl⟩) (fun H locs h => ?_)
  refine lv_if_ne (tgt := 19) hx hb dX5_calls_9 (by decide) (fun c8 => ?_) (fun c8 => ?_)
  · have hf := it_f c8 hf
    refine lv_iconst (v := 0) hx hb dX5_calls_19 (by decide) ?_
    refine lv_istore_n (lv' := [(2, .int 0), (0, .ref a_t), (1, .int x1)]) hx hb dX5_calls_20 rfl hl (by decide) rfl (fun ls hl => ?_)
    refine lv_iconst (v := 0) hx hb dX5_calls_21 (by decide) ?_
    refine lv_istore_n (lv' := [(3, .int 0), (2, .int 0), (0, .ref a_t), (1, .int x1)]) hx hb dX5_calls_22 rfl hl (by decide) rfl (fun ls hl => ?_)
    exact EX5_calls_23 fx qF h (lv_sub hl [2, 3, 1, 0] rfl) hf
  have hf := it_t c8 hf
  refine lv_aload_n hx hb dX5_calls_12 rfl (lv_at hl 0 rfl) ?_
  refine q_ldc fx k_701 dX5_calls_13 ?_
  obtain ⟨r9, k9, hg, hf⟩ := bR_inv hf
  refine q_ci (rest := []) (ws' := (wX5_calls cI cJ cZ cS a_t a_s a_keptS a_statuses a_pile a_tape a_steps a_wish a_mark a_bitsOf a_sizeOf a_number a_moved v_isKept v_taped v_at v_fault v_laid v_open v_s k9 v_pile)) (w1 := (wX5_finds cI cJ cZ cS a_t a_s a_keptS a_statuses a_pile a_tape a_steps a_wish a_mark a_bitsOf a_sizeOf a_number a_moved v_isKept v_taped v_at v_fault v_laid v_open k9)) fx h [0, 2] rfl rfl rfl rfl (q_runV fx h hl.1 [0, 2] rfl rfl (tX5_finds l D cI cJ cZ cS tb a_t a_s a_keptS a_statuses a_pile a_tape a_steps a_wish a_mark a_bitsOf a_sizeOf a_number a_moved H.size v_isKept v_taped v_at v_fault v_laid v_open v_statuses (-1000000001) r9 k9 hg) mvX5_finds k_702 ⟨rfl, rfl⟩ ⟨Nat.le_of_ble_eq_true rfl, Nat.le_of_ble_eq_true rfl⟩ rfl rfl rfl rfl (Nat.le_of_ble_eq_true rfl) dX5_calls_15 ⟨Nat.le_of_ble_eq_true rfl, Nat.le_of_ble_eq_true rfl⟩) (fun H locs h => ?_)
  exact q_reti (fun k : (Nat → Int32) × (Nat → Int32) × (Nat → Int32) => (wX5_calls cI cJ cZ cS a_t a_s a_keptS a_statuses a_pile a_tape a_steps a_wish a_mark a_bitsOf a_sizeOf a_number a_moved v_isKept v_taped v_at v_fault v_laid v_open k.1 k.2.1 k.2.2)) fx hf h dX5_calls_18
/-! X5_behind -/
abbrev wX5_behind (cI cJ cZ cS : ClassId) (a_t a_s a_keptS a_statuses a_pile a_tape a_steps a_wish a_mark a_bitsOf a_sizeOf a_number a_moved : Nat) (v_isKept : Int32) (v_taped : Int32) (v_at : Int32) (v_fault : Int32) (v_laid : Int32) (v_open : Int32) (v_s : Nat → Int32) (v_pile : Nat → Int32) : va_W := [(a_t, .inr (5, [.ref a_s, .ref a_keptS, .ref a_statuses, .int v_isKept, .ref a_pile, .ref a_tape, .ref a_steps, .int v_taped, .int v_at, .int v_fault, .int v_laid, .int v_open, .ref a_wish, .ref a_mark, .ref a_bitsOf, .ref a_sizeOf, .ref a_number, .ref a_moved])), (a_s, .inl (cI, 538, .inl v_s)), (a_pile, .inl (cZ, 64, .inl v_pile))]
abbrev rX5_behind : Room := { frames := 5, cells := 0, slots := 0, locals := 116 }
def fX5_behind_5 (v_s : Nat → Int32) (ag5 : (Nat → Int32) → Int32 → Int32 → Int32 → Option (Int32 × (Nat → Int32))) (v_pile : Nat → Int32) (y2 : Int32) (y3 : Int32) (y4 : Int32) : Option (Int32 × (Nat → Int32)) :=
  (if y2 ≤ y4 then (
  some (y3, v_pile))
  else (
  bR (fX5_would v_s v_pile y3) (fun r2 k2 =>
  nm (y4 + 1) (fun u3 =>
  ag5 k2 y2 r2 u3))))
set_option maxRecDepth 100000 in
set_option maxHeartbeats 4000000 in
theorem LX5_behind_5 {p : Program} {l : Launch} {e : Env} {s : State} {m : MethodId} {args : Array Value} {below : List Frame} {meth : Method} {c : Code} {D : va_G} {cI cJ cZ cS : ClassId} {tb : Nat} {A : Nat → Prop} {a_t a_s a_keptS a_statuses a_pile a_tape a_steps a_wish a_mark a_bitsOf a_sizeOf a_number a_moved : Nat} {v_isKept : Int32} {v_taped : Int32} {v_at : Int32} {v_fault : Int32} {v_laid : Int32} {v_open : Int32} {v_s : Nat → Int32} {rr : Int32} {kk' : (Nat → Int32)} (fx : q_Fx p s m args meth c cX5_behind 5 RX5 (some .int) D cI cJ cZ cS tb A) {ag5 : (Nat → Int32) → Int32 → Int32 → Int32 → Option (Int32 × (Nat → Int32))} (hag5 : ∀ {v_pile : Nat → Int32} {y2 : Int32} {y3 : Int32} {y4 : Int32} {H : Heap} {locs : List Loc} {ls : Array Slot}, q_H D A s (wX5_behind cI cJ cZ cS a_t a_s a_keptS a_statuses a_pile a_tape a_steps a_wish a_mark a_bitsOf a_sizeOf a_number a_moved v_isKept v_taped v_at v_fault v_laid v_open v_s v_pile) H locs → lv_has ls 5 [(0, .ref a_t), (2, .int y2), (3, .int y3), (4, .int y4)] → ag5 v_pile y2 y3 y4 = some (rr, kk') → W p l e rX5_behind s m args below meth c H locs 0 0 (MQ below (q_Ri D rr A ((fun k : (Nat → Int32) => (wX5_behind cI cJ cZ cS a_t a_s a_keptS a_statuses a_pile a_tape a_steps a_wish a_mark a_bitsOf a_sizeOf a_number a_moved v_isKept v_taped v_at v_fault v_laid v_open v_s k)) kk')) args s 0 0 A) (F0 m 5 ls [])) : ∀ {v_pile : Nat → Int32} {y2 : Int32} {y3 : Int32} {y4 : Int32} {H : Heap} {locs : List Loc} {ls : Array Slot}, q_H D A s (wX5_behind cI cJ cZ cS a_t a_s a_keptS a_statuses a_pile a_tape a_steps a_wish a_mark a_bitsOf a_sizeOf a_number a_moved v_isKept v_taped v_at v_fault v_laid v_open v_s v_pile) H locs → lv_has ls 5 [(0, .ref a_t), (2, .int y2), (3, .int y3), (4, .int y4)] → fX5_behind_5 v_s ag5 v_pile y2 y3 y4 = some (rr, kk') → W p l e rX5_behind s m args below meth c H locs 0 0 (MQ below (q_Ri D rr A ((fun k : (Nat → Int32) => (wX5_behind cI cJ cZ cS a_t a_s a_keptS a_statuses a_pile a_tape a_steps a_wish a_mark a_bitsOf a_sizeOf a_number a_moved v_isKept v_taped v_at v_fault v_laid v_open v_s k)) kk')) args s 0 0 A) (F0 m 5 ls []) := by
  intro v_pile y2 y3 y4 H locs ls h hl hf
  have hx := fx.1
  have hb := fx.2.1
  unfold fX5_behind_5 at hf
  refine lv_iload hx hb dX5_behind_5 (lv_at hl 3 rfl) ?_
  refine lv_iload_n hx hb dX5_behind_7 rfl (lv_at hl 1 rfl) ?_
  refine lv_icmp_ge (tgt := 23) hx hb dX5_behind_8 (by decide) (fun c1 => ?_) (fun c1 => ?_)
  · have hf := it_t c1 hf
    refine lv_iload_n hx hb dX5_behind_23 rfl (lv_at hl 2 rfl) ?_
    exact q_reti (fun k : (Nat → Int32) => (wX5_behind cI cJ cZ cS a_t a_s a_keptS a_statuses a_pile a_tape a_steps a_wish a_mark a_bitsOf a_sizeOf a_number a_moved v_isKept v_taped v_at v_fault v_laid v_open v_s k)) fx hf h dX5_behind_24
  have hf := it_f c1 hf
  refine lv_aload_n hx hb dX5_behind_11 rfl (lv_at hl 0 rfl) ?_
  refine lv_iload_n hx hb dX5_behind_12 rfl (lv_at hl 2 rfl) ?_
  obtain ⟨r2, k2, hg, hf⟩ := bR_inv hf
  refine q_ci (rest := []) (ws' := (wX5_behind cI cJ cZ cS a_t a_s a_keptS a_statuses a_pile a_tape a_steps a_wish a_mark a_bitsOf a_sizeOf a_number a_moved v_isKept v_taped v_at v_fault v_laid v_open v_s k2)) (w1 := (wX5_would cI cJ cZ cS a_t a_s a_keptS a_statuses a_pile a_tape a_steps a_wish a_mark a_bitsOf a_sizeOf a_number a_moved v_isKept v_taped v_at v_fault v_laid v_open v_s k2)) fx h [0, 1, 2] rfl rfl rfl rfl (q_runV fx h hl.1 [0, 1, 2] rfl rfl (tX5_would l D cI cJ cZ cS tb a_t a_s a_keptS a_statuses a_pile a_tape a_steps a_wish a_mark a_bitsOf a_sizeOf a_number a_moved H.size v_isKept v_taped v_at v_fault v_laid v_open v_s v_pile y3 r2 k2 hg) mvX5_would k_818 ⟨rfl, rfl⟩ ⟨Nat.le_of_ble_eq_true rfl, Nat.le_of_ble_eq_true rfl⟩ rfl rfl rfl rfl (Nat.le_of_ble_eq_true rfl) dX5_behind_13 ⟨Nat.le_of_ble_eq_true rfl, Nat.le_of_ble_eq_true rfl⟩) (fun H locs h => ?_)
  refine lv_istore_n (lv' := [(3, .int r2), (0, .ref a_t), (2, .int y2), (4, .int y4)]) hx hb dX5_behind_16 rfl hl (by decide) rfl (fun ls hl => ?_)
  obtain ⟨u3, eu3, hf⟩ := nm_inv hf
  refine lv_iinc (v := u3) (lv' := [(4, .int u3), (3, .int r2), (0, .ref a_t), (2, .int y2)]) hx hb dX5_behind_17 hl (k := 3) rfl (by rw [eu3]; rfl) (by decide) rfl (fun ls hl => ?_)
  refine lv_goto (tgt := 5) hx hb dX5_behind_20 (by decide) ?_
  exact hag5 h (lv_sub hl [2, 3, 1, 0] rfl) hf
set_option maxRecDepth 100000 in
theorem EX5_behind_5 {p : Program} {l : Launch} {e : Env} {s : State} {m : MethodId} {args : Array Value} {below : List Frame} {meth : Method} {c : Code} {D : va_G} {cI cJ cZ cS : ClassId} {tb : Nat} {A : Nat → Prop} {a_t a_s a_keptS a_statuses a_pile a_tape a_steps a_wish a_mark a_bitsOf a_sizeOf a_number a_moved : Nat} {v_isKept : Int32} {v_taped : Int32} {v_at : Int32} {v_fault : Int32} {v_laid : Int32} {v_open : Int32} {v_s : Nat → Int32} {rr : Int32} {kk' : (Nat → Int32)} (fx : q_Fx p s m args meth c cX5_behind 5 RX5 (some .int) D cI cJ cZ cS tb A) : ∀ (n : Nat), ∀ {v_pile : Nat → Int32} {y2 : Int32} {y3 : Int32} {y4 : Int32} {H : Heap} {locs : List Loc} {ls : Array Slot}, q_H D A s (wX5_behind cI cJ cZ cS a_t a_s a_keptS a_statuses a_pile a_tape a_steps a_wish a_mark a_bitsOf a_sizeOf a_number a_moved v_isKept v_taped v_at v_fault v_laid v_open v_s v_pile) H locs → lv_has ls 5 [(0, .ref a_t), (2, .int y2), (3, .int y3), (4, .int y4)] → ll4 (fX5_behind_5 v_s) n v_pile y2 y3 y4 = some (rr, kk') → W p l e rX5_behind s m args below meth c H locs 0 0 (MQ below (q_Ri D rr A ((fun k : (Nat → Int32) => (wX5_behind cI cJ cZ cS a_t a_s a_keptS a_statuses a_pile a_tape a_steps a_wish a_mark a_bitsOf a_sizeOf a_number a_moved v_isKept v_taped v_at v_fault v_laid v_open v_s k)) kk')) args s 0 0 A) (F0 m 5 ls []) := by
  intro n
  induction n with
  | zero => intro v_pile y2 y3 y4 H locs ls h hl hf; exact (ll4_z hf).elim
  | succ n ih => intro v_pile y2 y3 y4 H locs ls h hl hf; exact LX5_behind_5 fx ih h hl (ll4_s hf)
def fX5_behind (v_s : Nat → Int32) (v_pile : Nat → Int32) (x1 : Int32) (x2 : Int32) : Option (Int32 × (Nat → Int32)) :=
  ll4 (fX5_behind_5 v_s) qF v_pile x2 x1 0
set_option maxRecDepth 100000 in
set_option maxHeartbeats 4000000 in
theorem tX5_behind (l : Launch) (D : va_G) (cI cJ cZ cS : ClassId) (tb : Nat) (a_t a_s a_keptS a_statuses a_pile a_tape a_steps a_wish a_mark a_bitsOf a_sizeOf a_number a_moved : Nat) (sz : Nat) (v_isKept : Int32) (v_taped : Int32) (v_at : Int32) (v_fault : Int32) (v_laid : Int32) (v_open : Int32) (v_s : Nat → Int32) (v_pile : Nat → Int32) (x1 : Int32) (x2 : Int32) (rr : Int32) (kk' : (Nat → Int32)) (hf : fX5_behind v_s v_pile x1 x2 = some (rr, kk')) : Met l yX5_behind (Cond.code yX5_behind cX5_behind 5 (some .int) :: wA) rX5_behind (q_Pre D cI cJ cZ cS tb [.ref a_t, .int x1, .int x2] sz (wX5_behind cI cJ cZ cS a_t a_s a_keptS a_statuses a_pile a_tape a_steps a_wish a_mark a_bitsOf a_sizeOf a_number a_moved v_isKept v_taped v_at v_fault v_laid v_open v_s v_pile)) (q_Ri D rr (va_A (wX5_behind cI cJ cZ cS a_t a_s a_keptS a_statuses a_pile a_tape a_steps a_wish a_mark a_bitsOf a_sizeOf a_number a_moved v_isKept v_taped v_at v_fault v_laid v_open v_s v_pile) sz) ((fun k : (Nat → Int32) => (wX5_behind cI cJ cZ cS a_t a_s a_keptS a_statuses a_pile a_tape a_steps a_wish a_mark a_bitsOf a_sizeOf a_number a_moved v_isKept v_taped v_at v_fault v_laid v_open v_s k)) kk')) 0 0 (va_A (wX5_behind cI cJ cZ cS a_t a_s a_keptS a_statuses a_pile a_tape a_steps a_wish a_mark a_bitsOf a_sizeOf a_number a_moved v_isKept v_taped v_at v_fault v_laid v_open v_s v_pile) sz) := by
  refine q_enter (Qf := fun A => (q_Ri D rr A ((fun k : (Nat → Int32) => (wX5_behind cI cJ cZ cS a_t a_s a_keptS a_statuses a_pile a_tape a_steps a_wish a_mark a_bitsOf a_sizeOf a_number a_moved v_isKept v_taped v_at v_fault v_laid v_open v_s k)) kk'))) (by decide) rfl (Nat.le_of_ble_eq_true rfl) ?_
  intro p e s m below meth c A ls fx hname h hl
  have hx := fx.1
  have hb := fx.2.1
  have hl : lv_has ls 5 [(0, .ref a_t), (1, .int x1), (2, .int x2)] := hl
  generalize h9 : s.heap = H at h ⊢
  clear h9
  generalize h9 : ([] : List Loc) = locs at h ⊢
  clear h9
  unfold fX5_behind at hf
  refine lv_iload_n hx hb dX5_behind_0 rfl (lv_at hl 1 rfl) ?_
  refine lv_istore_n (lv' := [(3, .int x1), (0, .ref a_t), (1, .int x1), (2, .int x2)]) hx hb dX5_behind_1 rfl hl (by decide) rfl (fun ls hl => ?_)
  refine lv_iconst (v := 0) hx hb dX5_behind_2 (by decide) ?_
  refine lv_istore (lv' := [(4, .int 0), (3, .int x1), (0, .ref a_t), (1, .int x1), (2, .int x2)]) hx hb dX5_behind_3 hl (by decide) rfl (fun ls hl => ?_)
  exact EX5_behind_5 fx qF h (lv_sub hl [2, 4, 1, 0] rfl) hf
/-! X5_rounds -/
abbrev wX5_rounds (cI cJ cZ cS : ClassId) (a_t a_s a_keptS a_statuses a_pile a_tape a_steps a_wish a_mark a_bitsOf a_sizeOf a_number a_moved : Nat) (v_isKept : Int32) (v_taped : Int32) (v_at : Int32) (v_fault : Int32) (v_laid : Int32) (v_open : Int32) (v_s : Nat → Int32) (v_statuses : Nat → Int32) (v_pile : Nat → Int32) : va_W := [(a_t, .inr (5, [.ref a_s, .ref a_keptS, .ref a_statuses, .int v_isKept, .ref a_pile, .ref a_tape, .ref a_steps, .int v_taped, .int v_at, .int v_fault, .int v_laid, .int v_open, .ref a_wish, .ref a_mark, .ref a_bitsOf, .ref a_sizeOf, .ref a_number, .ref a_moved])), (a_s, .inl (cI, 538, .inl v_s)), (a_statuses, .inl (cI, 7, .inl v_statuses)), (a_pile, .inl (cZ, 64, .inl v_pile))]
abbrev rX5_rounds : Room := { frames := 6, cells := 0, slots := 0, locals := 140 }
def fX5_rounds (v_s : Nat → Int32) (v_statuses : Nat → Int32) (v_pile : Nat → Int32) (x1 : Int32) : Option (Int32 × (Nat → Int32) × (Nat → Int32) × (Nat → Int32)) :=
  bR (fX5_in (x1.toInt64) 1 64) (fun r1 k1 =>
  (if r1 = 0 then (
  bR (fX5_finds v_statuses (-1000000001)) (fun r4 k4 =>
  some (r4, (v_s, k4, v_pile))))
  else (
  bR (fX5_behind v_s v_pile (v_s 1) x1) (fun r3 k3 =>
  some ((upd v_s 1 r3) 1, ((upd v_s 1 r3), v_statuses, k3))))))
set_option maxRecDepth 100000 in
set_option maxHeartbeats 4000000 in
theorem tX5_rounds (l : Launch) (D : va_G) (cI cJ cZ cS : ClassId) (tb : Nat) (a_t a_s a_keptS a_statuses a_pile a_tape a_steps a_wish a_mark a_bitsOf a_sizeOf a_number a_moved : Nat) (sz : Nat) (v_isKept : Int32) (v_taped : Int32) (v_at : Int32) (v_fault : Int32) (v_laid : Int32) (v_open : Int32) (v_s : Nat → Int32) (v_statuses : Nat → Int32) (v_pile : Nat → Int32) (x1 : Int32) (rr : Int32) (kk' : (Nat → Int32) × (Nat → Int32) × (Nat → Int32)) (hf : fX5_rounds v_s v_statuses v_pile x1 = some (rr, kk')) : Met l yX5_rounds (Cond.code yX5_rounds cX5_rounds 2 (some .int) :: wA) rX5_rounds (q_Pre D cI cJ cZ cS tb [.ref a_t, .int x1] sz (wX5_rounds cI cJ cZ cS a_t a_s a_keptS a_statuses a_pile a_tape a_steps a_wish a_mark a_bitsOf a_sizeOf a_number a_moved v_isKept v_taped v_at v_fault v_laid v_open v_s v_statuses v_pile)) (q_Ri D rr (va_A (wX5_rounds cI cJ cZ cS a_t a_s a_keptS a_statuses a_pile a_tape a_steps a_wish a_mark a_bitsOf a_sizeOf a_number a_moved v_isKept v_taped v_at v_fault v_laid v_open v_s v_statuses v_pile) sz) ((fun k : (Nat → Int32) × (Nat → Int32) × (Nat → Int32) => (wX5_rounds cI cJ cZ cS a_t a_s a_keptS a_statuses a_pile a_tape a_steps a_wish a_mark a_bitsOf a_sizeOf a_number a_moved v_isKept v_taped v_at v_fault v_laid v_open k.1 k.2.1 k.2.2)) kk')) 0 0 (va_A (wX5_rounds cI cJ cZ cS a_t a_s a_keptS a_statuses a_pile a_tape a_steps a_wish a_mark a_bitsOf a_sizeOf a_number a_moved v_isKept v_taped v_at v_fault v_laid v_open v_s v_statuses v_pile) sz) := by
  refine q_enter (Qf := fun A => (q_Ri D rr A ((fun k : (Nat → Int32) × (Nat → Int32) × (Nat → Int32) => (wX5_rounds cI cJ cZ cS a_t a_s a_keptS a_statuses a_pile a_tape a_steps a_wish a_mark a_bitsOf a_sizeOf a_number a_moved v_isKept v_taped v_at v_fault v_laid v_open k.1 k.2.1 k.2.2)) kk'))) (by decide) rfl (Nat.le_of_ble_eq_true rfl) ?_
  intro p e s m below meth c A ls fx hname h hl
  have hx := fx.1
  have hb := fx.2.1
  have hl : lv_has ls 2 [(0, .ref a_t), (1, .int x1)] := hl
  generalize h9 : s.heap = H at h ⊢
  clear h9
  generalize h9 : ([] : List Loc) = locs at h ⊢
  clear h9
  unfold fX5_rounds at hf
  refine lv_iload_n hx hb dX5_rounds_0 rfl (lv_at hl 1 rfl) ?_
  refine lv_i2l hx hb dX5_rounds_1 rfl ?_
  refine lv_lconst (v := 1) hx hb dX5_rounds_2 (by decide) ?_
  refine q_ldc2 fx k_847 dX5_rounds_3 ?_
  obtain ⟨r1, k1, hg, hf⟩ := bR_inv hf
  refine q_ci (rest := []) (ws' := (wX5_rounds cI cJ cZ cS a_t a_s a_keptS a_statuses a_pile a_tape a_steps a_wish a_mark a_bitsOf a_sizeOf a_number a_moved v_isKept v_taped v_at v_fault v_laid v_open v_s v_statuses v_pile)) (w1 := (wX5_in cI cJ cZ cS)) fx h [] rfl rfl rfl rfl (q_runS fx h hl.1 [] rfl rfl (tX5_in l D cI cJ cZ cS tb H.size (x1.toInt64) 1 64 r1 k1 hg) msX5_in k_697 ⟨rfl, rfl⟩ ⟨Nat.le_of_ble_eq_true rfl, Nat.le_of_ble_eq_true rfl⟩ rfl rfl (Nat.le_of_ble_eq_true rfl) dX5_rounds_6 ⟨Nat.le_of_ble_eq_true rfl, Nat.le_of_ble_eq_true rfl⟩) (fun H locs h => ?_)
  refine lv_if_ne (tgt := 19) hx hb dX5_rounds_9 (by decide) (fun c2 => ?_) (fun c2 => ?_)
  · have hf := it_f c2 hf
    refine lv_aload_n hx hb dX5_rounds_19 rfl (lv_at hl 0 rfl) ?_
    refine q_get (v := .ref a_s) fx inX5 h 0 rfl rfl 0 (by decide) k_636 rfl dX5_rounds_20 ?_
    refine lv_iconst (v := 1) hx hb dX5_rounds_23 (by decide) ?_
    refine lv_aload_n hx hb dX5_rounds_24 rfl (lv_at hl 0 rfl) ?_
    refine lv_aload_n hx hb dX5_rounds_25 rfl (lv_at hl 0 rfl) ?_
    refine q_get (v := .ref a_s) fx inX5 h 0 rfl rfl 0 (by decide) k_636 rfl dX5_rounds_26 ?_
    refine lv_iconst (v := 1) hx hb dX5_rounds_29 (by decide) ?_
    refine q_ialdK fx h 1 rfl 1 (vinK (by decide)) (by decide) dX5_rounds_30 ?_
    refine lv_iload_n hx hb dX5_rounds_31 rfl (lv_at hl 1 rfl) ?_
    obtain ⟨r3, k3, hg, hf⟩ := bR_inv hf
    refine q_ci (rest := [.int 1, .ref a_s]) (ws' := (wX5_rounds cI cJ cZ cS a_t a_s a_keptS a_statuses a_pile a_tape a_steps a_wish a_mark a_bitsOf a_sizeOf a_number a_moved v_isKept v_taped v_at v_fault v_laid v_open v_s v_statuses k3)) (w1 := (wX5_behind cI cJ cZ cS a_t a_s a_keptS a_statuses a_pile a_tape a_steps a_wish a_mark a_bitsOf a_sizeOf a_number a_moved v_isKept v_taped v_at v_fault v_laid v_open v_s k3)) fx h [0, 1, 3] rfl rfl rfl rfl (q_runV fx h hl.1 [0, 1, 3] rfl rfl (tX5_behind l D cI cJ cZ cS tb a_t a_s a_keptS a_statuses a_pile a_tape a_steps a_wish a_mark a_bitsOf a_sizeOf a_number a_moved H.size v_isKept v_taped v_at v_fault v_laid v_open v_s v_pile (v_s 1) x1 r3 k3 hg) mvX5_behind k_848 ⟨rfl, rfl⟩ ⟨Nat.le_of_ble_eq_true rfl, Nat.le_of_ble_eq_true rfl⟩ rfl rfl rfl rfl (Nat.le_of_ble_eq_true rfl) dX5_rounds_32 ⟨Nat.le_of_ble_eq_true rfl, Nat.le_of_ble_eq_true rfl⟩) (fun H locs h => ?_)
    refine q_iastK (ws' := (wX5_rounds cI cJ cZ cS a_t a_s a_keptS a_statuses a_pile a_tape a_steps a_wish a_mark a_bitsOf a_sizeOf a_number a_moved v_isKept v_taped v_at v_fault v_laid v_open (upd v_s 1 r3) v_statuses k3)) fx h 1 rfl 1 (vinK (by decide)) (by decide) rfl dX5_rounds_35 (fun H locs h => ?_)
    refine lv_aload_n hx hb dX5_rounds_36 rfl (lv_at hl 0 rfl) ?_
    refine q_get (v := .ref a_s) fx inX5 h 0 rfl rfl 0 (by decide) k_636 rfl dX5_rounds_37 ?_
    refine lv_iconst (v := 1) hx hb dX5_rounds_40 (by decide) ?_
    refine q_ialdK fx h 1 rfl 1 (vinK (by decide)) (by decide) dX5_rounds_41 ?_
    exact q_reti (fun k : (Nat → Int32) × (Nat → Int32) × (Nat → Int32) => (wX5_rounds cI cJ cZ cS a_t a_s a_keptS a_statuses a_pile a_tape a_steps a_wish a_mark a_bitsOf a_sizeOf a_number a_moved v_isKept v_taped v_at v_fault v_laid v_open k.1 k.2.1 k.2.2)) fx hf h dX5_rounds_42
  have hf := it_t c2 hf
  refine lv_aload_n hx hb dX5_rounds_12 rfl (lv_at hl 0 rfl) ?_
  refine q_ldc fx k_701 dX5_rounds_13 ?_
  obtain ⟨r4, k4, hg, hf⟩ := bR_inv hf
  refine q_ci (rest := []) (ws' := (wX5_rounds cI cJ cZ cS a_t a_s a_keptS a_statuses a_pile a_tape a_steps a_wish a_mark a_bitsOf a_sizeOf a_number a_moved v_isKept v_taped v_at v_fault v_laid v_open v_s k4 v_pile)) (w1 := (wX5_finds cI cJ cZ cS a_t a_s a_keptS a_statuses a_pile a_tape a_steps a_wish a_mark a_bitsOf a_sizeOf a_number a_moved v_isKept v_taped v_at v_fault v_laid v_open k4)) fx h [0, 2] rfl rfl rfl rfl (q_runV fx h hl.1 [0, 2] rfl rfl (tX5_finds l D cI cJ cZ cS tb a_t a_s a_keptS a_statuses a_pile a_tape a_steps a_wish a_mark a_bitsOf a_sizeOf a_number a_moved H.size v_isKept v_taped v_at v_fault v_laid v_open v_statuses (-1000000001) r4 k4 hg) mvX5_finds k_702 ⟨rfl, rfl⟩ ⟨Nat.le_of_ble_eq_true rfl, Nat.le_of_ble_eq_true rfl⟩ rfl rfl rfl rfl (Nat.le_of_ble_eq_true rfl) dX5_rounds_15 ⟨Nat.le_of_ble_eq_true rfl, Nat.le_of_ble_eq_true rfl⟩) (fun H locs h => ?_)
  exact q_reti (fun k : (Nat → Int32) × (Nat → Int32) × (Nat → Int32) => (wX5_rounds cI cJ cZ cS a_t a_s a_keptS a_statuses a_pile a_tape a_steps a_wish a_mark a_bitsOf a_sizeOf a_number a_moved v_isKept v_taped v_at v_fault v_laid v_open k.1 k.2.1 k.2.2)) fx hf h dX5_rounds_18
/-! X5_on -/
abbrev wX5_on (cI cJ cZ cS : ClassId) (a_t a_s a_keptS a_statuses a_pile a_tape a_steps a_wish a_mark a_bitsOf a_sizeOf a_number a_moved : Nat) (v_isKept : Int32) (v_taped : Int32) (v_at : Int32) (v_fault : Int32) (v_laid : Int32) (v_open : Int32) (v_s : Nat → Int32) (v_statuses : Nat → Int32) (v_pile : Nat → Int32) : va_W := [(a_t, .inr (5, [.ref a_s, .ref a_keptS, .ref a_statuses, .int v_isKept, .ref a_pile, .ref a_tape, .ref a_steps, .int v_taped, .int v_at, .int v_fault, .int v_laid, .int v_open, .ref a_wish, .ref a_mark, .ref a_bitsOf, .ref a_sizeOf, .ref a_number, .ref a_moved])), (a_s, .inl (cI, 538, .inl v_s)), (a_statuses, .inl (cI, 7, .inl v_statuses)), (a_pile, .inl (cZ, 64, .inl v_pile))]
abbrev rX5_on : Room := { frames := 6, cells := 0, slots := 0, locals := 140 }
def fX5_on (v_s : Nat → Int32) (v_statuses : Nat → Int32) (v_pile : Nat → Int32) (x1 : Int32) : Option (Int32 × (Nat → Int32) × (Nat → Int32)) :=
  bR (fX5_in (x1.toInt64) 0 64) (fun r1 k1 =>
  (if r1 = 0 then (
  bR (fX5_finds v_statuses (-1000000001)) (fun r3 k3 =>
  some (r3, (k3, v_pile))))
  else (
  bR (fX5_behind v_s v_pile (v_s 1) x1) (fun r4 k4 =>
  some (r4, (v_statuses, k4))))))
set_option maxRecDepth 100000 in
set_option maxHeartbeats 4000000 in
theorem tX5_on (l : Launch) (D : va_G) (cI cJ cZ cS : ClassId) (tb : Nat) (a_t a_s a_keptS a_statuses a_pile a_tape a_steps a_wish a_mark a_bitsOf a_sizeOf a_number a_moved : Nat) (sz : Nat) (v_isKept : Int32) (v_taped : Int32) (v_at : Int32) (v_fault : Int32) (v_laid : Int32) (v_open : Int32) (v_s : Nat → Int32) (v_statuses : Nat → Int32) (v_pile : Nat → Int32) (x1 : Int32) (rr : Int32) (kk' : (Nat → Int32) × (Nat → Int32)) (hf : fX5_on v_s v_statuses v_pile x1 = some (rr, kk')) : Met l yX5_on (Cond.code yX5_on cX5_on 2 (some .int) :: wA) rX5_on (q_Pre D cI cJ cZ cS tb [.ref a_t, .int x1] sz (wX5_on cI cJ cZ cS a_t a_s a_keptS a_statuses a_pile a_tape a_steps a_wish a_mark a_bitsOf a_sizeOf a_number a_moved v_isKept v_taped v_at v_fault v_laid v_open v_s v_statuses v_pile)) (q_Ri D rr (va_A (wX5_on cI cJ cZ cS a_t a_s a_keptS a_statuses a_pile a_tape a_steps a_wish a_mark a_bitsOf a_sizeOf a_number a_moved v_isKept v_taped v_at v_fault v_laid v_open v_s v_statuses v_pile) sz) ((fun k : (Nat → Int32) × (Nat → Int32) => (wX5_on cI cJ cZ cS a_t a_s a_keptS a_statuses a_pile a_tape a_steps a_wish a_mark a_bitsOf a_sizeOf a_number a_moved v_isKept v_taped v_at v_fault v_laid v_open v_s k.1 k.2)) kk')) 0 0 (va_A (wX5_on cI cJ cZ cS a_t a_s a_keptS a_statuses a_pile a_tape a_steps a_wish a_mark a_bitsOf a_sizeOf a_number a_moved v_isKept v_taped v_at v_fault v_laid v_open v_s v_statuses v_pile) sz) := by
  refine q_enter (Qf := fun A => (q_Ri D rr A ((fun k : (Nat → Int32) × (Nat → Int32) => (wX5_on cI cJ cZ cS a_t a_s a_keptS a_statuses a_pile a_tape a_steps a_wish a_mark a_bitsOf a_sizeOf a_number a_moved v_isKept v_taped v_at v_fault v_laid v_open v_s k.1 k.2)) kk'))) (by decide) rfl (Nat.le_of_ble_eq_true rfl) ?_
  intro p e s m below meth c A ls fx hname h hl
  have hx := fx.1
  have hb := fx.2.1
  have hl : lv_has ls 2 [(0, .ref a_t), (1, .int x1)] := hl
  generalize h9 : s.heap = H at h ⊢
  clear h9
  generalize h9 : ([] : List Loc) = locs at h ⊢
  clear h9
  unfold fX5_on at hf
  refine lv_iload_n hx hb dX5_on_0 rfl (lv_at hl 1 rfl) ?_
  refine lv_i2l hx hb dX5_on_1 rfl ?_
  refine lv_lconst (v := 0) hx hb dX5_on_2 (by decide) ?_
  refine q_ldc2 fx k_847 dX5_on_3 ?_
  obtain ⟨r1, k1, hg, hf⟩ := bR_inv hf
  refine q_ci (rest := []) (ws' := (wX5_on cI cJ cZ cS a_t a_s a_keptS a_statuses a_pile a_tape a_steps a_wish a_mark a_bitsOf a_sizeOf a_number a_moved v_isKept v_taped v_at v_fault v_laid v_open v_s v_statuses v_pile)) (w1 := (wX5_in cI cJ cZ cS)) fx h [] rfl rfl rfl rfl (q_runS fx h hl.1 [] rfl rfl (tX5_in l D cI cJ cZ cS tb H.size (x1.toInt64) 0 64 r1 k1 hg) msX5_in k_697 ⟨rfl, rfl⟩ ⟨Nat.le_of_ble_eq_true rfl, Nat.le_of_ble_eq_true rfl⟩ rfl rfl (Nat.le_of_ble_eq_true rfl) dX5_on_6 ⟨Nat.le_of_ble_eq_true rfl, Nat.le_of_ble_eq_true rfl⟩) (fun H locs h => ?_)
  refine lv_if_eq (tgt := 26) hx hb dX5_on_9 (by decide) (fun c2 => ?_) (fun c2 => ?_)
  · have hf := it_t c2 hf
    refine lv_aload_n hx hb dX5_on_26 rfl (lv_at hl 0 rfl) ?_
    refine q_ldc fx k_701 dX5_on_27 ?_
    obtain ⟨r3, k3, hg, hf⟩ := bR_inv hf
    refine q_ci (rest := []) (ws' := (wX5_on cI cJ cZ cS a_t a_s a_keptS a_statuses a_pile a_tape a_steps a_wish a_mark a_bitsOf a_sizeOf a_number a_moved v_isKept v_taped v_at v_fault v_laid v_open v_s k3 v_pile)) (w1 := (wX5_finds cI cJ cZ cS a_t a_s a_keptS a_statuses a_pile a_tape a_steps a_wish a_mark a_bitsOf a_sizeOf a_number a_moved v_isKept v_taped v_at v_fault v_laid v_open k3)) fx h [0, 2] rfl rfl rfl rfl (q_runV fx h hl.1 [0, 2] rfl rfl (tX5_finds l D cI cJ cZ cS tb a_t a_s a_keptS a_statuses a_pile a_tape a_steps a_wish a_mark a_bitsOf a_sizeOf a_number a_moved H.size v_isKept v_taped v_at v_fault v_laid v_open v_statuses (-1000000001) r3 k3 hg) mvX5_finds k_702 ⟨rfl, rfl⟩ ⟨Nat.le_of_ble_eq_true rfl, Nat.le_of_ble_eq_true rfl⟩ rfl rfl rfl rfl (Nat.le_of_ble_eq_true rfl) dX5_on_29 ⟨Nat.le_of_ble_eq_true rfl, Nat.le_of_ble_eq_true rfl⟩) (fun H locs h => ?_)
    exact q_reti (fun k : (Nat → Int32) × (Nat → Int32) => (wX5_on cI cJ cZ cS a_t a_s a_keptS a_statuses a_pile a_tape a_steps a_wish a_mark a_bitsOf a_sizeOf a_number a_moved v_isKept v_taped v_at v_fault v_laid v_open v_s k.1 k.2)) fx hf h dX5_on_32
  have hf := it_f c2 hf
  refine lv_aload_n hx hb dX5_on_12 rfl (lv_at hl 0 rfl) ?_
  refine lv_aload_n hx hb dX5_on_13 rfl (lv_at hl 0 rfl) ?_
  refine q_get (v := .ref a_s) fx inX5 h 0 rfl rfl 0 (by decide) k_636 rfl dX5_on_14 ?_
  refine lv_iconst (v := 1) hx hb dX5_on_17 (by decide) ?_
  refine q_ialdK fx h 1 rfl 1 (vinK (by decide)) (by decide) dX5_on_18 ?_
  refine lv_iload_n hx hb dX5_on_19 rfl (lv_at hl 1 rfl) ?_
  obtain ⟨r4, k4, hg, hf⟩ := bR_inv hf
  refine q_ci (rest := []) (ws' := (wX5_on cI cJ cZ cS a_t a_s a_keptS a_statuses a_pile a_tape a_steps a_wish a_mark a_bitsOf a_sizeOf a_number a_moved v_isKept v_taped v_at v_fault v_laid v_open v_s v_statuses k4)) (w1 := (wX5_behind cI cJ cZ cS a_t a_s a_keptS a_statuses a_pile a_tape a_steps a_wish a_mark a_bitsOf a_sizeOf a_number a_moved v_isKept v_taped v_at v_fault v_laid v_open v_s k4)) fx h [0, 1, 3] rfl rfl rfl rfl (q_runV fx h hl.1 [0, 1, 3] rfl rfl (tX5_behind l D cI cJ cZ cS tb a_t a_s a_keptS a_statuses a_pile a_tape a_steps a_wish a_mark a_bitsOf a_sizeOf a_number a_moved H.size v_isKept v_taped v_at v_fault v_laid v_open v_s v_pile (v_s 1) x1 r4 k4 hg) mvX5_behind k_848 ⟨rfl, rfl⟩ ⟨Nat.le_of_ble_eq_true rfl, Nat.le_of_ble_eq_true rfl⟩ rfl rfl rfl rfl (Nat.le_of_ble_eq_true rfl) dX5_on_20 ⟨Nat.le_of_ble_eq_true rfl, Nat.le_of_ble_eq_true rfl⟩) (fun H locs h => ?_)
  refine lv_goto (tgt := 32) hx hb dX5_on_23 (by decide) ?_
  exact q_reti (fun k : (Nat → Int32) × (Nat → Int32) => (wX5_on cI cJ cZ cS a_t a_s a_keptS a_statuses a_pile a_tape a_steps a_wish a_mark a_bitsOf a_sizeOf a_number a_moved v_isKept v_taped v_at v_fault v_laid v_open v_s k.1 k.2)) fx hf h dX5_on_32
/-! X5_looksAll -/
abbrev wX5_looksAll (cI cJ cZ cS : ClassId) (a_t a_s a_keptS a_statuses a_pile a_tape a_steps a_wish a_mark a_bitsOf a_sizeOf a_number a_moved : Nat) (v_isKept : Int32) (v_taped : Int32) (v_at : Int32) (v_fault : Int32) (v_laid : Int32) (v_open : Int32) (v_s : Nat → Int32) (v_pile : Nat → Int32) (v_wish : Nat → Int32) : va_W := [(a_t, .inr (5, [.ref a_s, .ref a_keptS, .ref a_statuses, .int v_isKept, .ref a_pile, .ref a_tape, .ref a_steps, .int v_taped, .int v_at, .int v_fault, .int v_laid, .int v_open, .ref a_wish, .ref a_mark, .ref a_bitsOf, .ref a_sizeOf, .ref a_number, .ref a_moved])), (a_s, .inl (cI, 538, .inl v_s)), (a_pile, .inl (cZ, 64, .inl v_pile)), (a_wish, .inl (cI, 256, .inl v_wish))]
abbrev rX5_looksAll : Room := { frames := 5, cells := 0, slots := 0, locals := 116 }
def fX5_looksAll_2 (v_s : Nat → Int32) (ag2 : (Nat → Int32) → (Nat → Int32) → Int32 → Option ((Nat → Int32) × (Nat → Int32))) (v_pile : Nat → Int32) (v_wish : Nat → Int32) (y1 : Int32) : Option ((Nat → Int32) × (Nat → Int32)) :=
  bR (fX5_lists v_s) (fun r1 k1 =>
  (if r1 ≤ y1 then (
  some (v_pile, v_wish))
  else (
  bR (fX5_would v_s v_pile y1) (fun r3 k3 =>
  gIn y1 256 (
  nm (y1 + 1) (fun u5 =>
  ag2 k3 (upd v_wish y1.toNatClampNeg r3) u5))))))
set_option maxRecDepth 100000 in
set_option maxHeartbeats 4000000 in
theorem LX5_looksAll_2 {p : Program} {l : Launch} {e : Env} {s : State} {m : MethodId} {args : Array Value} {below : List Frame} {meth : Method} {c : Code} {D : va_G} {cI cJ cZ cS : ClassId} {tb : Nat} {A : Nat → Prop} {a_t a_s a_keptS a_statuses a_pile a_tape a_steps a_wish a_mark a_bitsOf a_sizeOf a_number a_moved : Nat} {v_isKept : Int32} {v_taped : Int32} {v_at : Int32} {v_fault : Int32} {v_laid : Int32} {v_open : Int32} {v_s : Nat → Int32} {kk' : (Nat → Int32) × (Nat → Int32)} (fx : q_Fx p s m args meth c cX5_looksAll 2 RX5 none D cI cJ cZ cS tb A) {ag2 : (Nat → Int32) → (Nat → Int32) → Int32 → Option ((Nat → Int32) × (Nat → Int32))} (hag2 : ∀ {v_pile : Nat → Int32} {v_wish : Nat → Int32} {y1 : Int32} {H : Heap} {locs : List Loc} {ls : Array Slot}, q_H D A s (wX5_looksAll cI cJ cZ cS a_t a_s a_keptS a_statuses a_pile a_tape a_steps a_wish a_mark a_bitsOf a_sizeOf a_number a_moved v_isKept v_taped v_at v_fault v_laid v_open v_s v_pile v_wish) H locs → lv_has ls 2 [(0, .ref a_t), (1, .int y1)] → ag2 v_pile v_wish y1 = some kk' → W p l e rX5_looksAll s m args below meth c H locs 0 0 (MQ below (q_Rv D A ((fun k : (Nat → Int32) × (Nat → Int32) => (wX5_looksAll cI cJ cZ cS a_t a_s a_keptS a_statuses a_pile a_tape a_steps a_wish a_mark a_bitsOf a_sizeOf a_number a_moved v_isKept v_taped v_at v_fault v_laid v_open v_s k.1 k.2)) kk')) args s 0 0 A) (F0 m 2 ls [])) : ∀ {v_pile : Nat → Int32} {v_wish : Nat → Int32} {y1 : Int32} {H : Heap} {locs : List Loc} {ls : Array Slot}, q_H D A s (wX5_looksAll cI cJ cZ cS a_t a_s a_keptS a_statuses a_pile a_tape a_steps a_wish a_mark a_bitsOf a_sizeOf a_number a_moved v_isKept v_taped v_at v_fault v_laid v_open v_s v_pile v_wish) H locs → lv_has ls 2 [(0, .ref a_t), (1, .int y1)] → fX5_looksAll_2 v_s ag2 v_pile v_wish y1 = some kk' → W p l e rX5_looksAll s m args below meth c H locs 0 0 (MQ below (q_Rv D A ((fun k : (Nat → Int32) × (Nat → Int32) => (wX5_looksAll cI cJ cZ cS a_t a_s a_keptS a_statuses a_pile a_tape a_steps a_wish a_mark a_bitsOf a_sizeOf a_number a_moved v_isKept v_taped v_at v_fault v_laid v_open v_s k.1 k.2)) kk')) args s 0 0 A) (F0 m 2 ls []) := by
  intro v_pile v_wish y1 H locs ls h hl hf
  have hx := fx.1
  have hb := fx.2.1
  unfold fX5_looksAll_2 at hf
  refine lv_iload_n hx hb dX5_looksAll_2 rfl (lv_at hl 1 rfl) ?_
  refine lv_aload_n hx hb dX5_looksAll_3 rfl (lv_at hl 0 rfl) ?_
  obtain ⟨r1, k1, hg, hf⟩ := bR_inv hf
  refine q_ci (rest := [.int y1]) (ws' := (wX5_looksAll cI cJ cZ cS a_t a_s a_keptS a_statuses a_pile a_tape a_steps a_wish a_mark a_bitsOf a_sizeOf a_number a_moved v_isKept v_taped v_at v_fault v_laid v_open v_s v_pile v_wish)) (w1 := (wX5_lists cI cJ cZ cS a_t a_s a_keptS a_statuses a_pile a_tape a_steps a_wish a_mark a_bitsOf a_sizeOf a_number a_moved v_isKept v_taped v_at v_fault v_laid v_open v_s)) fx h [0, 1] rfl rfl rfl rfl (q_runV fx h hl.1 [0, 1] rfl rfl (tX5_lists l D cI cJ cZ cS tb a_t a_s a_keptS a_statuses a_pile a_tape a_steps a_wish a_mark a_bitsOf a_sizeOf a_number a_moved H.size v_isKept v_taped v_at v_fault v_laid v_open v_s r1 k1 hg) mvX5_lists k_810 ⟨rfl, rfl⟩ ⟨Nat.le_of_ble_eq_true rfl, Nat.le_of_ble_eq_true rfl⟩ rfl rfl rfl rfl (Nat.le_of_ble_eq_true rfl) dX5_looksAll_4 ⟨Nat.le_of_ble_eq_true rfl, Nat.le_of_ble_eq_true rfl⟩) (fun H locs h => ?_)
  refine lv_icmp_ge (tgt := 27) hx hb dX5_looksAll_7 (by decide) (fun c2 => ?_) (fun c2 => ?_)
  · have hf := it_t c2 hf
    exact q_retv (fun k : (Nat → Int32) × (Nat → Int32) => (wX5_looksAll cI cJ cZ cS a_t a_s a_keptS a_statuses a_pile a_tape a_steps a_wish a_mark a_bitsOf a_sizeOf a_number a_moved v_isKept v_taped v_at v_fault v_laid v_open v_s k.1 k.2)) fx hf h dX5_looksAll_27
  have hf := it_f c2 hf
  refine lv_aload_n hx hb dX5_looksAll_10 rfl (lv_at hl 0 rfl) ?_
  refine q_get (v := .ref a_wish) fx inX5 h 0 rfl rfl 12 (by decide) k_648 rfl dX5_looksAll_11 ?_
  refine lv_iload_n hx hb dX5_looksAll_14 rfl (lv_at hl 1 rfl) ?_
  refine lv_aload_n hx hb dX5_looksAll_15 rfl (lv_at hl 0 rfl) ?_
  refine lv_iload_n hx hb dX5_looksAll_16 rfl (lv_at hl 1 rfl) ?_
  obtain ⟨r3, k3, hg, hf⟩ := bR_inv hf
  refine q_ci (rest := [.int y1, .ref a_wish]) (ws' := (wX5_looksAll cI cJ cZ cS a_t a_s a_keptS a_statuses a_pile a_tape a_steps a_wish a_mark a_bitsOf a_sizeOf a_number a_moved v_isKept v_taped v_at v_fault v_laid v_open v_s k3 v_wish)) (w1 := (wX5_would cI cJ cZ cS a_t a_s a_keptS a_statuses a_pile a_tape a_steps a_wish a_mark a_bitsOf a_sizeOf a_number a_moved v_isKept v_taped v_at v_fault v_laid v_open v_s k3)) fx h [0, 1, 2] rfl rfl rfl rfl (q_runV fx h hl.1 [0, 1, 2] rfl rfl (tX5_would l D cI cJ cZ cS tb a_t a_s a_keptS a_statuses a_pile a_tape a_steps a_wish a_mark a_bitsOf a_sizeOf a_number a_moved H.size v_isKept v_taped v_at v_fault v_laid v_open v_s v_pile y1 r3 k3 hg) mvX5_would k_818 ⟨rfl, rfl⟩ ⟨Nat.le_of_ble_eq_true rfl, Nat.le_of_ble_eq_true rfl⟩ rfl rfl rfl rfl (Nat.le_of_ble_eq_true rfl) dX5_looksAll_17 ⟨Nat.le_of_ble_eq_true rfl, Nat.le_of_ble_eq_true rfl⟩) (fun H locs h => ?_)
  obtain ⟨i4, hf⟩ := gIn_inv hf
  refine q_iast (ws' := (wX5_looksAll cI cJ cZ cS a_t a_s a_keptS a_statuses a_pile a_tape a_steps a_wish a_mark a_bitsOf a_sizeOf a_number a_moved v_isKept v_taped v_at v_fault v_laid v_open v_s k3 (upd v_wish y1.toNatClampNeg r3))) fx h 3 rfl i4 rfl dX5_looksAll_20 (fun H locs h => ?_)
  obtain ⟨u5, eu5, hf⟩ := nm_inv hf
  refine lv_iinc (v := u5) (lv' := [(1, .int u5), (0, .ref a_t)]) hx hb dX5_looksAll_21 hl (k := 1) rfl (by rw [eu5]; rfl) (by decide) rfl (fun ls hl => ?_)
  refine lv_goto (tgt := 2) hx hb dX5_looksAll_24 (by decide) ?_
  exact hag2 h (lv_sub hl [1, 0] rfl) hf
set_option maxRecDepth 100000 in
theorem EX5_looksAll_2 {p : Program} {l : Launch} {e : Env} {s : State} {m : MethodId} {args : Array Value} {below : List Frame} {meth : Method} {c : Code} {D : va_G} {cI cJ cZ cS : ClassId} {tb : Nat} {A : Nat → Prop} {a_t a_s a_keptS a_statuses a_pile a_tape a_steps a_wish a_mark a_bitsOf a_sizeOf a_number a_moved : Nat} {v_isKept : Int32} {v_taped : Int32} {v_at : Int32} {v_fault : Int32} {v_laid : Int32} {v_open : Int32} {v_s : Nat → Int32} {kk' : (Nat → Int32) × (Nat → Int32)} (fx : q_Fx p s m args meth c cX5_looksAll 2 RX5 none D cI cJ cZ cS tb A) : ∀ (n : Nat), ∀ {v_pile : Nat → Int32} {v_wish : Nat → Int32} {y1 : Int32} {H : Heap} {locs : List Loc} {ls : Array Slot}, q_H D A s (wX5_looksAll cI cJ cZ cS a_t a_s a_keptS a_statuses a_pile a_tape a_steps a_wish a_mark a_bitsOf a_sizeOf a_number a_moved v_isKept v_taped v_at v_fault v_laid v_open v_s v_pile v_wish) H locs → lv_has ls 2 [(0, .ref a_t), (1, .int y1)] → ll3 (fX5_looksAll_2 v_s) n v_pile v_wish y1 = some kk' → W p l e rX5_looksAll s m args below meth c H locs 0 0 (MQ below (q_Rv D A ((fun k : (Nat → Int32) × (Nat → Int32) => (wX5_looksAll cI cJ cZ cS a_t a_s a_keptS a_statuses a_pile a_tape a_steps a_wish a_mark a_bitsOf a_sizeOf a_number a_moved v_isKept v_taped v_at v_fault v_laid v_open v_s k.1 k.2)) kk')) args s 0 0 A) (F0 m 2 ls []) := by
  intro n
  induction n with
  | zero => intro v_pile v_wish y1 H locs ls h hl hf; exact (ll3_z hf).elim
  | succ n ih => intro v_pile v_wish y1 H locs ls h hl hf; exact LX5_looksAll_2 fx ih h hl (ll3_s hf)
def fX5_looksAll (v_s : Nat → Int32) (v_pile : Nat → Int32) (v_wish : Nat → Int32) : Option ((Nat → Int32) × (Nat → Int32)) :=
  ll3 (fX5_looksAll_2 v_s) qF v_pile v_wish 0
set_option maxRecDepth 100000 in
set_option maxHeartbeats 4000000 in
theorem tX5_looksAll (l : Launch) (D : va_G) (cI cJ cZ cS : ClassId) (tb : Nat) (a_t a_s a_keptS a_statuses a_pile a_tape a_steps a_wish a_mark a_bitsOf a_sizeOf a_number a_moved : Nat) (sz : Nat) (v_isKept : Int32) (v_taped : Int32) (v_at : Int32) (v_fault : Int32) (v_laid : Int32) (v_open : Int32) (v_s : Nat → Int32) (v_pile : Nat → Int32) (v_wish : Nat → Int32) (kk' : (Nat → Int32) × (Nat → Int32)) (hf : fX5_looksAll v_s v_pile v_wish = some kk') : Met l yX5_looksAll (Cond.code yX5_looksAll cX5_looksAll 2 none :: wA) rX5_looksAll (q_Pre D cI cJ cZ cS tb [.ref a_t] sz (wX5_looksAll cI cJ cZ cS a_t a_s a_keptS a_statuses a_pile a_tape a_steps a_wish a_mark a_bitsOf a_sizeOf a_number a_moved v_isKept v_taped v_at v_fault v_laid v_open v_s v_pile v_wish)) (q_Rv D (va_A (wX5_looksAll cI cJ cZ cS a_t a_s a_keptS a_statuses a_pile a_tape a_steps a_wish a_mark a_bitsOf a_sizeOf a_number a_moved v_isKept v_taped v_at v_fault v_laid v_open v_s v_pile v_wish) sz) ((fun k : (Nat → Int32) × (Nat → Int32) => (wX5_looksAll cI cJ cZ cS a_t a_s a_keptS a_statuses a_pile a_tape a_steps a_wish a_mark a_bitsOf a_sizeOf a_number a_moved v_isKept v_taped v_at v_fault v_laid v_open v_s k.1 k.2)) kk')) 0 0 (va_A (wX5_looksAll cI cJ cZ cS a_t a_s a_keptS a_statuses a_pile a_tape a_steps a_wish a_mark a_bitsOf a_sizeOf a_number a_moved v_isKept v_taped v_at v_fault v_laid v_open v_s v_pile v_wish) sz) := by
  refine q_enter (Qf := fun A => (q_Rv D A ((fun k : (Nat → Int32) × (Nat → Int32) => (wX5_looksAll cI cJ cZ cS a_t a_s a_keptS a_statuses a_pile a_tape a_steps a_wish a_mark a_bitsOf a_sizeOf a_number a_moved v_isKept v_taped v_at v_fault v_laid v_open v_s k.1 k.2)) kk'))) (by decide) rfl (Nat.le_of_ble_eq_true rfl) ?_
  intro p e s m below meth c A ls fx hname h hl
  have hx := fx.1
  have hb := fx.2.1
  have hl : lv_has ls 2 [(0, .ref a_t)] := hl
  generalize h9 : s.heap = H at h ⊢
  clear h9
  generalize h9 : ([] : List Loc) = locs at h ⊢
  clear h9
  unfold fX5_looksAll at hf
  refine lv_iconst (v := 0) hx hb dX5_looksAll_0 (by decide) ?_
  refine lv_istore_n (lv' := [(1, .int 0), (0, .ref a_t)]) hx hb dX5_looksAll_1 rfl hl (by decide) rfl (fun ls hl => ?_)
  exact EX5_looksAll_2 fx qF h (lv_sub hl [1, 0] rfl) hf
/-! X5_when -/
abbrev wX5_when (cI cJ cZ cS : ClassId) (a_t a_s a_keptS a_statuses a_pile a_tape a_steps a_wish a_mark a_bitsOf a_sizeOf a_number a_moved : Nat) (v_isKept : Int32) (v_taped : Int32) (v_at : Int32) (v_fault : Int32) (v_laid : Int32) (v_open : Int32) (v_s : Nat → Int32) (v_statuses : Nat → Int32) (v_pile : Nat → Int32) (v_wish : Nat → Int32) : va_W := [(a_t, .inr (5, [.ref a_s, .ref a_keptS, .ref a_statuses, .int v_isKept, .ref a_pile, .ref a_tape, .ref a_steps, .int v_taped, .int v_at, .int v_fault, .int v_laid, .int v_open, .ref a_wish, .ref a_mark, .ref a_bitsOf, .ref a_sizeOf, .ref a_number, .ref a_moved])), (a_s, .inl (cI, 538, .inl v_s)), (a_statuses, .inl (cI, 7, .inl v_statuses)), (a_pile, .inl (cZ, 64, .inl v_pile)), (a_wish, .inl (cI, 256, .inl v_wish))]
abbrev rX5_when : Room := { frames := 6, cells := 0, slots := 0, locals := 137 }
def fX5_when_43 (v_s : Nat → Int32) (v_statuses : Nat → Int32) (v_pile : Nat → Int32) (v_wish : Nat → Int32) (y1 : Int32) (y2 : Int32) : Option (Int32 × (Nat → Int32) × (Nat → Int32) × (Nat → Int32)) :=
  gIn y1 256 (
  (if (v_wish y1.toNatClampNeg) = y1 then (
  some (y2, (v_statuses, v_pile, v_wish)))
  else (
  bR (fX5_finds v_statuses (-1000000004)) (fun r3 k3 =>
  some (r3, (k3, v_pile, v_wish))))))
set_option maxRecDepth 100000 in
set_option maxHeartbeats 4000000 in
theorem LX5_when_43 {p : Program} {l : Launch} {e : Env} {s : State} {m : MethodId} {args : Array Value} {below : List Frame} {meth : Method} {c : Code} {D : va_G} {cI cJ cZ cS : ClassId} {tb : Nat} {A : Nat → Prop} {a_t a_s a_keptS a_statuses a_pile a_tape a_steps a_wish a_mark a_bitsOf a_sizeOf a_number a_moved : Nat} {v_isKept : Int32} {v_taped : Int32} {v_at : Int32} {v_fault : Int32} {v_laid : Int32} {v_open : Int32} {v_s : Nat → Int32} {rr : Int32} {kk' : (Nat → Int32) × (Nat → Int32) × (Nat → Int32)} (fx : q_Fx p s m args meth c cX5_when 3 RX5 (some .int) D cI cJ cZ cS tb A) : ∀ {v_statuses : Nat → Int32} {v_pile : Nat → Int32} {v_wish : Nat → Int32} {y1 : Int32} {y2 : Int32} {H : Heap} {locs : List Loc} {ls : Array Slot}, q_H D A s (wX5_when cI cJ cZ cS a_t a_s a_keptS a_statuses a_pile a_tape a_steps a_wish a_mark a_bitsOf a_sizeOf a_number a_moved v_isKept v_taped v_at v_fault v_laid v_open v_s v_statuses v_pile v_wish) H locs → lv_has ls 3 [(0, .ref a_t), (1, .int y1), (2, .int y2)] → fX5_when_43 v_s v_statuses v_pile v_wish y1 y2 = some (rr, kk') → W p l e rX5_when s m args below meth c H locs 0 0 (MQ below (q_Ri D rr A ((fun k : (Nat → Int32) × (Nat → Int32) × (Nat → Int32) => (wX5_when cI cJ cZ cS a_t a_s a_keptS a_statuses a_pile a_tape a_steps a_wish a_mark a_bitsOf a_sizeOf a_number a_moved v_isKept v_taped v_at v_fault v_laid v_open v_s k.1 k.2.1 k.2.2)) kk')) args s 0 0 A) (F0 m 43 ls []) := by
  intro v_statuses v_pile v_wish y1 y2 H locs ls h hl hf
  have hx := fx.1
  have hb := fx.2.1
  unfold fX5_when_43 at hf
  refine lv_aload_n hx hb dX5_when_43 rfl (lv_at hl 0 rfl) ?_
  refine q_get (v := .ref a_wish) fx inX5 h 0 rfl rfl 12 (by decide) k_648 rfl dX5_when_44 ?_
  refine lv_iload_n hx hb dX5_when_47 rfl (lv_at hl 1 rfl) ?_
  obtain ⟨i1, hf⟩ := gIn_inv hf
  refine q_iald fx h 4 rfl i1 dX5_when_48 ?_
  refine lv_iload_n hx hb dX5_when_49 rfl (lv_at hl 1 rfl) ?_
  refine lv_icmp_ne (tgt := 57) hx hb dX5_when_50 (by decide) (fun c2 => ?_) (fun c2 => ?_)
  · have hf := it_f c2 hf
    refine lv_aload_n hx hb dX5_when_57 rfl (lv_at hl 0 rfl) ?_
    refine q_ldc fx k_864 dX5_when_58 ?_
    obtain ⟨r3, k3, hg, hf⟩ := bR_inv hf
    refine q_ci (rest := []) (ws' := (wX5_when cI cJ cZ cS a_t a_s a_keptS a_statuses a_pile a_tape a_steps a_wish a_mark a_bitsOf a_sizeOf a_number a_moved v_isKept v_taped v_at v_fault v_laid v_open v_s k3 v_pile v_wish)) (w1 := (wX5_finds cI cJ cZ cS a_t a_s a_keptS a_statuses a_pile a_tape a_steps a_wish a_mark a_bitsOf a_sizeOf a_number a_moved v_isKept v_taped v_at v_fault v_laid v_open k3)) fx h [0, 2] rfl rfl rfl rfl (q_runV fx h hl.1 [0, 2] rfl rfl (tX5_finds l D cI cJ cZ cS tb a_t a_s a_keptS a_statuses a_pile a_tape a_steps a_wish a_mark a_bitsOf a_sizeOf a_number a_moved H.size v_isKept v_taped v_at v_fault v_laid v_open v_statuses (-1000000004) r3 k3 hg) mvX5_finds k_702 ⟨rfl, rfl⟩ ⟨Nat.le_of_ble_eq_true rfl, Nat.le_of_ble_eq_true rfl⟩ rfl rfl rfl rfl (Nat.le_of_ble_eq_true rfl) dX5_when_60 ⟨Nat.le_of_ble_eq_true rfl, Nat.le_of_ble_eq_true rfl⟩) (fun H locs h => ?_)
    exact q_reti (fun k : (Nat → Int32) × (Nat → Int32) × (Nat → Int32) => (wX5_when cI cJ cZ cS a_t a_s a_keptS a_statuses a_pile a_tape a_steps a_wish a_mark a_bitsOf a_sizeOf a_number a_moved v_isKept v_taped v_at v_fault v_laid v_open v_s k.1 k.2.1 k.2.2)) fx hf h dX5_when_63
  have hf := it_t c2 hf
  refine lv_iload_n hx hb dX5_when_53 rfl (lv_at hl 2 rfl) ?_
  refine lv_goto (tgt := 63) hx hb dX5_when_54 (by decide) ?_
  exact q_reti (fun k : (Nat → Int32) × (Nat → Int32) × (Nat → Int32) => (wX5_when cI cJ cZ cS a_t a_s a_keptS a_statuses a_pile a_tape a_steps a_wish a_mark a_bitsOf a_sizeOf a_number a_moved v_isKept v_taped v_at v_fault v_laid v_open v_s k.1 k.2.1 k.2.2)) fx hf h dX5_when_63
def fX5_when_13 (v_s : Nat → Int32) (ag13 : (Nat → Int32) → (Nat → Int32) → (Nat → Int32) → Int32 → Int32 → Option (Int32 × (Nat → Int32) × (Nat → Int32) × (Nat → Int32))) (v_statuses : Nat → Int32) (v_pile : Nat → Int32) (v_wish : Nat → Int32) (y1 : Int32) (y2 : Int32) : Option (Int32 × (Nat → Int32) × (Nat → Int32) × (Nat → Int32)) :=
  (if (256 : Int32) ≤ y2 then (
  fX5_when_43 v_s v_statuses v_pile v_wish y1 y2)
  else (
  gIn y1 256 (
  (if (v_wish y1.toNatClampNeg) = y1 then (
  fX5_when_43 v_s v_statuses v_pile v_wish y1 y2)
  else (
  gIn y1 256 (
  nm (v_wish y1.toNatClampNeg) (fun u8 =>
  nm (y2 + 1) (fun u9 =>
  ag13 v_statuses v_pile v_wish u8 u9))))))))
set_option maxRecDepth 100000 in
set_option maxHeartbeats 4000000 in
theorem LX5_when_13 {p : Program} {l : Launch} {e : Env} {s : State} {m : MethodId} {args : Array Value} {below : List Frame} {meth : Method} {c : Code} {D : va_G} {cI cJ cZ cS : ClassId} {tb : Nat} {A : Nat → Prop} {a_t a_s a_keptS a_statuses a_pile a_tape a_steps a_wish a_mark a_bitsOf a_sizeOf a_number a_moved : Nat} {v_isKept : Int32} {v_taped : Int32} {v_at : Int32} {v_fault : Int32} {v_laid : Int32} {v_open : Int32} {v_s : Nat → Int32} {rr : Int32} {kk' : (Nat → Int32) × (Nat → Int32) × (Nat → Int32)} (fx : q_Fx p s m args meth c cX5_when 3 RX5 (some .int) D cI cJ cZ cS tb A) {ag13 : (Nat → Int32) → (Nat → Int32) → (Nat → Int32) → Int32 → Int32 → Option (Int32 × (Nat → Int32) × (Nat → Int32) × (Nat → Int32))} (hag13 : ∀ {v_statuses : Nat → Int32} {v_pile : Nat → Int32} {v_wish : Nat → Int32} {y1 : Int32} {y2 : Int32} {H : Heap} {locs : List Loc} {ls : Array Slot}, q_H D A s (wX5_when cI cJ cZ cS a_t a_s a_keptS a_statuses a_pile a_tape a_steps a_wish a_mark a_bitsOf a_sizeOf a_number a_moved v_isKept v_taped v_at v_fault v_laid v_open v_s v_statuses v_pile v_wish) H locs → lv_has ls 3 [(0, .ref a_t), (1, .int y1), (2, .int y2)] → ag13 v_statuses v_pile v_wish y1 y2 = some (rr, kk') → W p l e rX5_when s m args below meth c H locs 0 0 (MQ below (q_Ri D rr A ((fun k : (Nat → Int32) × (Nat → Int32) × (Nat → Int32) => (wX5_when cI cJ cZ cS a_t a_s a_keptS a_statuses a_pile a_tape a_steps a_wish a_mark a_bitsOf a_sizeOf a_number a_moved v_isKept v_taped v_at v_fault v_laid v_open v_s k.1 k.2.1 k.2.2)) kk')) args s 0 0 A) (F0 m 13 ls [])) : ∀ {v_statuses : Nat → Int32} {v_pile : Nat → Int32} {v_wish : Nat → Int32} {y1 : Int32} {y2 : Int32} {H : Heap} {locs : List Loc} {ls : Array Slot}, q_H D A s (wX5_when cI cJ cZ cS a_t a_s a_keptS a_statuses a_pile a_tape a_steps a_wish a_mark a_bitsOf a_sizeOf a_number a_moved v_isKept v_taped v_at v_fault v_laid v_open v_s v_statuses v_pile v_wish) H locs → lv_has ls 3 [(0, .ref a_t), (1, .int y1), (2, .int y2)] → fX5_when_13 v_s ag13 v_statuses v_pile v_wish y1 y2 = some (rr, kk') → W p l e rX5_when s m args below meth c H locs 0 0 (MQ below (q_Ri D rr A ((fun k : (Nat → Int32) × (Nat → Int32) × (Nat → Int32) => (wX5_when cI cJ cZ cS a_t a_s a_keptS a_statuses a_pile a_tape a_steps a_wish a_mark a_bitsOf a_sizeOf a_number a_moved v_isKept v_taped v_at v_fault v_laid v_open v_s k.1 k.2.1 k.2.2)) kk')) args s 0 0 A) (F0 m 13 ls []) := by
  intro v_statuses v_pile v_wish y1 y2 H locs ls h hl hf
  have hx := fx.1
  have hb := fx.2.1
  unfold fX5_when_13 at hf
  refine lv_iload_n hx hb dX5_when_13 rfl (lv_at hl 2 rfl) ?_
  refine lv_sipush (v := 256) hx hb dX5_when_14 (by decide) ?_
  refine lv_icmp_ge (tgt := 43) hx hb dX5_when_17 (by decide) (fun c4 => ?_) (fun c4 => ?_)
  · have hf := it_t c4 hf
    exact LX5_when_43 fx h (lv_sub hl [0, 1, 2] rfl) hf
  have hf := it_f c4 hf
  refine lv_aload_n hx hb dX5_when_20 rfl (lv_at hl 0 rfl) ?_
  refine q_get (v := .ref a_wish) fx inX5 h 0 rfl rfl 12 (by decide) k_648 rfl dX5_when_21 ?_
  refine lv_iload_n hx hb dX5_when_24 rfl (lv_at hl 1 rfl) ?_
  obtain ⟨i5, hf⟩ := gIn_inv hf
  refine q_iald fx h 4 rfl i5 dX5_when_25 ?_
  refine lv_iload_n hx hb dX5_when_26 rfl (lv_at hl 1 rfl) ?_
  refine lv_icmp_eq (tgt := 43) hx hb dX5_when_27 (by decide) (fun c6 => ?_) (fun c6 => ?_)
  · have hf := it_t c6 hf
    exact LX5_when_43 fx h (lv_sub hl [0, 1, 2] rfl) hf
  have hf := it_f c6 hf
  refine lv_aload_n hx hb dX5_when_30 rfl (lv_at hl 0 rfl) ?_
  refine q_get (v := .ref a_wish) fx inX5 h 0 rfl rfl 12 (by decide) k_648 rfl dX5_when_31 ?_
  refine lv_iload_n hx hb dX5_when_34 rfl (lv_at hl 1 rfl) ?_
  obtain ⟨i7, hf⟩ := gIn_inv hf
  refine q_iald fx h 4 rfl i7 dX5_when_35 ?_
  obtain ⟨u8, eu8, hf⟩ := nm_inv hf
  refine lv_eqi eu8 ?_
  refine lv_istore_n (lv' := [(1, .int u8), (0, .ref a_t), (2, .int y2)]) hx hb dX5_when_36 rfl hl (by decide) rfl (fun ls hl => ?_)
  obtain ⟨u9, eu9, hf⟩ := nm_inv hf
  refine lv_iinc (v := u9) (lv' := [(2, .int u9), (1, .int u8), (0, .ref a_t)]) hx hb dX5_when_37 hl (k := 2) rfl (by rw [eu9]; rfl) (by decide) rfl (fun ls hl => ?_)
  refine lv_goto (tgt := 13) hx hb dX5_when_40 (by decide) ?_
  exact hag13 h (lv_sub hl [2, 1, 0] rfl) hf
set_option maxRecDepth 100000 in
theorem EX5_when_13 {p : Program} {l : Launch} {e : Env} {s : State} {m : MethodId} {args : Array Value} {below : List Frame} {meth : Method} {c : Code} {D : va_G} {cI cJ cZ cS : ClassId} {tb : Nat} {A : Nat → Prop} {a_t a_s a_keptS a_statuses a_pile a_tape a_steps a_wish a_mark a_bitsOf a_sizeOf a_number a_moved : Nat} {v_isKept : Int32} {v_taped : Int32} {v_at : Int32} {v_fault : Int32} {v_laid : Int32} {v_open : Int32} {v_s : Nat → Int32} {rr : Int32} {kk' : (Nat → Int32) × (Nat → Int32) × (Nat → Int32)} (fx : q_Fx p s m args meth c cX5_when 3 RX5 (some .int) D cI cJ cZ cS tb A) : ∀ (n : Nat), ∀ {v_statuses : Nat → Int32} {v_pile : Nat → Int32} {v_wish : Nat → Int32} {y1 : Int32} {y2 : Int32} {H : Heap} {locs : List Loc} {ls : Array Slot}, q_H D A s (wX5_when cI cJ cZ cS a_t a_s a_keptS a_statuses a_pile a_tape a_steps a_wish a_mark a_bitsOf a_sizeOf a_number a_moved v_isKept v_taped v_at v_fault v_laid v_open v_s v_statuses v_pile v_wish) H locs → lv_has ls 3 [(0, .ref a_t), (1, .int y1), (2, .int y2)] → ll5 (fX5_when_13 v_s) n v_statuses v_pile v_wish y1 y2 = some (rr, kk') → W p l e rX5_when s m args below meth c H locs 0 0 (MQ below (q_Ri D rr A ((fun k : (Nat → Int32) × (Nat → Int32) × (Nat → Int32) => (wX5_when cI cJ cZ cS a_t a_s a_keptS a_statuses a_pile a_tape a_steps a_wish a_mark a_bitsOf a_sizeOf a_number a_moved v_isKept v_taped v_at v_fault v_laid v_open v_s k.1 k.2.1 k.2.2)) kk')) args s 0 0 A) (F0 m 13 ls []) := by
  intro n
  induction n with
  | zero => intro v_statuses v_pile v_wish y1 y2 H locs ls h hl hf; exact (ll5_z hf).elim
  | succ n ih => intro v_statuses v_pile v_wish y1 y2 H locs ls h hl hf; exact LX5_when_13 fx ih h hl (ll5_s hf)
def fX5_when (v_s : Nat → Int32) (v_statuses : Nat → Int32) (v_pile : Nat → Int32) (v_wish : Nat → Int32) : Option (Int32 × (Nat → Int32) × (Nat → Int32) × (Nat → Int32)) :=
  bV (fX5_looksAll v_s v_pile v_wish) (fun k10 =>
  nm (v_s 1) (fun u11 =>
  ll5 (fX5_when_13 v_s) qF v_statuses k10.1 k10.2 u11 0))
set_option maxRecDepth 100000 in
set_option maxHeartbeats 4000000 in
theorem tX5_when (l : Launch) (D : va_G) (cI cJ cZ cS : ClassId) (tb : Nat) (a_t a_s a_keptS a_statuses a_pile a_tape a_steps a_wish a_mark a_bitsOf a_sizeOf a_number a_moved : Nat) (sz : Nat) (v_isKept : Int32) (v_taped : Int32) (v_at : Int32) (v_fault : Int32) (v_laid : Int32) (v_open : Int32) (v_s : Nat → Int32) (v_statuses : Nat → Int32) (v_pile : Nat → Int32) (v_wish : Nat → Int32) (rr : Int32) (kk' : (Nat → Int32) × (Nat → Int32) × (Nat → Int32)) (hf : fX5_when v_s v_statuses v_pile v_wish = some (rr, kk')) : Met l yX5_when (Cond.code yX5_when cX5_when 3 (some .int) :: wA) rX5_when (q_Pre D cI cJ cZ cS tb [.ref a_t] sz (wX5_when cI cJ cZ cS a_t a_s a_keptS a_statuses a_pile a_tape a_steps a_wish a_mark a_bitsOf a_sizeOf a_number a_moved v_isKept v_taped v_at v_fault v_laid v_open v_s v_statuses v_pile v_wish)) (q_Ri D rr (va_A (wX5_when cI cJ cZ cS a_t a_s a_keptS a_statuses a_pile a_tape a_steps a_wish a_mark a_bitsOf a_sizeOf a_number a_moved v_isKept v_taped v_at v_fault v_laid v_open v_s v_statuses v_pile v_wish) sz) ((fun k : (Nat → Int32) × (Nat → Int32) × (Nat → Int32) => (wX5_when cI cJ cZ cS a_t a_s a_keptS a_statuses a_pile a_tape a_steps a_wish a_mark a_bitsOf a_sizeOf a_number a_moved v_isKept v_taped v_at v_fault v_laid v_open v_s k.1 k.2.1 k.2.2)) kk')) 0 0 (va_A (wX5_when cI cJ cZ cS a_t a_s a_keptS a_statuses a_pile a_tape a_steps a_wish a_mark a_bitsOf a_sizeOf a_number a_moved v_isKept v_taped v_at v_fault v_laid v_open v_s v_statuses v_pile v_wish) sz) := by
  refine q_enter (Qf := fun A => (q_Ri D rr A ((fun k : (Nat → Int32) × (Nat → Int32) × (Nat → Int32) => (wX5_when cI cJ cZ cS a_t a_s a_keptS a_statuses a_pile a_tape a_steps a_wish a_mark a_bitsOf a_sizeOf a_number a_moved v_isKept v_taped v_at v_fault v_laid v_open v_s k.1 k.2.1 k.2.2)) kk'))) (by decide) rfl (Nat.le_of_ble_eq_true rfl) ?_
  intro p e s m below meth c A ls fx hname h hl
  have hx := fx.1
  have hb := fx.2.1
  have hl : lv_has ls 3 [(0, .ref a_t)] := hl
  generalize h9 : s.heap = H at h ⊢
  clear h9
  generalize h9 : ([] : List Loc) = locs at h ⊢
  clear h9
  unfold fX5_when at hf
  refine lv_aload_n hx hb dX5_when_0 rfl (lv_at hl 0 rfl) ?_
  obtain ⟨k10, hg, hf⟩ := bV_inv hf
  refine q_cv (rest := []) (ws' := (wX5_when cI cJ cZ cS a_t a_s a_keptS a_statuses a_pile a_tape a_steps a_wish a_mark a_bitsOf a_sizeOf a_number a_moved v_isKept v_taped v_at v_fault v_laid v_open v_s v_statuses k10.1 k10.2)) (w1 := (wX5_looksAll cI cJ cZ cS a_t a_s a_keptS a_statuses a_pile a_tape a_steps a_wish a_mark a_bitsOf a_sizeOf a_number a_moved v_isKept v_taped v_at v_fault v_laid v_open v_s k10.1 k10.2)) fx h [0, 1, 3, 4] rfl rfl rfl rfl (q_runV fx h hl.1 [0, 1, 3, 4] rfl rfl (tX5_looksAll l D cI cJ cZ cS tb a_t a_s a_keptS a_statuses a_pile a_tape a_steps a_wish a_mark a_bitsOf a_sizeOf a_number a_moved H.size v_isKept v_taped v_at v_fault v_laid v_open v_s v_pile v_wish k10 hg) mvX5_looksAll k_860 ⟨rfl, rfl⟩ ⟨Nat.le_of_ble_eq_true rfl, Nat.le_of_ble_eq_true rfl⟩ rfl rfl rfl rfl (Nat.le_of_ble_eq_true rfl) dX5_when_1 ⟨Nat.le_of_ble_eq_true rfl, Nat.le_of_ble_eq_true rfl⟩) (fun H locs h => ?_)
  refine lv_aload_n hx hb dX5_when_4 rfl (lv_at hl 0 rfl) ?_
  refine q_get (v := .ref a_s) fx inX5 h 0 rfl rfl 0 (by decide) k_636 rfl dX5_when_5 ?_
  refine lv_iconst (v := 1) hx hb dX5_when_8 (by decide) ?_
  refine q_ialdK fx h 1 rfl 1 (vinK (by decide)) (by decide) dX5_when_9 ?_
  obtain ⟨u11, eu11, hf⟩ := nm_inv hf
  refine lv_eqi eu11 ?_
  refine lv_istore_n (lv' := [(1, .int u11), (0, .ref a_t)]) hx hb dX5_when_10 rfl hl (by decide) rfl (fun ls hl => ?_)
  refine lv_iconst (v := 0) hx hb dX5_when_11 (by decide) ?_
  refine lv_istore_n (lv' := [(2, .int 0), (1, .int u11), (0, .ref a_t)]) hx hb dX5_when_12 rfl hl (by decide) rfl (fun ls hl => ?_)
  exact EX5_when_13 fx qF h (lv_sub hl [2, 1, 0] rfl) hf
