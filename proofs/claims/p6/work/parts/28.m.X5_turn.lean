/-! X5_turn -/
abbrev wX5_turn (cI cJ cZ cS : ClassId) (a_t a_s a_keptS a_statuses a_pile a_tape a_steps a_wish a_mark a_bitsOf a_sizeOf a_number a_moved : Nat) (v_isKept : Int32) (v_taped : Int32) (v_at : Int32) (v_fault : Int32) (v_laid : Int32) (v_open : Int32) (v_s : Nat → Int32) (v_statuses : Nat → Int32) : va_W := [(a_t, .inr (5, [.ref a_s, .ref a_keptS, .ref a_statuses, .int v_isKept, .ref a_pile, .ref a_tape, .ref a_steps, .int v_taped, .int v_at, .int v_fault, .int v_laid, .int v_open, .ref a_wish, .ref a_mark, .ref a_bitsOf, .ref a_sizeOf, .ref a_number, .ref a_moved])), (a_s, .inl (cI, 538, .inl v_s)), (a_statuses, .inl (cI, 7, .inl v_statuses))]
abbrev rX5_turn : Room := { frames := 2, cells := 0, slots := 0, locals := 46 }
def fX5_turn_33 (v_s : Nat → Int32) (v_statuses : Nat → Int32) : Option (Int32 × (Nat → Int32) × (Nat → Int32)) :=
  bR (fX5_finds v_statuses (-1000000001)) (fun r1 k1 =>
  some (r1, (v_s, k1)))
set_option maxRecDepth 100000 in
set_option maxHeartbeats 4000000 in
theorem LX5_turn_33 {p : Program} {l : Launch} {e : Env} {s : State} {m : MethodId} {args : Array Value} {below : List Frame} {meth : Method} {c : Code} {D : va_G} {cI cJ cZ cS : ClassId} {tb : Nat} {A : Nat → Prop} {a_t a_s a_keptS a_statuses a_pile a_tape a_steps a_wish a_mark a_bitsOf a_sizeOf a_number a_moved : Nat} {v_isKept : Int32} {v_taped : Int32} {v_at : Int32} {v_fault : Int32} {v_laid : Int32} {v_open : Int32} {rr : Int32} {kk' : (Nat → Int32) × (Nat → Int32)} (fx : q_Fx p s m args meth c cX5_turn 3 RX5 (some .int) D cI cJ cZ cS tb A) : ∀ {v_s : Nat → Int32} {v_statuses : Nat → Int32} {H : Heap} {locs : List Loc} {ls : Array Slot}, q_H D A s (wX5_turn cI cJ cZ cS a_t a_s a_keptS a_statuses a_pile a_tape a_steps a_wish a_mark a_bitsOf a_sizeOf a_number a_moved v_isKept v_taped v_at v_fault v_laid v_open v_s v_statuses) H locs → lv_has ls 3 [(0, .ref a_t)] → fX5_turn_33 v_s v_statuses = some (rr, kk') → W p l e rX5_turn s m args below meth c H locs 0 0 (MQ below (q_Ri D rr A ((fun k : (Nat → Int32) × (Nat → Int32) => (wX5_turn cI cJ cZ cS a_t a_s a_keptS a_statuses a_pile a_tape a_steps a_wish a_mark a_bitsOf a_sizeOf a_number a_moved v_isKept v_taped v_at v_fault v_laid v_open k.1 k.2)) kk')) args s 0 0 A) (F0 m 33 ls []) := by
  intro v_s v_statuses H locs ls h hl hf
  have hx := fx.1
  have hb := fx.2.1
  unfold fX5_turn_33 at hf
  refine lv_aload_n hx hb dX5_turn_33 rfl (lv_at hl 0 rfl) ?_
  refine q_ldc fx k_701 dX5_turn_34 ?_
  obtain ⟨r1, k1, hg, hf⟩ := bR_inv hf
  refine q_ci (rest := []) (ws' := (wX5_turn cI cJ cZ cS a_t a_s a_keptS a_statuses a_pile a_tape a_steps a_wish a_mark a_bitsOf a_sizeOf a_number a_moved v_isKept v_taped v_at v_fault v_laid v_open v_s k1)) (w1 := (wX5_finds cI cJ cZ cS a_t a_s a_keptS a_statuses a_pile a_tape a_steps a_wish a_mark a_bitsOf a_sizeOf a_number a_moved v_isKept v_taped v_at v_fault v_laid v_open k1)) fx h [0, 2] rfl rfl rfl rfl (q_runV fx h hl.1 [0, 2] rfl rfl (tX5_finds l D cI cJ cZ cS tb a_t a_s a_keptS a_statuses a_pile a_tape a_steps a_wish a_mark a_bitsOf a_sizeOf a_number a_moved H.size v_isKept v_taped v_at v_fault v_laid v_open v_statuses (-1000000001) r1 k1 hg) mvX5_finds k_702 ⟨rfl, rfl⟩ ⟨Nat.le_of_ble_eq_true rfl, Nat.le_of_ble_eq_true rfl⟩ rfl rfl rfl rfl (Nat.le_of_ble_eq_true rfl) dX5_turn_36 ⟨Nat.le_of_ble_eq_true rfl, Nat.le_of_ble_eq_true rfl⟩) (fun H locs h => ?_)
  exact q_reti (fun k : (Nat → Int32) × (Nat → Int32) => (wX5_turn cI cJ cZ cS a_t a_s a_keptS a_statuses a_pile a_tape a_steps a_wish a_mark a_bitsOf a_sizeOf a_number a_moved v_isKept v_taped v_at v_fault v_laid v_open k.1 k.2)) fx hf h dX5_turn_39
def fX5_turn (v_s : Nat → Int32) (v_statuses : Nat → Int32) (x1 : Int32) (x2 : Int32) : Option (Int32 × (Nat → Int32) × (Nat → Int32)) :=
  bR (fX5_isGuest v_s x1) (fun r2 k2 =>
  (if r2 = 0 then (
  fX5_turn_33  v_s v_statuses)
  else (
  bR (fX5_in (x2.toInt64) 0 5) (fun r4 k4 =>
  (if r4 = 0 then (
  fX5_turn_33  v_s v_statuses)
  else (
  bR (fX5_becomes v_s (2 + (3 * x1)) x2) (fun r6 k6 =>
  some (r6, (k6, v_statuses)))))))))
set_option maxRecDepth 100000 in
set_option maxHeartbeats 4000000 in
theorem tX5_turn (l : Launch) (D : va_G) (cI cJ cZ cS : ClassId) (tb : Nat) (a_t a_s a_keptS a_statuses a_pile a_tape a_steps a_wish a_mark a_bitsOf a_sizeOf a_number a_moved : Nat) (sz : Nat) (v_isKept : Int32) (v_taped : Int32) (v_at : Int32) (v_fault : Int32) (v_laid : Int32) (v_open : Int32) (v_s : Nat → Int32) (v_statuses : Nat → Int32) (x1 : Int32) (x2 : Int32) (rr : Int32) (kk' : (Nat → Int32) × (Nat → Int32)) (hf : fX5_turn v_s v_statuses x1 x2 = some (rr, kk')) : Met l yX5_turn (Cond.code yX5_turn cX5_turn 3 (some .int) :: wA) rX5_turn (q_Pre D cI cJ cZ cS tb [.ref a_t, .int x1, .int x2] sz (wX5_turn cI cJ cZ cS a_t a_s a_keptS a_statuses a_pile a_tape a_steps a_wish a_mark a_bitsOf a_sizeOf a_number a_moved v_isKept v_taped v_at v_fault v_laid v_open v_s v_statuses)) (q_Ri D rr (va_A (wX5_turn cI cJ cZ cS a_t a_s a_keptS a_statuses a_pile a_tape a_steps a_wish a_mark a_bitsOf a_sizeOf a_number a_moved v_isKept v_taped v_at v_fault v_laid v_open v_s v_statuses) sz) ((fun k : (Nat → Int32) × (Nat → Int32) => (wX5_turn cI cJ cZ cS a_t a_s a_keptS a_statuses a_pile a_tape a_steps a_wish a_mark a_bitsOf a_sizeOf a_number a_moved v_isKept v_taped v_at v_fault v_laid v_open k.1 k.2)) kk')) 0 0 (va_A (wX5_turn cI cJ cZ cS a_t a_s a_keptS a_statuses a_pile a_tape a_steps a_wish a_mark a_bitsOf a_sizeOf a_number a_moved v_isKept v_taped v_at v_fault v_laid v_open v_s v_statuses) sz) := by
  refine q_enter (Qf := fun A => (q_Ri D rr A ((fun k : (Nat → Int32) × (Nat → Int32) => (wX5_turn cI cJ cZ cS a_t a_s a_keptS a_statuses a_pile a_tape a_steps a_wish a_mark a_bitsOf a_sizeOf a_number a_moved v_isKept v_taped v_at v_fault v_laid v_open k.1 k.2)) kk'))) (by decide) rfl (Nat.le_of_ble_eq_true rfl) ?_
  intro p e s m below meth c A ls fx hname h hl
  have hx := fx.1
  have hb := fx.2.1
  have hl : lv_has ls 3 [(0, .ref a_t), (1, .int x1), (2, .int x2)] := hl
  generalize h9 : s.heap = H at h ⊢
  clear h9
  generalize h9 : ([] : List Loc) = locs at h ⊢
  clear h9
  unfold fX5_turn at hf
  refine lv_aload_n hx hb dX5_turn_0 rfl (lv_at hl 0 rfl) ?_
  refine lv_iload_n hx hb dX5_turn_1 rfl (lv_at hl 1 rfl) ?_
  obtain ⟨r2, k2, hg, hf⟩ := bR_inv hf
  refine q_ci (rest := []) (ws' := (wX5_turn cI cJ cZ cS a_t a_s a_keptS a_statuses a_pile a_tape a_steps a_wish a_mark a_bitsOf a_sizeOf a_number a_moved v_isKept v_taped v_at v_fault v_laid v_open v_s v_statuses)) (w1 := (wX5_isGuest cI cJ cZ cS a_t a_s a_keptS a_statuses a_pile a_tape a_steps a_wish a_mark a_bitsOf a_sizeOf a_number a_moved v_isKept v_taped v_at v_fault v_laid v_open v_s)) fx h [0, 1] rfl rfl rfl rfl (q_runV fx h hl.1 [0, 1] rfl rfl (tX5_isGuest l D cI cJ cZ cS tb a_t a_s a_keptS a_statuses a_pile a_tape a_steps a_wish a_mark a_bitsOf a_sizeOf a_number a_moved H.size v_isKept v_taped v_at v_fault v_laid v_open v_s x1 r2 k2 hg) mvX5_isGuest k_711 ⟨rfl, rfl⟩ ⟨Nat.le_of_ble_eq_true rfl, Nat.le_of_ble_eq_true rfl⟩ rfl rfl rfl rfl (Nat.le_of_ble_eq_true rfl) dX5_turn_2 ⟨Nat.le_of_ble_eq_true rfl, Nat.le_of_ble_eq_true rfl⟩) (fun H locs h => ?_)
  refine lv_if_eq (tgt := 33) hx hb dX5_turn_5 (by decide) (fun c3 => ?_) (fun c3 => ?_)
  · have hf := it_t c3 hf
    exact LX5_turn_33 fx h (lv_sub hl [0] rfl) hf
  have hf := it_f c3 hf
  refine lv_iload_n hx hb dX5_turn_8 rfl (lv_at hl 2 rfl) ?_
  refine lv_i2l hx hb dX5_turn_9 rfl ?_
  refine lv_lconst (v := 0) hx hb dX5_turn_10 (by decide) ?_
  refine q_ldc2 fx k_696 dX5_turn_11 ?_
  obtain ⟨r4, k4, hg, hf⟩ := bR_inv hf
  refine q_ci (rest := []) (ws' := (wX5_turn cI cJ cZ cS a_t a_s a_keptS a_statuses a_pile a_tape a_steps a_wish a_mark a_bitsOf a_sizeOf a_number a_moved v_isKept v_taped v_at v_fault v_laid v_open v_s v_statuses)) (w1 := (wX5_in cI cJ cZ cS)) fx h [] rfl rfl rfl rfl (q_runS fx h hl.1 [] rfl rfl (tX5_in l D cI cJ cZ cS tb H.size (x2.toInt64) 0 5 r4 k4 hg) msX5_in k_697 ⟨rfl, rfl⟩ ⟨Nat.le_of_ble_eq_true rfl, Nat.le_of_ble_eq_true rfl⟩ rfl rfl (Nat.le_of_ble_eq_true rfl) dX5_turn_14 ⟨Nat.le_of_ble_eq_true rfl, Nat.le_of_ble_eq_true rfl⟩) (fun H locs h => ?_)
  refine lv_if_eq (tgt := 33) hx hb dX5_turn_17 (by decide) (fun c5 => ?_) (fun c5 => ?_)
  · have hf := it_t c5 hf
    exact LX5_turn_33 fx h (lv_sub hl [0] rfl) hf
  have hf := it_f c5 hf
  refine lv_aload_n hx hb dX5_turn_20 rfl (lv_at hl 0 rfl) ?_
  refine lv_iconst (v := 2) hx hb dX5_turn_21 (by decide) ?_
  refine lv_iconst (v := 3) hx hb dX5_turn_22 (by decide) ?_
  refine lv_iload_n hx hb dX5_turn_23 rfl (lv_at hl 1 rfl) ?_
  refine lv_imul hx hb dX5_turn_24 ?_
  refine lv_iadd hx hb dX5_turn_25 ?_
  refine lv_iload_n hx hb dX5_turn_26 rfl (lv_at hl 2 rfl) ?_
  obtain ⟨r6, k6, hg, hf⟩ := bR_inv hf
  refine q_ci (rest := []) (ws' := (wX5_turn cI cJ cZ cS a_t a_s a_keptS a_statuses a_pile a_tape a_steps a_wish a_mark a_bitsOf a_sizeOf a_number a_moved v_isKept v_taped v_at v_fault v_laid v_open k6 v_statuses)) (w1 := (wX5_becomes cI cJ cZ cS a_t a_s a_keptS a_statuses a_pile a_tape a_steps a_wish a_mark a_bitsOf a_sizeOf a_number a_moved v_isKept v_taped v_at v_fault v_laid v_open k6)) fx h [0, 1] rfl rfl rfl rfl (q_runV fx h hl.1 [0, 1] rfl rfl (tX5_becomes l D cI cJ cZ cS tb a_t a_s a_keptS a_statuses a_pile a_tape a_steps a_wish a_mark a_bitsOf a_sizeOf a_number a_moved H.size v_isKept v_taped v_at v_fault v_laid v_open v_s (2 + (3 * x1)) x2 r6 k6 hg) mvX5_becomes k_740 ⟨rfl, rfl⟩ ⟨Nat.le_of_ble_eq_true rfl, Nat.le_of_ble_eq_true rfl⟩ rfl rfl rfl rfl (Nat.le_of_ble_eq_true rfl) dX5_turn_27 ⟨Nat.le_of_ble_eq_true rfl, Nat.le_of_ble_eq_true rfl⟩) (fun H locs h => ?_)
  refine lv_goto (tgt := 39) hx hb dX5_turn_30 (by decide) ?_
  exact q_reti (fun k : (Nat → Int32) × (Nat → Int32) => (wX5_turn cI cJ cZ cS a_t a_s a_keptS a_statuses a_pile a_tape a_steps a_wish a_mark a_bitsOf a_sizeOf a_number a_moved v_isKept v_taped v_at v_fault v_laid v_open k.1 k.2)) fx hf h dX5_turn_39
/-! X5_as -/
abbrev wX5_as (cI cJ cZ cS : ClassId) (a_t a_s a_keptS a_statuses a_pile a_tape a_steps a_wish a_mark a_bitsOf a_sizeOf a_number a_moved : Nat) (v_isKept : Int32) (v_taped : Int32) (v_at : Int32) (v_fault : Int32) (v_laid : Int32) (v_open : Int32) (v_s : Nat → Int32) (v_statuses : Nat → Int32) : va_W := [(a_t, .inr (5, [.ref a_s, .ref a_keptS, .ref a_statuses, .int v_isKept, .ref a_pile, .ref a_tape, .ref a_steps, .int v_taped, .int v_at, .int v_fault, .int v_laid, .int v_open, .ref a_wish, .ref a_mark, .ref a_bitsOf, .ref a_sizeOf, .ref a_number, .ref a_moved])), (a_s, .inl (cI, 538, .inl v_s)), (a_statuses, .inl (cI, 7, .inl v_statuses))]
abbrev rX5_as : Room := { frames := 2, cells := 0, slots := 0, locals := 46 }
def fX5_as_68 (v_s : Nat → Int32) (v_statuses : Nat → Int32) (s0 : Int32) (y1 : Int32) : Option (Int32 × (Nat → Int32)) :=
  (if s0 = 0 then (
  bR (fX5_finds v_statuses (-1000000003)) (fun r2 k2 =>
  some (r2, k2)))
  else (
  bR (fX5_its v_s y1 1) (fun r3 k3 =>
  some (r3, v_statuses))))
set_option maxRecDepth 100000 in
set_option maxHeartbeats 4000000 in
theorem LX5_as_68 {p : Program} {l : Launch} {e : Env} {s : State} {m : MethodId} {args : Array Value} {below : List Frame} {meth : Method} {c : Code} {D : va_G} {cI cJ cZ cS : ClassId} {tb : Nat} {A : Nat → Prop} {a_t a_s a_keptS a_statuses a_pile a_tape a_steps a_wish a_mark a_bitsOf a_sizeOf a_number a_moved : Nat} {v_isKept : Int32} {v_taped : Int32} {v_at : Int32} {v_fault : Int32} {v_laid : Int32} {v_open : Int32} {v_s : Nat → Int32} {rr : Int32} {kk' : (Nat → Int32)} (fx : q_Fx p s m args meth c cX5_as 5 RX5 (some .int) D cI cJ cZ cS tb A) : ∀ {v_statuses : Nat → Int32} {s0 : Int32} {y1 : Int32} {H : Heap} {locs : List Loc} {ls : Array Slot}, q_H D A s (wX5_as cI cJ cZ cS a_t a_s a_keptS a_statuses a_pile a_tape a_steps a_wish a_mark a_bitsOf a_sizeOf a_number a_moved v_isKept v_taped v_at v_fault v_laid v_open v_s v_statuses) H locs → lv_has ls 5 [(0, .ref a_t), (1, .int y1)] → fX5_as_68 v_s v_statuses s0 y1 = some (rr, kk') → W p l e rX5_as s m args below meth c H locs 0 0 (MQ below (q_Ri D rr A ((fun k : (Nat → Int32) => (wX5_as cI cJ cZ cS a_t a_s a_keptS a_statuses a_pile a_tape a_steps a_wish a_mark a_bitsOf a_sizeOf a_number a_moved v_isKept v_taped v_at v_fault v_laid v_open v_s k)) kk')) args s 0 0 A) (F0 m 68 ls [.int s0]) := by
  intro v_statuses s0 y1 H locs ls h hl hf
  have hx := fx.1
  have hb := fx.2.1
  unfold fX5_as_68 at hf
  refine lv_istore (lv' := [(4, .int s0), (0, .ref a_t), (1, .int y1)]) hx hb dX5_as_68 hl (by decide) rfl (fun ls hl => ?_)
  refine lv_iload hx hb dX5_as_70 (lv_at hl 0 rfl) ?_
  refine lv_if_eq (tgt := 84) hx hb dX5_as_72 (by decide) (fun c1 => ?_) (fun c1 => ?_)
  · have hf := it_t c1 hf
    refine lv_aload_n hx hb dX5_as_84 rfl (lv_at hl 1 rfl) ?_
    refine q_ldc fx k_752 dX5_as_85 ?_
    obtain ⟨r2, k2, hg, hf⟩ := bR_inv hf
    refine q_ci (rest := []) (ws' := (wX5_as cI cJ cZ cS a_t a_s a_keptS a_statuses a_pile a_tape a_steps a_wish a_mark a_bitsOf a_sizeOf a_number a_moved v_isKept v_taped v_at v_fault v_laid v_open v_s k2)) (w1 := (wX5_finds cI cJ cZ cS a_t a_s a_keptS a_statuses a_pile a_tape a_steps a_wish a_mark a_bitsOf a_sizeOf a_number a_moved v_isKept v_taped v_at v_fault v_laid v_open k2)) fx h [0, 2] rfl rfl rfl rfl (q_runV fx h hl.1 [0, 2] rfl rfl (tX5_finds l D cI cJ cZ cS tb a_t a_s a_keptS a_statuses a_pile a_tape a_steps a_wish a_mark a_bitsOf a_sizeOf a_number a_moved H.size v_isKept v_taped v_at v_fault v_laid v_open v_statuses (-1000000003) r2 k2 hg) mvX5_finds k_702 ⟨rfl, rfl⟩ ⟨Nat.le_of_ble_eq_true rfl, Nat.le_of_ble_eq_true rfl⟩ rfl rfl rfl rfl (Nat.le_of_ble_eq_true rfl) dX5_as_87 ⟨Nat.le_of_ble_eq_true rfl, Nat.le_of_ble_eq_true rfl⟩) (fun H locs h => ?_)
    exact q_reti (fun k : (Nat → Int32) => (wX5_as cI cJ cZ cS a_t a_s a_keptS a_statuses a_pile a_tape a_steps a_wish a_mark a_bitsOf a_sizeOf a_number a_moved v_isKept v_taped v_at v_fault v_laid v_open v_s k)) fx hf h dX5_as_90
  have hf := it_f c1 hf
  refine lv_aload_n hx hb dX5_as_75 rfl (lv_at hl 1 rfl) ?_
  refine lv_iload_n hx hb dX5_as_76 rfl (lv_at hl 2 rfl) ?_
  refine lv_iconst (v := 1) hx hb dX5_as_77 (by decide) ?_
  obtain ⟨r3, k3, hg, hf⟩ := bR_inv hf
  refine q_ci (rest := []) (ws' := (wX5_as cI cJ cZ cS a_t a_s a_keptS a_statuses a_pile a_tape a_steps a_wish a_mark a_bitsOf a_sizeOf a_number a_moved v_isKept v_taped v_at v_fault v_laid v_open v_s v_statuses)) (w1 := (wX5_its cI cJ cZ cS a_t a_s a_keptS a_statuses a_pile a_tape a_steps a_wish a_mark a_bitsOf a_sizeOf a_number a_moved v_isKept v_taped v_at v_fault v_laid v_open v_s)) fx h [0, 1] rfl rfl rfl rfl (q_runV fx h hl.1 [0, 1] rfl rfl (tX5_its l D cI cJ cZ cS tb a_t a_s a_keptS a_statuses a_pile a_tape a_steps a_wish a_mark a_bitsOf a_sizeOf a_number a_moved H.size v_isKept v_taped v_at v_fault v_laid v_open v_s y1 1 r3 k3 hg) mvX5_its k_725 ⟨rfl, rfl⟩ ⟨Nat.le_of_ble_eq_true rfl, Nat.le_of_ble_eq_true rfl⟩ rfl rfl rfl rfl (Nat.le_of_ble_eq_true rfl) dX5_as_78 ⟨Nat.le_of_ble_eq_true rfl, Nat.le_of_ble_eq_true rfl⟩) (fun H locs h => ?_)
  refine lv_goto (tgt := 90) hx hb dX5_as_81 (by decide) ?_
  exact q_reti (fun k : (Nat → Int32) => (wX5_as cI cJ cZ cS a_t a_s a_keptS a_statuses a_pile a_tape a_steps a_wish a_mark a_bitsOf a_sizeOf a_number a_moved v_isKept v_taped v_at v_fault v_laid v_open v_s k)) fx hf h dX5_as_90
def fX5_as_67 (v_s : Nat → Int32) (v_statuses : Nat → Int32) (y1 : Int32) : Option (Int32 × (Nat → Int32)) :=
  fX5_as_68 v_s v_statuses 0 y1
set_option maxRecDepth 100000 in
set_option maxHeartbeats 4000000 in
theorem LX5_as_67 {p : Program} {l : Launch} {e : Env} {s : State} {m : MethodId} {args : Array Value} {below : List Frame} {meth : Method} {c : Code} {D : va_G} {cI cJ cZ cS : ClassId} {tb : Nat} {A : Nat → Prop} {a_t a_s a_keptS a_statuses a_pile a_tape a_steps a_wish a_mark a_bitsOf a_sizeOf a_number a_moved : Nat} {v_isKept : Int32} {v_taped : Int32} {v_at : Int32} {v_fault : Int32} {v_laid : Int32} {v_open : Int32} {v_s : Nat → Int32} {rr : Int32} {kk' : (Nat → Int32)} (fx : q_Fx p s m args meth c cX5_as 5 RX5 (some .int) D cI cJ cZ cS tb A) : ∀ {v_statuses : Nat → Int32} {y1 : Int32} {H : Heap} {locs : List Loc} {ls : Array Slot}, q_H D A s (wX5_as cI cJ cZ cS a_t a_s a_keptS a_statuses a_pile a_tape a_steps a_wish a_mark a_bitsOf a_sizeOf a_number a_moved v_isKept v_taped v_at v_fault v_laid v_open v_s v_statuses) H locs → lv_has ls 5 [(0, .ref a_t), (1, .int y1)] → fX5_as_67 v_s v_statuses y1 = some (rr, kk') → W p l e rX5_as s m args below meth c H locs 0 0 (MQ below (q_Ri D rr A ((fun k : (Nat → Int32) => (wX5_as cI cJ cZ cS a_t a_s a_keptS a_statuses a_pile a_tape a_steps a_wish a_mark a_bitsOf a_sizeOf a_number a_moved v_isKept v_taped v_at v_fault v_laid v_open v_s k)) kk')) args s 0 0 A) (F0 m 67 ls []) := by
  intro v_statuses y1 H locs ls h hl hf
  have hx := fx.1
  have hb := fx.2.1
  unfold fX5_as_67 at hf
  refine lv_iconst (v := 0) hx hb dX5_as_67 (by decide) ?_
  exact LX5_as_68 fx h (lv_sub hl [0, 1] rfl) hf
def fX5_as_63 (v_s : Nat → Int32) (v_statuses : Nat → Int32) (y1 : Int32) : Option (Int32 × (Nat → Int32)) :=
  fX5_as_68 v_s v_statuses 1 y1
set_option maxRecDepth 100000 in
set_option maxHeartbeats 4000000 in
theorem LX5_as_63 {p : Program} {l : Launch} {e : Env} {s : State} {m : MethodId} {args : Array Value} {below : List Frame} {meth : Method} {c : Code} {D : va_G} {cI cJ cZ cS : ClassId} {tb : Nat} {A : Nat → Prop} {a_t a_s a_keptS a_statuses a_pile a_tape a_steps a_wish a_mark a_bitsOf a_sizeOf a_number a_moved : Nat} {v_isKept : Int32} {v_taped : Int32} {v_at : Int32} {v_fault : Int32} {v_laid : Int32} {v_open : Int32} {v_s : Nat → Int32} {rr : Int32} {kk' : (Nat → Int32)} (fx : q_Fx p s m args meth c cX5_as 5 RX5 (some .int) D cI cJ cZ cS tb A) : ∀ {v_statuses : Nat → Int32} {y1 : Int32} {H : Heap} {locs : List Loc} {ls : Array Slot}, q_H D A s (wX5_as cI cJ cZ cS a_t a_s a_keptS a_statuses a_pile a_tape a_steps a_wish a_mark a_bitsOf a_sizeOf a_number a_moved v_isKept v_taped v_at v_fault v_laid v_open v_s v_statuses) H locs → lv_has ls 5 [(0, .ref a_t), (1, .int y1)] → fX5_as_63 v_s v_statuses y1 = some (rr, kk') → W p l e rX5_as s m args below meth c H locs 0 0 (MQ below (q_Ri D rr A ((fun k : (Nat → Int32) => (wX5_as cI cJ cZ cS a_t a_s a_keptS a_statuses a_pile a_tape a_steps a_wish a_mark a_bitsOf a_sizeOf a_number a_moved v_isKept v_taped v_at v_fault v_laid v_open v_s k)) kk')) args s 0 0 A) (F0 m 63 ls []) := by
  intro v_statuses y1 H locs ls h hl hf
  have hx := fx.1
  have hb := fx.2.1
  unfold fX5_as_63 at hf
  refine lv_iconst (v := 1) hx hb dX5_as_63 (by decide) ?_
  refine lv_goto (tgt := 68) hx hb dX5_as_64 (by decide) ?_
  exact LX5_as_68 fx h (lv_sub hl [0, 1] rfl) hf
def fX5_as_53 (v_s : Nat → Int32) (v_statuses : Nat → Int32) (y1 : Int32) (y2 : Int32) (y3 : Int32) : Option (Int32 × (Nat → Int32)) :=
  (if y2 = 2 then (
  (if y3 = 5 then (
  fX5_as_63 v_s v_statuses y1)
  else (
  fX5_as_67 v_s v_statuses y1)))
  else (
  fX5_as_67 v_s v_statuses y1))
set_option maxRecDepth 100000 in
set_option maxHeartbeats 4000000 in
theorem LX5_as_53 {p : Program} {l : Launch} {e : Env} {s : State} {m : MethodId} {args : Array Value} {below : List Frame} {meth : Method} {c : Code} {D : va_G} {cI cJ cZ cS : ClassId} {tb : Nat} {A : Nat → Prop} {a_t a_s a_keptS a_statuses a_pile a_tape a_steps a_wish a_mark a_bitsOf a_sizeOf a_number a_moved : Nat} {v_isKept : Int32} {v_taped : Int32} {v_at : Int32} {v_fault : Int32} {v_laid : Int32} {v_open : Int32} {v_s : Nat → Int32} {rr : Int32} {kk' : (Nat → Int32)} (fx : q_Fx p s m args meth c cX5_as 5 RX5 (some .int) D cI cJ cZ cS tb A) : ∀ {v_statuses : Nat → Int32} {y1 : Int32} {y2 : Int32} {y3 : Int32} {H : Heap} {locs : List Loc} {ls : Array Slot}, q_H D A s (wX5_as cI cJ cZ cS a_t a_s a_keptS a_statuses a_pile a_tape a_steps a_wish a_mark a_bitsOf a_sizeOf a_number a_moved v_isKept v_taped v_at v_fault v_laid v_open v_s v_statuses) H locs → lv_has ls 5 [(0, .ref a_t), (1, .int y1), (2, .int y2), (3, .int y3)] → fX5_as_53 v_s v_statuses y1 y2 y3 = some (rr, kk') → W p l e rX5_as s m args below meth c H locs 0 0 (MQ below (q_Ri D rr A ((fun k : (Nat → Int32) => (wX5_as cI cJ cZ cS a_t a_s a_keptS a_statuses a_pile a_tape a_steps a_wish a_mark a_bitsOf a_sizeOf a_number a_moved v_isKept v_taped v_at v_fault v_laid v_open v_s k)) kk')) args s 0 0 A) (F0 m 53 ls []) := by
  intro v_statuses y1 y2 y3 H locs ls h hl hf
  have hx := fx.1
  have hb := fx.2.1
  unfold fX5_as_53 at hf
  refine lv_iload_n hx hb dX5_as_53 rfl (lv_at hl 2 rfl) ?_
  refine lv_iconst (v := 2) hx hb dX5_as_54 (by decide) ?_
  refine lv_icmp_ne (tgt := 67) hx hb dX5_as_55 (by decide) (fun c4 => ?_) (fun c4 => ?_)
  · have hf := it_f c4 hf
    exact LX5_as_67 fx h (lv_sub hl [0, 1] rfl) hf
  have hf := it_t c4 hf
  refine lv_iload_n hx hb dX5_as_58 rfl (lv_at hl 3 rfl) ?_
  refine lv_iconst (v := 5) hx hb dX5_as_59 (by decide) ?_
  refine lv_icmp_ne (tgt := 67) hx hb dX5_as_60 (by decide) (fun c5 => ?_) (fun c5 => ?_)
  · have hf := it_f c5 hf
    exact LX5_as_67 fx h (lv_sub hl [0, 1] rfl) hf
  have hf := it_t c5 hf
  exact LX5_as_63 fx h (lv_sub hl [0, 1] rfl) hf
def fX5_as_20 (v_s : Nat → Int32) (v_statuses : Nat → Int32) : Option (Int32 × (Nat → Int32)) :=
  bR (fX5_finds v_statuses (-1000000001)) (fun r6 k6 =>
  some (r6, k6))
set_option maxRecDepth 100000 in
set_option maxHeartbeats 4000000 in
theorem LX5_as_20 {p : Program} {l : Launch} {e : Env} {s : State} {m : MethodId} {args : Array Value} {below : List Frame} {meth : Method} {c : Code} {D : va_G} {cI cJ cZ cS : ClassId} {tb : Nat} {A : Nat → Prop} {a_t a_s a_keptS a_statuses a_pile a_tape a_steps a_wish a_mark a_bitsOf a_sizeOf a_number a_moved : Nat} {v_isKept : Int32} {v_taped : Int32} {v_at : Int32} {v_fault : Int32} {v_laid : Int32} {v_open : Int32} {v_s : Nat → Int32} {rr : Int32} {kk' : (Nat → Int32)} (fx : q_Fx p s m args meth c cX5_as 5 RX5 (some .int) D cI cJ cZ cS tb A) : ∀ {v_statuses : Nat → Int32} {H : Heap} {locs : List Loc} {ls : Array Slot}, q_H D A s (wX5_as cI cJ cZ cS a_t a_s a_keptS a_statuses a_pile a_tape a_steps a_wish a_mark a_bitsOf a_sizeOf a_number a_moved v_isKept v_taped v_at v_fault v_laid v_open v_s v_statuses) H locs → lv_has ls 5 [(0, .ref a_t)] → fX5_as_20 v_s v_statuses = some (rr, kk') → W p l e rX5_as s m args below meth c H locs 0 0 (MQ below (q_Ri D rr A ((fun k : (Nat → Int32) => (wX5_as cI cJ cZ cS a_t a_s a_keptS a_statuses a_pile a_tape a_steps a_wish a_mark a_bitsOf a_sizeOf a_number a_moved v_isKept v_taped v_at v_fault v_laid v_open v_s k)) kk')) args s 0 0 A) (F0 m 20 ls []) := by
  intro v_statuses H locs ls h hl hf
  have hx := fx.1
  have hb := fx.2.1
  unfold fX5_as_20 at hf
  refine lv_aload_n hx hb dX5_as_20 rfl (lv_at hl 0 rfl) ?_
  refine q_ldc fx k_701 dX5_as_21 ?_
  obtain ⟨r6, k6, hg, hf⟩ := bR_inv hf
  refine q_ci (rest := []) (ws' := (wX5_as cI cJ cZ cS a_t a_s a_keptS a_statuses a_pile a_tape a_steps a_wish a_mark a_bitsOf a_sizeOf a_number a_moved v_isKept v_taped v_at v_fault v_laid v_open v_s k6)) (w1 := (wX5_finds cI cJ cZ cS a_t a_s a_keptS a_statuses a_pile a_tape a_steps a_wish a_mark a_bitsOf a_sizeOf a_number a_moved v_isKept v_taped v_at v_fault v_laid v_open k6)) fx h [0, 2] rfl rfl rfl rfl (q_runV fx h hl.1 [0, 2] rfl rfl (tX5_finds l D cI cJ cZ cS tb a_t a_s a_keptS a_statuses a_pile a_tape a_steps a_wish a_mark a_bitsOf a_sizeOf a_number a_moved H.size v_isKept v_taped v_at v_fault v_laid v_open v_statuses (-1000000001) r6 k6 hg) mvX5_finds k_702 ⟨rfl, rfl⟩ ⟨Nat.le_of_ble_eq_true rfl, Nat.le_of_ble_eq_true rfl⟩ rfl rfl rfl rfl (Nat.le_of_ble_eq_true rfl) dX5_as_23 ⟨Nat.le_of_ble_eq_true rfl, Nat.le_of_ble_eq_true rfl⟩) (fun H locs h => ?_)
  exact q_reti (fun k : (Nat → Int32) => (wX5_as cI cJ cZ cS a_t a_s a_keptS a_statuses a_pile a_tape a_steps a_wish a_mark a_bitsOf a_sizeOf a_number a_moved v_isKept v_taped v_at v_fault v_laid v_open v_s k)) fx hf h dX5_as_26
def fX5_as (v_s : Nat → Int32) (v_statuses : Nat → Int32) (x1 : Int32) (x2 : Int32) : Option (Int32 × (Nat → Int32)) :=
  bR (fX5_isGuest v_s x1) (fun r7 k7 =>
  (if r7 = 0 then (
  fX5_as_20 v_s v_statuses)
  else (
  bR (fX5_in (x2.toInt64) 0 5) (fun r9 k9 =>
  (if r9 = 0 then (
  fX5_as_20 v_s v_statuses)
  else (
  bR (fX5_its v_s x1 0) (fun r11 k11 =>
  (if x2 = 0 then (
  fX5_as_63 v_s v_statuses x1)
  else (
  (if r11 = x2 then (
  fX5_as_63 v_s v_statuses x1)
  else (
  (if x2 = 1 then (
  (if r11 = 4 then (
  fX5_as_63 v_s v_statuses x1)
  else (
  fX5_as_53 v_s v_statuses x1 x2 r11)))
  else (
  fX5_as_53 v_s v_statuses x1 x2 r11)))))))))))))
set_option maxRecDepth 100000 in
set_option maxHeartbeats 4000000 in
theorem tX5_as (l : Launch) (D : va_G) (cI cJ cZ cS : ClassId) (tb : Nat) (a_t a_s a_keptS a_statuses a_pile a_tape a_steps a_wish a_mark a_bitsOf a_sizeOf a_number a_moved : Nat) (sz : Nat) (v_isKept : Int32) (v_taped : Int32) (v_at : Int32) (v_fault : Int32) (v_laid : Int32) (v_open : Int32) (v_s : Nat → Int32) (v_statuses : Nat → Int32) (x1 : Int32) (x2 : Int32) (rr : Int32) (kk' : (Nat → Int32)) (hf : fX5_as v_s v_statuses x1 x2 = some (rr, kk')) : Met l yX5_as (Cond.code yX5_as cX5_as 5 (some .int) :: wA) rX5_as (q_Pre D cI cJ cZ cS tb [.ref a_t, .int x1, .int x2] sz (wX5_as cI cJ cZ cS a_t a_s a_keptS a_statuses a_pile a_tape a_steps a_wish a_mark a_bitsOf a_sizeOf a_number a_moved v_isKept v_taped v_at v_fault v_laid v_open v_s v_statuses)) (q_Ri D rr (va_A (wX5_as cI cJ cZ cS a_t a_s a_keptS a_statuses a_pile a_tape a_steps a_wish a_mark a_bitsOf a_sizeOf a_number a_moved v_isKept v_taped v_at v_fault v_laid v_open v_s v_statuses) sz) ((fun k : (Nat → Int32) => (wX5_as cI cJ cZ cS a_t a_s a_keptS a_statuses a_pile a_tape a_steps a_wish a_mark a_bitsOf a_sizeOf a_number a_moved v_isKept v_taped v_at v_fault v_laid v_open v_s k)) kk')) 0 0 (va_A (wX5_as cI cJ cZ cS a_t a_s a_keptS a_statuses a_pile a_tape a_steps a_wish a_mark a_bitsOf a_sizeOf a_number a_moved v_isKept v_taped v_at v_fault v_laid v_open v_s v_statuses) sz) := by
  refine q_enter (Qf := fun A => (q_Ri D rr A ((fun k : (Nat → Int32) => (wX5_as cI cJ cZ cS a_t a_s a_keptS a_statuses a_pile a_tape a_steps a_wish a_mark a_bitsOf a_sizeOf a_number a_moved v_isKept v_taped v_at v_fault v_laid v_open v_s k)) kk'))) (by decide) rfl (Nat.le_of_ble_eq_true rfl) ?_
  intro p e s m below meth c A ls fx hname h hl
  have hx := fx.1
  have hb := fx.2.1
  have hl : lv_has ls 5 [(0, .ref a_t), (1, .int x1), (2, .int x2)] := hl
  generalize h9 : s.heap = H at h ⊢
  clear h9
  generalize h9 : ([] : List Loc) = locs at h ⊢
  clear h9
  unfold fX5_as at hf
  refine lv_aload_n hx hb dX5_as_0 rfl (lv_at hl 0 rfl) ?_
  refine lv_iload_n hx hb dX5_as_1 rfl (lv_at hl 1 rfl) ?_
  obtain ⟨r7, k7, hg, hf⟩ := bR_inv hf
  refine q_ci (rest := []) (ws' := (wX5_as cI cJ cZ cS a_t a_s a_keptS a_statuses a_pile a_tape a_steps a_wish a_mark a_bitsOf a_sizeOf a_number a_moved v_isKept v_taped v_at v_fault v_laid v_open v_s v_statuses)) (w1 := (wX5_isGuest cI cJ cZ cS a_t a_s a_keptS a_statuses a_pile a_tape a_steps a_wish a_mark a_bitsOf a_sizeOf a_number a_moved v_isKept v_taped v_at v_fault v_laid v_open v_s)) fx h [0, 1] rfl rfl rfl rfl (q_runV fx h hl.1 [0, 1] rfl rfl (tX5_isGuest l D cI cJ cZ cS tb a_t a_s a_keptS a_statuses a_pile a_tape a_steps a_wish a_mark a_bitsOf a_sizeOf a_number a_moved H.size v_isKept v_taped v_at v_fault v_laid v_open v_s x1 r7 k7 hg) mvX5_isGuest k_711 ⟨rfl, rfl⟩ ⟨Nat.le_of_ble_eq_true rfl, Nat.le_of_ble_eq_true rfl⟩ rfl rfl rfl rfl (Nat.le_of_ble_eq_true rfl) dX5_as_2 ⟨Nat.le_of_ble_eq_true rfl, Nat.le_of_ble_eq_true rfl⟩) (fun H locs h => ?_)
  refine lv_if_eq (tgt := 20) hx hb dX5_as_5 (by decide) (fun c8 => ?_) (fun c8 => ?_)
  · have hf := it_t c8 hf
    exact LX5_as_20 fx h (lv_sub hl [0] rfl) hf
  have hf := it_f c8 hf
  refine lv_iload_n hx hb dX5_as_8 rfl (lv_at hl 2 rfl) ?_
  refine lv_i2l hx hb dX5_as_9 rfl ?_
  refine lv_lconst (v := 0) hx hb dX5_as_10 (by decide) ?_
  refine q_ldc2 fx k_696 dX5_as_11 ?_
  obtain ⟨r9, k9, hg, hf⟩ := bR_inv hf
  refine q_ci (rest := []) (ws' := (wX5_as cI cJ cZ cS a_t a_s a_keptS a_statuses a_pile a_tape a_steps a_wish a_mark a_bitsOf a_sizeOf a_number a_moved v_isKept v_taped v_at v_fault v_laid v_open v_s v_statuses)) (w1 := (wX5_in cI cJ cZ cS)) fx h [] rfl rfl rfl rfl (q_runS fx h hl.1 [] rfl rfl (tX5_in l D cI cJ cZ cS tb H.size (x2.toInt64) 0 5 r9 k9 hg) msX5_in k_697 ⟨rfl, rfl⟩ ⟨Nat.le_of_ble_eq_true rfl, Nat.le_of_ble_eq_true rfl⟩ rfl rfl (Nat.le_of_ble_eq_true rfl) dX5_as_14 ⟨Nat.le_of_ble_eq_true rfl, Nat.le_of_ble_eq_true rfl⟩) (fun H locs h => ?_)
  refine lv_if_ne (tgt := 27) hx hb dX5_as_17 (by decide) (fun c10 => ?_) (fun c10 => ?_)
  · have hf := it_f c10 hf
    refine lv_aload_n hx hb dX5_as_27 rfl (lv_at hl 0 rfl) ?_
    refine lv_iload_n hx hb dX5_as_28 rfl (lv_at hl 1 rfl) ?_
    refine lv_iconst (v := 0) hx hb dX5_as_29 (by decide) ?_
    obtain ⟨r11, k11, hg, hf⟩ := bR_inv hf
    refine q_ci (rest := []) (ws' := (wX5_as cI cJ cZ cS a_t a_s a_keptS a_statuses a_pile a_tape a_steps a_wish a_mark a_bitsOf a_sizeOf a_number a_moved v_isKept v_taped v_at v_fault v_laid v_open v_s v_statuses)) (w1 := (wX5_its cI cJ cZ cS a_t a_s a_keptS a_statuses a_pile a_tape a_steps a_wish a_mark a_bitsOf a_sizeOf a_number a_moved v_isKept v_taped v_at v_fault v_laid v_open v_s)) fx h [0, 1] rfl rfl rfl rfl (q_runV fx h hl.1 [0, 1] rfl rfl (tX5_its l D cI cJ cZ cS tb a_t a_s a_keptS a_statuses a_pile a_tape a_steps a_wish a_mark a_bitsOf a_sizeOf a_number a_moved H.size v_isKept v_taped v_at v_fault v_laid v_open v_s x1 0 r11 k11 hg) mvX5_its k_725 ⟨rfl, rfl⟩ ⟨Nat.le_of_ble_eq_true rfl, Nat.le_of_ble_eq_true rfl⟩ rfl rfl rfl rfl (Nat.le_of_ble_eq_true rfl) dX5_as_30 ⟨Nat.le_of_ble_eq_true rfl, Nat.le_of_ble_eq_true rfl⟩) (fun H locs h => ?_)
    refine lv_istore_n (lv' := [(3, .int r11), (0, .ref a_t), (1, .int x1), (2, .int x2)]) hx hb dX5_as_33 rfl hl (by decide) rfl (fun ls hl => ?_)
    refine lv_iload_n hx hb dX5_as_34 rfl (lv_at hl 3 rfl) ?_
    refine lv_if_eq (tgt := 63) hx hb dX5_as_35 (by decide) (fun c12 => ?_) (fun c12 => ?_)
    · have hf := it_t c12 hf
      exact LX5_as_63 fx h (lv_sub hl [1, 2] rfl) hf
    have hf := it_f c12 hf
    refine lv_iload_n hx hb dX5_as_38 rfl (lv_at hl 0 rfl) ?_
    refine lv_iload_n hx hb dX5_as_39 rfl (lv_at hl 3 rfl) ?_
    refine lv_icmp_eq (tgt := 63) hx hb dX5_as_40 (by decide) (fun c13 => ?_) (fun c13 => ?_)
    · have hf := it_t c13 hf
      exact LX5_as_63 fx h (lv_sub hl [1, 2] rfl) hf
    have hf := it_f c13 hf
    refine lv_iload_n hx hb dX5_as_43 rfl (lv_at hl 3 rfl) ?_
    refine lv_iconst (v := 1) hx hb dX5_as_44 (by decide) ?_
    refine lv_icmp_ne (tgt := 53) hx hb dX5_as_45 (by decide) (fun c14 => ?_) (fun c14 => ?_)
    · have hf := it_f c14 hf
      exact LX5_as_53 fx h (lv_sub hl [1, 2, 3, 0] rfl) hf
    have hf := it_t c14 hf
    refine lv_iload_n hx hb dX5_as_48 rfl (lv_at hl 0 rfl) ?_
    refine lv_iconst (v := 4) hx hb dX5_as_49 (by decide) ?_
    refine lv_icmp_eq (tgt := 63) hx hb dX5_as_50 (by decide) (fun c15 => ?_) (fun c15 => ?_)
    · have hf := it_t c15 hf
      exact LX5_as_63 fx h (lv_sub hl [1, 2] rfl) hf
    have hf := it_f c15 hf
    exact LX5_as_53 fx h (lv_sub hl [1, 2, 3, 0] rfl) hf
  have hf := it_t c10 hf
  exact LX5_as_20 fx h (lv_sub hl [0] rfl) hf
/-! X5_look -/
abbrev wX5_look (cI cJ cZ cS : ClassId) (a_t a_s a_keptS a_statuses a_pile a_tape a_steps a_wish a_mark a_bitsOf a_sizeOf a_number a_moved : Nat) (v_isKept : Int32) (v_taped : Int32) (v_at : Int32) (v_fault : Int32) (v_laid : Int32) (v_open : Int32) (v_tape : Nat → Int32) : va_W := [(a_t, .inr (5, [.ref a_s, .ref a_keptS, .ref a_statuses, .int v_isKept, .ref a_pile, .ref a_tape, .ref a_steps, .int v_taped, .int v_at, .int v_fault, .int v_laid, .int v_open, .ref a_wish, .ref a_mark, .ref a_bitsOf, .ref a_sizeOf, .ref a_number, .ref a_moved])), (a_tape, .inl (cI, 60, .inl v_tape))]
abbrev rX5_look : Room := { frames := 0, cells := 0, slots := 0, locals := 0 }
def fX5_look (v_taped : Int32) (v_at : Int32) (v_tape : Nat → Int32) : Option (Int32 × Unit) :=
  (if v_taped ≤ v_at then (
  some ((-1), ()))
  else (
  gIn v_at 60 (
  some (v_tape v_at.toNatClampNeg, ()))))
set_option maxRecDepth 100000 in
set_option maxHeartbeats 4000000 in
theorem tX5_look (l : Launch) (D : va_G) (cI cJ cZ cS : ClassId) (tb : Nat) (a_t a_s a_keptS a_statuses a_pile a_tape a_steps a_wish a_mark a_bitsOf a_sizeOf a_number a_moved : Nat) (sz : Nat) (v_isKept : Int32) (v_taped : Int32) (v_at : Int32) (v_fault : Int32) (v_laid : Int32) (v_open : Int32) (v_tape : Nat → Int32) (rr : Int32) (kk' : Unit) (hf : fX5_look v_taped v_at v_tape = some (rr, kk')) : Met l yX5_look (Cond.code yX5_look cX5_look 1 (some .int) :: wA) rX5_look (q_Pre D cI cJ cZ cS tb [.ref a_t] sz (wX5_look cI cJ cZ cS a_t a_s a_keptS a_statuses a_pile a_tape a_steps a_wish a_mark a_bitsOf a_sizeOf a_number a_moved v_isKept v_taped v_at v_fault v_laid v_open v_tape)) (q_Ri D rr (va_A (wX5_look cI cJ cZ cS a_t a_s a_keptS a_statuses a_pile a_tape a_steps a_wish a_mark a_bitsOf a_sizeOf a_number a_moved v_isKept v_taped v_at v_fault v_laid v_open v_tape) sz) ((fun k : Unit => (wX5_look cI cJ cZ cS a_t a_s a_keptS a_statuses a_pile a_tape a_steps a_wish a_mark a_bitsOf a_sizeOf a_number a_moved v_isKept v_taped v_at v_fault v_laid v_open v_tape)) kk')) 0 0 (va_A (wX5_look cI cJ cZ cS a_t a_s a_keptS a_statuses a_pile a_tape a_steps a_wish a_mark a_bitsOf a_sizeOf a_number a_moved v_isKept v_taped v_at v_fault v_laid v_open v_tape) sz) := by
  refine q_enter (Qf := fun A => (q_Ri D rr A ((fun k : Unit => (wX5_look cI cJ cZ cS a_t a_s a_keptS a_statuses a_pile a_tape a_steps a_wish a_mark a_bitsOf a_sizeOf a_number a_moved v_isKept v_taped v_at v_fault v_laid v_open v_tape)) kk'))) (by decide) rfl (Nat.le_of_ble_eq_true rfl) ?_
  intro p e s m below meth c A ls fx hname h hl
  have hx := fx.1
  have hb := fx.2.1
  have hl : lv_has ls 1 [(0, .ref a_t)] := hl
  generalize h9 : s.heap = H at h ⊢
  clear h9
  generalize h9 : ([] : List Loc) = locs at h ⊢
  clear h9
  unfold fX5_look at hf
  refine lv_aload_n hx hb dX5_look_0 rfl (lv_at hl 0 rfl) ?_
  refine q_get (v := .int v_at) fx inX5 h 0 rfl rfl 8 (by decide) k_644 rfl dX5_look_1 ?_
  refine lv_aload_n hx hb dX5_look_4 rfl (lv_at hl 0 rfl) ?_
  refine q_get (v := .int v_taped) fx inX5 h 0 rfl rfl 7 (by decide) k_643 rfl dX5_look_5 ?_
  refine lv_icmp_ge (tgt := 23) hx hb dX5_look_8 (by decide) (fun c1 => ?_) (fun c1 => ?_)
  · have hf := it_t c1 hf
    refine lv_iconst (v := -1) hx hb dX5_look_23 (by decide) ?_
    exact q_reti (fun k : Unit => (wX5_look cI cJ cZ cS a_t a_s a_keptS a_statuses a_pile a_tape a_steps a_wish a_mark a_bitsOf a_sizeOf a_number a_moved v_isKept v_taped v_at v_fault v_laid v_open v_tape)) fx hf h dX5_look_24
  have hf := it_f c1 hf
  refine lv_aload_n hx hb dX5_look_11 rfl (lv_at hl 0 rfl) ?_
  refine q_get (v := .ref a_tape) fx inX5 h 0 rfl rfl 5 (by decide) k_641 rfl dX5_look_12 ?_
  refine lv_aload_n hx hb dX5_look_15 rfl (lv_at hl 0 rfl) ?_
  refine q_get (v := .int v_at) fx inX5 h 0 rfl rfl 8 (by decide) k_644 rfl dX5_look_16 ?_
  obtain ⟨i2, hf⟩ := gIn_inv hf
  refine q_iald fx h 1 rfl i2 dX5_look_19 ?_
  refine lv_goto (tgt := 24) hx hb dX5_look_20 (by decide) ?_
  exact q_reti (fun k : Unit => (wX5_look cI cJ cZ cS a_t a_s a_keptS a_statuses a_pile a_tape a_steps a_wish a_mark a_bitsOf a_sizeOf a_number a_moved v_isKept v_taped v_at v_fault v_laid v_open v_tape)) fx hf h dX5_look_24
/-! X5_faulty -/
abbrev wX5_faulty (cI cJ cZ cS : ClassId) (a_t a_s a_keptS a_statuses a_pile a_tape a_steps a_wish a_mark a_bitsOf a_sizeOf a_number a_moved : Nat) (v_isKept : Int32) (v_taped : Int32) (v_at : Int32) (v_fault : Int32) (v_laid : Int32) (v_open : Int32) : va_W := [(a_t, .inr (5, [.ref a_s, .ref a_keptS, .ref a_statuses, .int v_isKept, .ref a_pile, .ref a_tape, .ref a_steps, .int v_taped, .int v_at, .int v_fault, .int v_laid, .int v_open, .ref a_wish, .ref a_mark, .ref a_bitsOf, .ref a_sizeOf, .ref a_number, .ref a_moved]))]
abbrev rX5_faulty : Room := { frames := 0, cells := 0, slots := 0, locals := 0 }
def fX5_faulty_19 (v_at : Int32) (v_fault : Int32) (s1 : Int32) : Option Int32 :=
  some s1
set_option maxRecDepth 100000 in
set_option maxHeartbeats 4000000 in
theorem LX5_faulty_19 {p : Program} {l : Launch} {e : Env} {s : State} {m : MethodId} {args : Array Value} {below : List Frame} {meth : Method} {c : Code} {D : va_G} {cI cJ cZ cS : ClassId} {tb : Nat} {A : Nat → Prop} {a_t a_s a_keptS a_statuses a_pile a_tape a_steps a_wish a_mark a_bitsOf a_sizeOf a_number a_moved : Nat} {v_isKept : Int32} {v_taped : Int32} {v_at : Int32} {v_laid : Int32} {v_open : Int32} {kk' : Int32} (fx : q_Fx p s m args meth c cX5_faulty 1 RX5 none D cI cJ cZ cS tb A) : ∀ {v_fault : Int32} {s1 : Int32} {H : Heap} {locs : List Loc} {ls : Array Slot}, q_H D A s (wX5_faulty cI cJ cZ cS a_t a_s a_keptS a_statuses a_pile a_tape a_steps a_wish a_mark a_bitsOf a_sizeOf a_number a_moved v_isKept v_taped v_at v_fault v_laid v_open) H locs → lv_has ls 1 [] → fX5_faulty_19 v_at v_fault s1 = some kk' → W p l e rX5_faulty s m args below meth c H locs 0 0 (MQ below (q_Rv D A ((fun k : Int32 => (wX5_faulty cI cJ cZ cS a_t a_s a_keptS a_statuses a_pile a_tape a_steps a_wish a_mark a_bitsOf a_sizeOf a_number a_moved v_isKept v_taped v_at k v_laid v_open)) kk')) args s 0 0 A) (F0 m 19 ls [.int s1, .ref a_t]) := by
  intro v_fault s1 H locs ls h hl hf
  have hx := fx.1
  have hb := fx.2.1
  unfold fX5_faulty_19 at hf
  refine q_put (v := .int s1) (ws' := (wX5_faulty cI cJ cZ cS a_t a_s a_keptS a_statuses a_pile a_tape a_steps a_wish a_mark a_bitsOf a_sizeOf a_number a_moved v_isKept v_taped v_at s1 v_laid v_open)) fx inX5 tyX5 tyX5_ok nmX5 h 0 rfl rfl 9 (by decide) k_645 rfl rfl rfl (Nat.le_of_ble_eq_true rfl) rfl dX5_faulty_19 (fun H locs h => ?_)
  exact q_retv (fun k : Int32 => (wX5_faulty cI cJ cZ cS a_t a_s a_keptS a_statuses a_pile a_tape a_steps a_wish a_mark a_bitsOf a_sizeOf a_number a_moved v_isKept v_taped v_at k v_laid v_open)) fx hf h dX5_faulty_22
def fX5_faulty (v_at : Int32) (v_fault : Int32) : Option Int32 :=
  (if (0 : Int32) ≤ v_fault then (
  fX5_faulty_19 v_at v_fault v_fault)
  else (
  fX5_faulty_19 v_at v_fault v_at))
set_option maxRecDepth 100000 in
set_option maxHeartbeats 4000000 in
theorem tX5_faulty (l : Launch) (D : va_G) (cI cJ cZ cS : ClassId) (tb : Nat) (a_t a_s a_keptS a_statuses a_pile a_tape a_steps a_wish a_mark a_bitsOf a_sizeOf a_number a_moved : Nat) (sz : Nat) (v_isKept : Int32) (v_taped : Int32) (v_at : Int32) (v_fault : Int32) (v_laid : Int32) (v_open : Int32) (kk' : Int32) (hf : fX5_faulty v_at v_fault = some kk') : Met l yX5_faulty (Cond.code yX5_faulty cX5_faulty 1 none :: wA) rX5_faulty (q_Pre D cI cJ cZ cS tb [.ref a_t] sz (wX5_faulty cI cJ cZ cS a_t a_s a_keptS a_statuses a_pile a_tape a_steps a_wish a_mark a_bitsOf a_sizeOf a_number a_moved v_isKept v_taped v_at v_fault v_laid v_open)) (q_Rv D (va_A (wX5_faulty cI cJ cZ cS a_t a_s a_keptS a_statuses a_pile a_tape a_steps a_wish a_mark a_bitsOf a_sizeOf a_number a_moved v_isKept v_taped v_at v_fault v_laid v_open) sz) ((fun k : Int32 => (wX5_faulty cI cJ cZ cS a_t a_s a_keptS a_statuses a_pile a_tape a_steps a_wish a_mark a_bitsOf a_sizeOf a_number a_moved v_isKept v_taped v_at k v_laid v_open)) kk')) 0 0 (va_A (wX5_faulty cI cJ cZ cS a_t a_s a_keptS a_statuses a_pile a_tape a_steps a_wish a_mark a_bitsOf a_sizeOf a_number a_moved v_isKept v_taped v_at v_fault v_laid v_open) sz) := by
  refine q_enter (Qf := fun A => (q_Rv D A ((fun k : Int32 => (wX5_faulty cI cJ cZ cS a_t a_s a_keptS a_statuses a_pile a_tape a_steps a_wish a_mark a_bitsOf a_sizeOf a_number a_moved v_isKept v_taped v_at k v_laid v_open)) kk'))) (by decide) rfl (Nat.le_of_ble_eq_true rfl) ?_
  intro p e s m below meth c A ls fx hname h hl
  have hx := fx.1
  have hb := fx.2.1
  have hl : lv_has ls 1 [(0, .ref a_t)] := hl
  generalize h9 : s.heap = H at h ⊢
  clear h9
  generalize h9 : ([] : List Loc) = locs at h ⊢
  clear h9
  unfold fX5_faulty at hf
  refine lv_aload_n hx hb dX5_faulty_0 rfl (lv_at hl 0 rfl) ?_
  refine lv_aload_n hx hb dX5_faulty_1 rfl (lv_at hl 0 rfl) ?_
  refine q_get (v := .int v_fault) fx inX5 h 0 rfl rfl 9 (by decide) k_645 rfl dX5_faulty_2 ?_
  refine lv_if_ge (tgt := 15) hx hb dX5_faulty_5 (by decide) (fun c1 => ?_) (fun c1 => ?_)
  · have hf := it_t c1 hf
    refine lv_aload_n hx hb dX5_faulty_15 rfl (lv_at hl 0 rfl) ?_
    refine q_get (v := .int v_fault) fx inX5 h 0 rfl rfl 9 (by decide) k_645 rfl dX5_faulty_16 ?_
    exact LX5_faulty_19 fx h (lv_sub hl [] rfl) hf
  have hf := it_f c1 hf
  refine lv_aload_n hx hb dX5_faulty_8 rfl (lv_at hl 0 rfl) ?_
  refine q_get (v := .int v_at) fx inX5 h 0 rfl rfl 8 (by decide) k_644 rfl dX5_faulty_9 ?_
  refine lv_goto (tgt := 19) hx hb dX5_faulty_12 (by decide) ?_
  exact LX5_faulty_19 fx h (lv_sub hl [] rfl) hf
/-! X5_lay -/
abbrev wX5_lay (cI cJ cZ cS : ClassId) (a_t a_s a_keptS a_statuses a_pile a_tape a_steps a_wish a_mark a_bitsOf a_sizeOf a_number a_moved : Nat) (v_isKept : Int32) (v_taped : Int32) (v_at : Int32) (v_fault : Int32) (v_laid : Int32) (v_open : Int32) (v_steps : Nat → Int32) : va_W := [(a_t, .inr (5, [.ref a_s, .ref a_keptS, .ref a_statuses, .int v_isKept, .ref a_pile, .ref a_tape, .ref a_steps, .int v_taped, .int v_at, .int v_fault, .int v_laid, .int v_open, .ref a_wish, .ref a_mark, .ref a_bitsOf, .ref a_sizeOf, .ref a_number, .ref a_moved])), (a_steps, .inl (cI, 64, .inl v_steps))]
abbrev rX5_lay : Room := { frames := 0, cells := 0, slots := 0, locals := 0 }
def fX5_lay (v_at : Int32) (v_laid : Int32) (v_steps : Nat → Int32) (x1 : Int32) : Option (Int32 × Int32 × (Nat → Int32)) :=
  gIn v_laid 64 (
  nm (v_laid + 1) (fun u2 =>
  nm (v_at + 1) (fun u3 =>
  some (u3, u2, (upd v_steps v_laid.toNatClampNeg x1)))))
set_option maxRecDepth 100000 in
set_option maxHeartbeats 4000000 in
theorem tX5_lay (l : Launch) (D : va_G) (cI cJ cZ cS : ClassId) (tb : Nat) (a_t a_s a_keptS a_statuses a_pile a_tape a_steps a_wish a_mark a_bitsOf a_sizeOf a_number a_moved : Nat) (sz : Nat) (v_isKept : Int32) (v_taped : Int32) (v_at : Int32) (v_fault : Int32) (v_laid : Int32) (v_open : Int32) (v_steps : Nat → Int32) (x1 : Int32) (kk' : Int32 × Int32 × (Nat → Int32)) (hf : fX5_lay v_at v_laid v_steps x1 = some kk') : Met l yX5_lay (Cond.code yX5_lay cX5_lay 2 none :: wA) rX5_lay (q_Pre D cI cJ cZ cS tb [.ref a_t, .int x1] sz (wX5_lay cI cJ cZ cS a_t a_s a_keptS a_statuses a_pile a_tape a_steps a_wish a_mark a_bitsOf a_sizeOf a_number a_moved v_isKept v_taped v_at v_fault v_laid v_open v_steps)) (q_Rv D (va_A (wX5_lay cI cJ cZ cS a_t a_s a_keptS a_statuses a_pile a_tape a_steps a_wish a_mark a_bitsOf a_sizeOf a_number a_moved v_isKept v_taped v_at v_fault v_laid v_open v_steps) sz) ((fun k : Int32 × Int32 × (Nat → Int32) => (wX5_lay cI cJ cZ cS a_t a_s a_keptS a_statuses a_pile a_tape a_steps a_wish a_mark a_bitsOf a_sizeOf a_number a_moved v_isKept v_taped k.1 v_fault k.2.1 v_open k.2.2)) kk')) 0 0 (va_A (wX5_lay cI cJ cZ cS a_t a_s a_keptS a_statuses a_pile a_tape a_steps a_wish a_mark a_bitsOf a_sizeOf a_number a_moved v_isKept v_taped v_at v_fault v_laid v_open v_steps) sz) := by
  refine q_enter (Qf := fun A => (q_Rv D A ((fun k : Int32 × Int32 × (Nat → Int32) => (wX5_lay cI cJ cZ cS a_t a_s a_keptS a_statuses a_pile a_tape a_steps a_wish a_mark a_bitsOf a_sizeOf a_number a_moved v_isKept v_taped k.1 v_fault k.2.1 v_open k.2.2)) kk'))) (by decide) rfl (Nat.le_of_ble_eq_true rfl) ?_
  intro p e s m below meth c A ls fx hname h hl
  have hx := fx.1
  have hb := fx.2.1
  have hl : lv_has ls 2 [(0, .ref a_t), (1, .int x1)] := hl
  generalize h9 : s.heap = H at h ⊢
  clear h9
  generalize h9 : ([] : List Loc) = locs at h ⊢
  clear h9
  unfold fX5_lay at hf
  refine lv_aload_n hx hb dX5_lay_0 rfl (lv_at hl 0 rfl) ?_
  refine q_get (v := .ref a_steps) fx inX5 h 0 rfl rfl 6 (by decide) k_642 rfl dX5_lay_1 ?_
  refine lv_aload_n hx hb dX5_lay_4 rfl (lv_at hl 0 rfl) ?_
  refine q_get (v := .int v_laid) fx inX5 h 0 rfl rfl 10 (by decide) k_646 rfl dX5_lay_5 ?_
  refine lv_iload_n hx hb dX5_lay_8 rfl (lv_at hl 1 rfl) ?_
  obtain ⟨i1, hf⟩ := gIn_inv hf
  refine q_iast (ws' := (wX5_lay cI cJ cZ cS a_t a_s a_keptS a_statuses a_pile a_tape a_steps a_wish a_mark a_bitsOf a_sizeOf a_number a_moved v_isKept v_taped v_at v_fault v_laid v_open (upd v_steps v_laid.toNatClampNeg x1))) fx h 1 rfl i1 rfl dX5_lay_9 (fun H locs h => ?_)
  refine lv_aload_n hx hb dX5_lay_10 rfl (lv_at hl 0 rfl) ?_
  refine lv_dup hx hb dX5_lay_11 rfl ?_
  refine q_get (v := .int v_laid) fx inX5 h 0 rfl rfl 10 (by decide) k_646 rfl dX5_lay_12 ?_
  refine lv_iconst (v := 1) hx hb dX5_lay_15 (by decide) ?_
  refine lv_iadd hx hb dX5_lay_16 ?_
  obtain ⟨u2, eu2, hf⟩ := nm_inv hf
  refine lv_eqi eu2 ?_
  refine q_put (v := .int u2) (ws' := (wX5_lay cI cJ cZ cS a_t a_s a_keptS a_statuses a_pile a_tape a_steps a_wish a_mark a_bitsOf a_sizeOf a_number a_moved v_isKept v_taped v_at v_fault u2 v_open (upd v_steps v_laid.toNatClampNeg x1))) fx inX5 tyX5 tyX5_ok nmX5 h 0 rfl rfl 10 (by decide) k_646 rfl rfl rfl (Nat.le_of_ble_eq_true rfl) rfl dX5_lay_17 (fun H locs h => ?_)
  refine lv_aload_n hx hb dX5_lay_20 rfl (lv_at hl 0 rfl) ?_
  refine lv_dup hx hb dX5_lay_21 rfl ?_
  refine q_get (v := .int v_at) fx inX5 h 0 rfl rfl 8 (by decide) k_644 rfl dX5_lay_22 ?_
  refine lv_iconst (v := 1) hx hb dX5_lay_25 (by decide) ?_
  refine lv_iadd hx hb dX5_lay_26 ?_
  obtain ⟨u3, eu3, hf⟩ := nm_inv hf
  refine lv_eqi eu3 ?_
  refine q_put (v := .int u3) (ws' := (wX5_lay cI cJ cZ cS a_t a_s a_keptS a_statuses a_pile a_tape a_steps a_wish a_mark a_bitsOf a_sizeOf a_number a_moved v_isKept v_taped u3 v_fault u2 v_open (upd v_steps v_laid.toNatClampNeg x1))) fx inX5 tyX5 tyX5_ok nmX5 h 0 rfl rfl 8 (by decide) k_644 rfl rfl rfl (Nat.le_of_ble_eq_true rfl) rfl dX5_lay_27 (fun H locs h => ?_)
  exact q_retv (fun k : Int32 × Int32 × (Nat → Int32) => (wX5_lay cI cJ cZ cS a_t a_s a_keptS a_statuses a_pile a_tape a_steps a_wish a_mark a_bitsOf a_sizeOf a_number a_moved v_isKept v_taped k.1 v_fault k.2.1 v_open k.2.2)) fx hf h dX5_lay_30
/-! X5_opens -/
abbrev wX5_opens (cI cJ cZ cS : ClassId) (a_t a_s a_keptS a_statuses a_pile a_tape a_steps a_wish a_mark a_bitsOf a_sizeOf a_number a_moved : Nat) (v_isKept : Int32) (v_taped : Int32) (v_at : Int32) (v_fault : Int32) (v_laid : Int32) (v_open : Int32) : va_W := [(a_t, .inr (5, [.ref a_s, .ref a_keptS, .ref a_statuses, .int v_isKept, .ref a_pile, .ref a_tape, .ref a_steps, .int v_taped, .int v_at, .int v_fault, .int v_laid, .int v_open, .ref a_wish, .ref a_mark, .ref a_bitsOf, .ref a_sizeOf, .ref a_number, .ref a_moved]))]
abbrev rX5_opens : Room := { frames := 1, cells := 0, slots := 0, locals := 20 }
def fX5_opens (v_at : Int32) (v_fault : Int32) (v_open : Int32) : Option (Int32 × Int32 × Int32 × Int32) :=
  (if v_open = 6 then (
  bV (fX5_faulty v_at v_fault) (fun k4 =>
  some (0, (v_at, k4, v_open))))
  else (
  nm (v_open + 1) (fun u2 =>
  nm (v_at + 1) (fun u3 =>
  some (1, (u3, v_fault, u2))))))
set_option maxRecDepth 100000 in
set_option maxHeartbeats 4000000 in
theorem tX5_opens (l : Launch) (D : va_G) (cI cJ cZ cS : ClassId) (tb : Nat) (a_t a_s a_keptS a_statuses a_pile a_tape a_steps a_wish a_mark a_bitsOf a_sizeOf a_number a_moved : Nat) (sz : Nat) (v_isKept : Int32) (v_taped : Int32) (v_at : Int32) (v_fault : Int32) (v_laid : Int32) (v_open : Int32) (rr : Int32) (kk' : Int32 × Int32 × Int32) (hf : fX5_opens v_at v_fault v_open = some (rr, kk')) : Met l yX5_opens (Cond.code yX5_opens cX5_opens 1 (some .boolean) :: wA) rX5_opens (q_Pre D cI cJ cZ cS tb [.ref a_t] sz (wX5_opens cI cJ cZ cS a_t a_s a_keptS a_statuses a_pile a_tape a_steps a_wish a_mark a_bitsOf a_sizeOf a_number a_moved v_isKept v_taped v_at v_fault v_laid v_open)) (q_Ri D rr (va_A (wX5_opens cI cJ cZ cS a_t a_s a_keptS a_statuses a_pile a_tape a_steps a_wish a_mark a_bitsOf a_sizeOf a_number a_moved v_isKept v_taped v_at v_fault v_laid v_open) sz) ((fun k : Int32 × Int32 × Int32 => (wX5_opens cI cJ cZ cS a_t a_s a_keptS a_statuses a_pile a_tape a_steps a_wish a_mark a_bitsOf a_sizeOf a_number a_moved v_isKept v_taped k.1 k.2.1 v_laid k.2.2)) kk')) 0 0 (va_A (wX5_opens cI cJ cZ cS a_t a_s a_keptS a_statuses a_pile a_tape a_steps a_wish a_mark a_bitsOf a_sizeOf a_number a_moved v_isKept v_taped v_at v_fault v_laid v_open) sz) := by
  refine q_enter (Qf := fun A => (q_Ri D rr A ((fun k : Int32 × Int32 × Int32 => (wX5_opens cI cJ cZ cS a_t a_s a_keptS a_statuses a_pile a_tape a_steps a_wish a_mark a_bitsOf a_sizeOf a_number a_moved v_isKept v_taped k.1 k.2.1 v_laid k.2.2)) kk'))) (by decide) rfl (Nat.le_of_ble_eq_true rfl) ?_
  intro p e s m below meth c A ls fx hname h hl
  have hx := fx.1
  have hb := fx.2.1
  have hl : lv_has ls 1 [(0, .ref a_t)] := hl
  generalize h9 : s.heap = H at h ⊢
  clear h9
  generalize h9 : ([] : List Loc) = locs at h ⊢
  clear h9
  unfold fX5_opens at hf
  refine lv_aload_n hx hb dX5_opens_0 rfl (lv_at hl 0 rfl) ?_
  refine q_get (v := .int v_open) fx inX5 h 0 rfl rfl 11 (by decide) k_647 rfl dX5_opens_1 ?_
  refine lv_bipush (v := 6) hx hb dX5_opens_4 (by decide) ?_
  refine lv_icmp_ne (tgt := 15) hx hb dX5_opens_6 (by decide) (fun c1 => ?_) (fun c1 => ?_)
  · have hf := it_f c1 hf
    refine lv_aload_n hx hb dX5_opens_15 rfl (lv_at hl 0 rfl) ?_
    refine lv_dup hx hb dX5_opens_16 rfl ?_
    refine q_get (v := .int v_open) fx inX5 h 0 rfl rfl 11 (by decide) k_647 rfl dX5_opens_17 ?_
    refine lv_iconst (v := 1) hx hb dX5_opens_20 (by decide) ?_
    refine lv_iadd hx hb dX5_opens_21 ?_
    obtain ⟨u2, eu2, hf⟩ := nm_inv hf
    refine lv_eqi eu2 ?_
    refine q_put (v := .int u2) (ws' := (wX5_opens cI cJ cZ cS a_t a_s a_keptS a_statuses a_pile a_tape a_steps a_wish a_mark a_bitsOf a_sizeOf a_number a_moved v_isKept v_taped v_at v_fault v_laid u2)) fx inX5 tyX5 tyX5_ok nmX5 h 0 rfl rfl 11 (by decide) k_647 rfl rfl rfl (Nat.le_of_ble_eq_true rfl) rfl dX5_opens_22 (fun H locs h => ?_)
    refine lv_aload_n hx hb dX5_opens_25 rfl (lv_at hl 0 rfl) ?_
    refine lv_dup hx hb dX5_opens_26 rfl ?_
    refine q_get (v := .int v_at) fx inX5 h 0 rfl rfl 8 (by decide) k_644 rfl dX5_opens_27 ?_
    refine lv_iconst (v := 1) hx hb dX5_opens_30 (by decide) ?_
    refine lv_iadd hx hb dX5_opens_31 ?_
    obtain ⟨u3, eu3, hf⟩ := nm_inv hf
    refine lv_eqi eu3 ?_
    refine q_put (v := .int u3) (ws' := (wX5_opens cI cJ cZ cS a_t a_s a_keptS a_statuses a_pile a_tape a_steps a_wish a_mark a_bitsOf a_sizeOf a_number a_moved v_isKept v_taped u3 v_fault v_laid u2)) fx inX5 tyX5 tyX5_ok nmX5 h 0 rfl rfl 8 (by decide) k_644 rfl rfl rfl (Nat.le_of_ble_eq_true rfl) rfl dX5_opens_32 (fun H locs h => ?_)
    refine lv_iconst (v := 1) hx hb dX5_opens_35 (by decide) ?_
    exact q_retz (fun k : Int32 × Int32 × Int32 => (wX5_opens cI cJ cZ cS a_t a_s a_keptS a_statuses a_pile a_tape a_steps a_wish a_mark a_bitsOf a_sizeOf a_number a_moved v_isKept v_taped k.1 k.2.1 v_laid k.2.2)) fx rfl hf h dX5_opens_36
  have hf := it_t c1 hf
  refine lv_aload_n hx hb dX5_opens_9 rfl (lv_at hl 0 rfl) ?_
  obtain ⟨k4, hg, hf⟩ := bV_inv hf
  refine q_cv (rest := []) (ws' := (wX5_opens cI cJ cZ cS a_t a_s a_keptS a_statuses a_pile a_tape a_steps a_wish a_mark a_bitsOf a_sizeOf a_number a_moved v_isKept v_taped v_at k4 v_laid v_open)) (w1 := (wX5_faulty cI cJ cZ cS a_t a_s a_keptS a_statuses a_pile a_tape a_steps a_wish a_mark a_bitsOf a_sizeOf a_number a_moved v_isKept v_taped v_at k4 v_laid v_open)) fx h [0] rfl rfl rfl rfl (q_runV fx h hl.1 [0] rfl rfl (tX5_faulty l D cI cJ cZ cS tb a_t a_s a_keptS a_statuses a_pile a_tape a_steps a_wish a_mark a_bitsOf a_sizeOf a_number a_moved H.size v_isKept v_taped v_at v_fault v_laid v_open k4 hg) mvX5_faulty k_783 ⟨rfl, rfl⟩ ⟨Nat.le_of_ble_eq_true rfl, Nat.le_of_ble_eq_true rfl⟩ rfl rfl rfl rfl (Nat.le_of_ble_eq_true rfl) dX5_opens_10 ⟨Nat.le_of_ble_eq_true rfl, Nat.le_of_ble_eq_true rfl⟩) (fun H locs h => ?_)
  refine lv_iconst (v := 0) hx hb dX5_opens_13 (by decide) ?_
  exact q_retz (fun k : Int32 × Int32 × Int32 => (wX5_opens cI cJ cZ cS a_t a_s a_keptS a_statuses a_pile a_tape a_steps a_wish a_mark a_bitsOf a_sizeOf a_number a_moved v_isKept v_taped k.1 k.2.1 v_laid k.2.2)) fx rfl hf h dX5_opens_14
/-! X5_counted -/
abbrev wX5_counted (cI cJ cZ cS : ClassId) (a_t a_s a_keptS a_statuses a_pile a_tape a_steps a_wish a_mark a_bitsOf a_sizeOf a_number a_moved : Nat) (v_isKept : Int32) (v_taped : Int32) (v_at : Int32) (v_fault : Int32) (v_laid : Int32) (v_open : Int32) (v_tape : Nat → Int32) (v_steps : Nat → Int32) : va_W := [(a_t, .inr (5, [.ref a_s, .ref a_keptS, .ref a_statuses, .int v_isKept, .ref a_pile, .ref a_tape, .ref a_steps, .int v_taped, .int v_at, .int v_fault, .int v_laid, .int v_open, .ref a_wish, .ref a_mark, .ref a_bitsOf, .ref a_sizeOf, .ref a_number, .ref a_moved])), (a_tape, .inl (cI, 60, .inl v_tape)), (a_steps, .inl (cI, 64, .inl v_steps))]
abbrev rX5_counted : Room := { frames := 1, cells := 0, slots := 0, locals := 25 }
def fX5_counted_49 (v_taped : Int32) (v_tape : Nat → Int32) (v_at : Int32) (v_fault : Int32) (v_laid : Int32) (v_steps : Nat → Int32) (s0 : Int32) : Option (Int32 × Int32 × Int32 × (Nat → Int32)) :=
  (if (0 : Int32) ≤ s0 then (
  nm (v_at + 1) (fun u2 =>
  bR (fX5_look v_taped u2 v_tape) (fun r3 k3 =>
  bR (fX5_in (r3.toInt64) 48 57) (fun r4 k4 =>
  (if r4 = 0 then (
  bV (fX5_faulty u2 v_fault) (fun k8 =>
  some (u2, k8, v_laid, v_steps)))
  else (
  bR (fX5_look v_taped u2 v_tape) (fun r6 k6 =>
  bV (fX5_lay u2 v_laid v_steps ((s0 + r6) - 48)) (fun k7 =>
  some (k7.1, v_fault, k7.2.1, k7.2.2)))))))))
  else (
  bV (fX5_faulty v_at v_fault) (fun k9 =>
  some (v_at, k9, v_laid, v_steps))))
set_option maxRecDepth 100000 in
set_option maxHeartbeats 4000000 in
theorem LX5_counted_49 {p : Program} {l : Launch} {e : Env} {s : State} {m : MethodId} {args : Array Value} {below : List Frame} {meth : Method} {c : Code} {D : va_G} {cI cJ cZ cS : ClassId} {tb : Nat} {A : Nat → Prop} {a_t a_s a_keptS a_statuses a_pile a_tape a_steps a_wish a_mark a_bitsOf a_sizeOf a_number a_moved : Nat} {v_isKept : Int32} {v_taped : Int32} {v_open : Int32} {v_tape : Nat → Int32} {kk' : Int32 × Int32 × Int32 × (Nat → Int32)} (fx : q_Fx p s m args meth c cX5_counted 3 RX5 none D cI cJ cZ cS tb A) : ∀ {v_at : Int32} {v_fault : Int32} {v_laid : Int32} {v_steps : Nat → Int32} {s0 : Int32} {H : Heap} {locs : List Loc} {ls : Array Slot}, q_H D A s (wX5_counted cI cJ cZ cS a_t a_s a_keptS a_statuses a_pile a_tape a_steps a_wish a_mark a_bitsOf a_sizeOf a_number a_moved v_isKept v_taped v_at v_fault v_laid v_open v_tape v_steps) H locs → lv_has ls 3 [(0, .ref a_t)] → fX5_counted_49 v_taped v_tape v_at v_fault v_laid v_steps s0 = some kk' → W p l e rX5_counted s m args below meth c H locs 0 0 (MQ below (q_Rv D A ((fun k : Int32 × Int32 × Int32 × (Nat → Int32) => (wX5_counted cI cJ cZ cS a_t a_s a_keptS a_statuses a_pile a_tape a_steps a_wish a_mark a_bitsOf a_sizeOf a_number a_moved v_isKept v_taped k.1 k.2.1 k.2.2.1 v_open v_tape k.2.2.2)) kk')) args s 0 0 A) (F0 m 49 ls [.int s0]) := by
  intro v_at v_fault v_laid v_steps s0 H locs ls h hl hf
  have hx := fx.1
  have hb := fx.2.1
  unfold fX5_counted_49 at hf
  refine lv_istore_n (lv' := [(2, .int s0), (0, .ref a_t)]) hx hb dX5_counted_49 rfl hl (by decide) rfl (fun ls hl => ?_)
  refine lv_iload_n hx hb dX5_counted_50 rfl (lv_at hl 0 rfl) ?_
  refine lv_if_ge (tgt := 59) hx hb dX5_counted_51 (by decide) (fun c1 => ?_) (fun c1 => ?_)
  · have hf := it_t c1 hf
    refine lv_aload_n hx hb dX5_counted_59 rfl (lv_at hl 1 rfl) ?_
    refine lv_dup hx hb dX5_counted_60 rfl ?_
    refine q_get (v := .int v_at) fx inX5 h 0 rfl rfl 8 (by decide) k_644 rfl dX5_counted_61 ?_
    refine lv_iconst (v := 1) hx hb dX5_counted_64 (by decide) ?_
    refine lv_iadd hx hb dX5_counted_65 ?_
    obtain ⟨u2, eu2, hf⟩ := nm_inv hf
    refine lv_eqi eu2 ?_
    refine q_put (v := .int u2) (ws' := (wX5_counted cI cJ cZ cS a_t a_s a_keptS a_statuses a_pile a_tape a_steps a_wish a_mark a_bitsOf a_sizeOf a_number a_moved v_isKept v_taped u2 v_fault v_laid v_open v_tape v_steps)) fx inX5 tyX5 tyX5_ok nmX5 h 0 rfl rfl 8 (by decide) k_644 rfl rfl rfl (Nat.le_of_ble_eq_true rfl) rfl dX5_counted_66 (fun H locs h => ?_)
    refine lv_aload_n hx hb dX5_counted_69 rfl (lv_at hl 1 rfl) ?_
    obtain ⟨r3, k3, hg, hf⟩ := bR_inv hf
    refine q_ci (rest := []) (ws' := (wX5_counted cI cJ cZ cS a_t a_s a_keptS a_statuses a_pile a_tape a_steps a_wish a_mark a_bitsOf a_sizeOf a_number a_moved v_isKept v_taped u2 v_fault v_laid v_open v_tape v_steps)) (w1 := (wX5_look cI cJ cZ cS a_t a_s a_keptS a_statuses a_pile a_tape a_steps a_wish a_mark a_bitsOf a_sizeOf a_number a_moved v_isKept v_taped u2 v_fault v_laid v_open v_tape)) fx h [0, 1] rfl rfl rfl rfl (q_runV fx h hl.1 [0, 1] rfl rfl (tX5_look l D cI cJ cZ cS tb a_t a_s a_keptS a_statuses a_pile a_tape a_steps a_wish a_mark a_bitsOf a_sizeOf a_number a_moved H.size v_isKept v_taped u2 v_fault v_laid v_open v_tape r3 k3 hg) mvX5_look k_769 ⟨rfl, rfl⟩ ⟨Nat.le_of_ble_eq_true rfl, Nat.le_of_ble_eq_true rfl⟩ rfl rfl rfl rfl (Nat.le_of_ble_eq_true rfl) dX5_counted_70 ⟨Nat.le_of_ble_eq_true rfl, Nat.le_of_ble_eq_true rfl⟩) (fun H locs h => ?_)
    refine lv_i2l hx hb dX5_counted_73 rfl ?_
    refine q_ldc2 fx k_787 dX5_counted_74 ?_
    refine q_ldc2 fx k_788 dX5_counted_77 ?_
    obtain ⟨r4, k4, hg, hf⟩ := bR_inv hf
    refine q_ci (rest := []) (ws' := (wX5_counted cI cJ cZ cS a_t a_s a_keptS a_statuses a_pile a_tape a_steps a_wish a_mark a_bitsOf a_sizeOf a_number a_moved v_isKept v_taped u2 v_fault v_laid v_open v_tape v_steps)) (w1 := (wX5_in cI cJ cZ cS)) fx h [] rfl rfl rfl rfl (q_runS fx h hl.1 [] rfl rfl (tX5_in l D cI cJ cZ cS tb H.size (r3.toInt64) 48 57 r4 k4 hg) msX5_in k_697 ⟨rfl, rfl⟩ ⟨Nat.le_of_ble_eq_true rfl, Nat.le_of_ble_eq_true rfl⟩ rfl rfl (Nat.le_of_ble_eq_true rfl) dX5_counted_80 ⟨Nat.le_of_ble_eq_true rfl, Nat.le_of_ble_eq_true rfl⟩) (fun H locs h => ?_)
    refine lv_if_ne (tgt := 91) hx hb dX5_counted_83 (by decide) (fun c5 => ?_) (fun c5 => ?_)
    · have hf := it_f c5 hf
      refine lv_aload_n hx hb dX5_counted_91 rfl (lv_at hl 1 rfl) ?_
      refine lv_iload_n hx hb dX5_counted_92 rfl (lv_at hl 0 rfl) ?_
      refine lv_aload_n hx hb dX5_counted_93 rfl (lv_at hl 1 rfl) ?_
      obtain ⟨r6, k6, hg, hf⟩ := bR_inv hf
      refine q_ci (rest := [.int s0, .ref a_t]) (ws' := (wX5_counted cI cJ cZ cS a_t a_s a_keptS a_statuses a_pile a_tape a_steps a_wish a_mark a_bitsOf a_sizeOf a_number a_moved v_isKept v_taped u2 v_fault v_laid v_open v_tape v_steps)) (w1 := (wX5_look cI cJ cZ cS a_t a_s a_keptS a_statuses a_pile a_tape a_steps a_wish a_mark a_bitsOf a_sizeOf a_number a_moved v_isKept v_taped u2 v_fault v_laid v_open v_tape)) fx h [0, 1] rfl rfl rfl rfl (q_runV fx h hl.1 [0, 1] rfl rfl (tX5_look l D cI cJ cZ cS tb a_t a_s a_keptS a_statuses a_pile a_tape a_steps a_wish a_mark a_bitsOf a_sizeOf a_number a_moved H.size v_isKept v_taped u2 v_fault v_laid v_open v_tape r6 k6 hg) mvX5_look k_769 ⟨rfl, rfl⟩ ⟨Nat.le_of_ble_eq_true rfl, Nat.le_of_ble_eq_true rfl⟩ rfl rfl rfl rfl (Nat.le_of_ble_eq_true rfl) dX5_counted_94 ⟨Nat.le_of_ble_eq_true rfl, Nat.le_of_ble_eq_true rfl⟩) (fun H locs h => ?_)
      refine lv_iadd hx hb dX5_counted_97 ?_
      refine lv_bipush (v := 48) hx hb dX5_counted_98 (by decide) ?_
      refine lv_isub hx hb dX5_counted_100 ?_
      obtain ⟨k7, hg, hf⟩ := bV_inv hf
      refine q_cv (rest := []) (ws' := (wX5_counted cI cJ cZ cS a_t a_s a_keptS a_statuses a_pile a_tape a_steps a_wish a_mark a_bitsOf a_sizeOf a_number a_moved v_isKept v_taped k7.1 v_fault k7.2.1 v_open v_tape k7.2.2)) (w1 := (wX5_lay cI cJ cZ cS a_t a_s a_keptS a_statuses a_pile a_tape a_steps a_wish a_mark a_bitsOf a_sizeOf a_number a_moved v_isKept v_taped k7.1 v_fault k7.2.1 v_open k7.2.2)) fx h [0, 2] rfl rfl rfl rfl (q_runV fx h hl.1 [0, 2] rfl rfl (tX5_lay l D cI cJ cZ cS tb a_t a_s a_keptS a_statuses a_pile a_tape a_steps a_wish a_mark a_bitsOf a_sizeOf a_number a_moved H.size v_isKept v_taped u2 v_fault v_laid v_open v_steps ((s0 + r6) - 48) k7 hg) mvX5_lay k_775 ⟨rfl, rfl⟩ ⟨Nat.le_of_ble_eq_true rfl, Nat.le_of_ble_eq_true rfl⟩ rfl rfl rfl rfl (Nat.le_of_ble_eq_true rfl) dX5_counted_101 ⟨Nat.le_of_ble_eq_true rfl, Nat.le_of_ble_eq_true rfl⟩) (fun H locs h => ?_)
      exact q_retv (fun k : Int32 × Int32 × Int32 × (Nat → Int32) => (wX5_counted cI cJ cZ cS a_t a_s a_keptS a_statuses a_pile a_tape a_steps a_wish a_mark a_bitsOf a_sizeOf a_number a_moved v_isKept v_taped k.1 k.2.1 k.2.2.1 v_open v_tape k.2.2.2)) fx hf h dX5_counted_104
    have hf := it_t c5 hf
    refine lv_aload_n hx hb dX5_counted_86 rfl (lv_at hl 1 rfl) ?_
    obtain ⟨k8, hg, hf⟩ := bV_inv hf
    refine q_cv (rest := []) (ws' := (wX5_counted cI cJ cZ cS a_t a_s a_keptS a_statuses a_pile a_tape a_steps a_wish a_mark a_bitsOf a_sizeOf a_number a_moved v_isKept v_taped u2 k8 v_laid v_open v_tape v_steps)) (w1 := (wX5_faulty cI cJ cZ cS a_t a_s a_keptS a_statuses a_pile a_tape a_steps a_wish a_mark a_bitsOf a_sizeOf a_number a_moved v_isKept v_taped u2 k8 v_laid v_open)) fx h [0] rfl rfl rfl rfl (q_runV fx h hl.1 [0] rfl rfl (tX5_faulty l D cI cJ cZ cS tb a_t a_s a_keptS a_statuses a_pile a_tape a_steps a_wish a_mark a_bitsOf a_sizeOf a_number a_moved H.size v_isKept v_taped u2 v_fault v_laid v_open k8 hg) mvX5_faulty k_783 ⟨rfl, rfl⟩ ⟨Nat.le_of_ble_eq_true rfl, Nat.le_of_ble_eq_true rfl⟩ rfl rfl rfl rfl (Nat.le_of_ble_eq_true rfl) dX5_counted_87 ⟨Nat.le_of_ble_eq_true rfl, Nat.le_of_ble_eq_true rfl⟩) (fun H locs h => ?_)
    exact q_retv (fun k : Int32 × Int32 × Int32 × (Nat → Int32) => (wX5_counted cI cJ cZ cS a_t a_s a_keptS a_statuses a_pile a_tape a_steps a_wish a_mark a_bitsOf a_sizeOf a_number a_moved v_isKept v_taped k.1 k.2.1 k.2.2.1 v_open v_tape k.2.2.2)) fx hf h dX5_counted_90
  have hf := it_f c1 hf
  refine lv_aload_n hx hb dX5_counted_54 rfl (lv_at hl 1 rfl) ?_
  obtain ⟨k9, hg, hf⟩ := bV_inv hf
  refine q_cv (rest := []) (ws' := (wX5_counted cI cJ cZ cS a_t a_s a_keptS a_statuses a_pile a_tape a_steps a_wish a_mark a_bitsOf a_sizeOf a_number a_moved v_isKept v_taped v_at k9 v_laid v_open v_tape v_steps)) (w1 := (wX5_faulty cI cJ cZ cS a_t a_s a_keptS a_statuses a_pile a_tape a_steps a_wish a_mark a_bitsOf a_sizeOf a_number a_moved v_isKept v_taped v_at k9 v_laid v_open)) fx h [0] rfl rfl rfl rfl (q_runV fx h hl.1 [0] rfl rfl (tX5_faulty l D cI cJ cZ cS tb a_t a_s a_keptS a_statuses a_pile a_tape a_steps a_wish a_mark a_bitsOf a_sizeOf a_number a_moved H.size v_isKept v_taped v_at v_fault v_laid v_open k9 hg) mvX5_faulty k_783 ⟨rfl, rfl⟩ ⟨Nat.le_of_ble_eq_true rfl, Nat.le_of_ble_eq_true rfl⟩ rfl rfl rfl rfl (Nat.le_of_ble_eq_true rfl) dX5_counted_55 ⟨Nat.le_of_ble_eq_true rfl, Nat.le_of_ble_eq_true rfl⟩) (fun H locs h => ?_)
  exact q_retv (fun k : Int32 × Int32 × Int32 × (Nat → Int32) => (wX5_counted cI cJ cZ cS a_t a_s a_keptS a_statuses a_pile a_tape a_steps a_wish a_mark a_bitsOf a_sizeOf a_number a_moved v_isKept v_taped k.1 k.2.1 k.2.2.1 v_open v_tape k.2.2.2)) fx hf h dX5_counted_58
def fX5_counted (v_taped : Int32) (v_at : Int32) (v_fault : Int32) (v_laid : Int32) (v_tape : Nat → Int32) (v_steps : Nat → Int32) : Option (Int32 × Int32 × Int32 × (Nat → Int32)) :=
  nm (v_at + 1) (fun u10 =>
  bR (fX5_look v_taped u10 v_tape) (fun r11 k11 =>
  (if r11 = 60 then (
  fX5_counted_49 v_taped v_tape u10 v_fault v_laid v_steps 100)
  else (
  (if r11 = 61 then (
  fX5_counted_49 v_taped v_tape u10 v_fault v_laid v_steps 110)
  else (
  (if r11 = 62 then (
  fX5_counted_49 v_taped v_tape u10 v_fault v_laid v_steps 120)
  else (
  fX5_counted_49 v_taped v_tape u10 v_fault v_laid v_steps (-1)))))))))
set_option maxRecDepth 100000 in
set_option maxHeartbeats 4000000 in
theorem tX5_counted (l : Launch) (D : va_G) (cI cJ cZ cS : ClassId) (tb : Nat) (a_t a_s a_keptS a_statuses a_pile a_tape a_steps a_wish a_mark a_bitsOf a_sizeOf a_number a_moved : Nat) (sz : Nat) (v_isKept : Int32) (v_taped : Int32) (v_at : Int32) (v_fault : Int32) (v_laid : Int32) (v_open : Int32) (v_tape : Nat → Int32) (v_steps : Nat → Int32) (kk' : Int32 × Int32 × Int32 × (Nat → Int32)) (hf : fX5_counted v_taped v_at v_fault v_laid v_tape v_steps = some kk') : Met l yX5_counted (Cond.code yX5_counted cX5_counted 3 none :: wA) rX5_counted (q_Pre D cI cJ cZ cS tb [.ref a_t] sz (wX5_counted cI cJ cZ cS a_t a_s a_keptS a_statuses a_pile a_tape a_steps a_wish a_mark a_bitsOf a_sizeOf a_number a_moved v_isKept v_taped v_at v_fault v_laid v_open v_tape v_steps)) (q_Rv D (va_A (wX5_counted cI cJ cZ cS a_t a_s a_keptS a_statuses a_pile a_tape a_steps a_wish a_mark a_bitsOf a_sizeOf a_number a_moved v_isKept v_taped v_at v_fault v_laid v_open v_tape v_steps) sz) ((fun k : Int32 × Int32 × Int32 × (Nat → Int32) => (wX5_counted cI cJ cZ cS a_t a_s a_keptS a_statuses a_pile a_tape a_steps a_wish a_mark a_bitsOf a_sizeOf a_number a_moved v_isKept v_taped k.1 k.2.1 k.2.2.1 v_open v_tape k.2.2.2)) kk')) 0 0 (va_A (wX5_counted cI cJ cZ cS a_t a_s a_keptS a_statuses a_pile a_tape a_steps a_wish a_mark a_bitsOf a_sizeOf a_number a_moved v_isKept v_taped v_at v_fault v_laid v_open v_tape v_steps) sz) := by
  refine q_enter (Qf := fun A => (q_Rv D A ((fun k : Int32 × Int32 × Int32 × (Nat → Int32) => (wX5_counted cI cJ cZ cS a_t a_s a_keptS a_statuses a_pile a_tape a_steps a_wish a_mark a_bitsOf a_sizeOf a_number a_moved v_isKept v_taped k.1 k.2.1 k.2.2.1 v_open v_tape k.2.2.2)) kk'))) (by decide) rfl (Nat.le_of_ble_eq_true rfl) ?_
  intro p e s m below meth c A ls fx hname h hl
  have hx := fx.1
  have hb := fx.2.1
  have hl : lv_has ls 3 [(0, .ref a_t)] := hl
  generalize h9 : s.heap = H at h ⊢
  clear h9
  generalize h9 : ([] : List Loc) = locs at h ⊢
  clear h9
  unfold fX5_counted at hf
  refine lv_aload_n hx hb dX5_counted_0 rfl (lv_at hl 0 rfl) ?_
  refine lv_dup hx hb dX5_counted_1 rfl ?_
  refine q_get (v := .int v_at) fx inX5 h 0 rfl rfl 8 (by decide) k_644 rfl dX5_counted_2 ?_
  refine lv_iconst (v := 1) hx hb dX5_counted_5 (by decide) ?_
  refine lv_iadd hx hb dX5_counted_6 ?_
  obtain ⟨u10, eu10, hf⟩ := nm_inv hf
  refine lv_eqi eu10 ?_
  refine q_put (v := .int u10) (ws' := (wX5_counted cI cJ cZ cS a_t a_s a_keptS a_statuses a_pile a_tape a_steps a_wish a_mark a_bitsOf a_sizeOf a_number a_moved v_isKept v_taped u10 v_fault v_laid v_open v_tape v_steps)) fx inX5 tyX5 tyX5_ok nmX5 h 0 rfl rfl 8 (by decide) k_644 rfl rfl rfl (Nat.le_of_ble_eq_true rfl) rfl dX5_counted_7 (fun H locs h => ?_)
  refine lv_aload_n hx hb dX5_counted_10 rfl (lv_at hl 0 rfl) ?_
  obtain ⟨r11, k11, hg, hf⟩ := bR_inv hf
  refine q_ci (rest := []) (ws' := (wX5_counted cI cJ cZ cS a_t a_s a_keptS a_statuses a_pile a_tape a_steps a_wish a_mark a_bitsOf a_sizeOf a_number a_moved v_isKept v_taped u10 v_fault v_laid v_open v_tape v_steps)) (w1 := (wX5_look cI cJ cZ cS a_t a_s a_keptS a_statuses a_pile a_tape a_steps a_wish a_mark a_bitsOf a_sizeOf a_number a_moved v_isKept v_taped u10 v_fault v_laid v_open v_tape)) fx h [0, 1] rfl rfl rfl rfl (q_runV fx h hl.1 [0, 1] rfl rfl (tX5_look l D cI cJ cZ cS tb a_t a_s a_keptS a_statuses a_pile a_tape a_steps a_wish a_mark a_bitsOf a_sizeOf a_number a_moved H.size v_isKept v_taped u10 v_fault v_laid v_open v_tape r11 k11 hg) mvX5_look k_769 ⟨rfl, rfl⟩ ⟨Nat.le_of_ble_eq_true rfl, Nat.le_of_ble_eq_true rfl⟩ rfl rfl rfl rfl (Nat.le_of_ble_eq_true rfl) dX5_counted_11 ⟨Nat.le_of_ble_eq_true rfl, Nat.le_of_ble_eq_true rfl⟩) (fun H locs h => ?_)
  refine lv_istore_n (lv' := [(1, .int r11), (0, .ref a_t)]) hx hb dX5_counted_14 rfl hl (by decide) rfl (fun ls hl => ?_)
  refine lv_iload_n hx hb dX5_counted_15 rfl (lv_at hl 0 rfl) ?_
  refine lv_bipush (v := 60) hx hb dX5_counted_16 (by decide) ?_
  refine lv_icmp_ne (tgt := 26) hx hb dX5_counted_18 (by decide) (fun c12 => ?_) (fun c12 => ?_)
  · have hf := it_f c12 hf
    refine lv_iload_n hx hb dX5_counted_26 rfl (lv_at hl 0 rfl) ?_
    refine lv_bipush (v := 61) hx hb dX5_counted_27 (by decide) ?_
    refine lv_icmp_ne (tgt := 37) hx hb dX5_counted_29 (by decide) (fun c13 => ?_) (fun c13 => ?_)
    · have hf := it_f c13 hf
      refine lv_iload_n hx hb dX5_counted_37 rfl (lv_at hl 0 rfl) ?_
      refine lv_bipush (v := 62) hx hb dX5_counted_38 (by decide) ?_
      refine lv_icmp_ne (tgt := 48) hx hb dX5_counted_40 (by decide) (fun c14 => ?_) (fun c14 => ?_)
      · have hf := it_f c14 hf
        refine lv_iconst (v := -1) hx hb dX5_counted_48 (by decide) ?_
        exact LX5_counted_49 fx h (lv_sub hl [1] rfl) hf
      have hf := it_t c14 hf
      refine lv_bipush (v := 120) hx hb dX5_counted_43 (by decide) ?_
      refine lv_goto (tgt := 49) hx hb dX5_counted_45 (by decide) ?_
      exact LX5_counted_49 fx h (lv_sub hl [1] rfl) hf
    have hf := it_t c13 hf
    refine lv_bipush (v := 110) hx hb dX5_counted_32 (by decide) ?_
    refine lv_goto (tgt := 49) hx hb dX5_counted_34 (by decide) ?_
    exact LX5_counted_49 fx h (lv_sub hl [1] rfl) hf
  have hf := it_t c12 hf
  refine lv_bipush (v := 100) hx hb dX5_counted_21 (by decide) ?_
  refine lv_goto (tgt := 49) hx hb dX5_counted_23 (by decide) ?_
  exact LX5_counted_49 fx h (lv_sub hl [1] rfl) hf
