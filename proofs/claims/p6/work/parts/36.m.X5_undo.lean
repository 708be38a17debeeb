/-! X5_undo -/
abbrev wX5_undo (cI cJ cZ cS : ClassId) (a_t a_s a_keptS a_statuses a_pile a_tape a_steps a_wish a_mark a_bitsOf a_sizeOf a_number a_moved : Nat) (v_isKept : Int32) (v_taped : Int32) (v_at : Int32) (v_fault : Int32) (v_laid : Int32) (v_open : Int32) (v_s : Nat → Int32) (v_keptS : Nat → Int32) (v_statuses : Nat → Int32) : va_W := [(a_t, .inr (5, [.ref a_s, .ref a_keptS, .ref a_statuses, .int v_isKept, .ref a_pile, .ref a_tape, .ref a_steps, .int v_taped, .int v_at, .int v_fault, .int v_laid, .int v_open, .ref a_wish, .ref a_mark, .ref a_bitsOf, .ref a_sizeOf, .ref a_number, .ref a_moved])), (a_s, .inl (cI, 538, .inl v_s)), (a_keptS, .inl (cI, 538, .inl v_keptS)), (a_statuses, .inl (cI, 7, .inl v_statuses))]
abbrev rX5_undo : Room := { frames := 1, cells := 0, slots := 0, locals := 21 }
def fX5_undo_16 (v_isKept : Int32) (v_keptS : Nat → Int32) (ag16 : (Nat → Int32) → (Nat → Int32) → Int32 → Option (Int32 × (Nat → Int32) × (Nat → Int32))) (v_s : Nat → Int32) (v_statuses : Nat → Int32) (y1 : Int32) : Option (Int32 × (Nat → Int32) × (Nat → Int32)) :=
  (if (538 : Int32) ≤ y1 then (
  some (v_s 0, (v_s, v_statuses)))
  else (
  gIn y1 538 (
  gIn y1 538 (
  nm (y1 + 1) (fun u4 =>
  ag16 (upd v_s y1.toNatClampNeg (v_keptS y1.toNatClampNeg)) v_statuses u4)))))
set_option maxRecDepth 100000 in
set_option maxHeartbeats 4000000 in
theorem LX5_undo_16 {p : Program} {l : Launch} {e : Env} {s : State} {m : MethodId} {args : Array Value} {below : List Frame} {meth : Method} {c : Code} {D : va_G} {cI cJ cZ cS : ClassId} {tb : Nat} {A : Nat → Prop} {a_t a_s a_keptS a_statuses a_pile a_tape a_steps a_wish a_mark a_bitsOf a_sizeOf a_number a_moved : Nat} {v_isKept : Int32} {v_taped : Int32} {v_at : Int32} {v_fault : Int32} {v_laid : Int32} {v_open : Int32} {v_keptS : Nat → Int32} {rr : Int32} {kk' : (Nat → Int32) × (Nat → Int32)} (fx : q_Fx p s m args meth c cX5_undo 2 RX5 (some .int) D cI cJ cZ cS tb A) {ag16 : (Nat → Int32) → (Nat → Int32) → Int32 → Option (Int32 × (Nat → Int32) × (Nat → Int32))} (hag16 : ∀ {v_s : Nat → Int32} {v_statuses : Nat → Int32} {y1 : Int32} {H : Heap} {locs : List Loc} {ls : Array Slot}, q_H D A s (wX5_undo cI cJ cZ cS a_t a_s a_keptS a_statuses a_pile a_tape a_steps a_wish a_mark a_bitsOf a_sizeOf a_number a_moved v_isKept v_taped v_at v_fault v_laid v_open v_s v_keptS v_statuses) H locs → lv_has ls 2 [(0, .ref a_t), (1, .int y1)] → ag16 v_s v_statuses y1 = some (rr, kk') → W p l e rX5_undo s m args below meth c H locs 0 0 (MQ below (q_Ri D rr A ((fun k : (Nat → Int32) × (Nat → Int32) => (wX5_undo cI cJ cZ cS a_t a_s a_keptS a_statuses a_pile a_tape a_steps a_wish a_mark a_bitsOf a_sizeOf a_number a_moved v_isKept v_taped v_at v_fault v_laid v_open k.1 v_keptS k.2)) kk')) args s 0 0 A) (F0 m 16 ls [])) : ∀ {v_s : Nat → Int32} {v_statuses : Nat → Int32} {y1 : Int32} {H : Heap} {locs : List Loc} {ls : Array Slot}, q_H D A s (wX5_undo cI cJ cZ cS a_t a_s a_keptS a_statuses a_pile a_tape a_steps a_wish a_mark a_bitsOf a_sizeOf a_number a_moved v_isKept v_taped v_at v_fault v_laid v_open v_s v_keptS v_statuses) H locs → lv_has ls 2 [(0, .ref a_t), (1, .int y1)] → fX5_undo_16 v_isKept v_keptS ag16 v_s v_statuses y1 = some (rr, kk') → W p l e rX5_undo s m args below meth c H locs 0 0 (MQ below (q_Ri D rr A ((fun k : (Nat → Int32) × (Nat → Int32) => (wX5_undo cI cJ cZ cS a_t a_s a_keptS a_statuses a_pile a_tape a_steps a_wish a_mark a_bitsOf a_sizeOf a_number a_moved v_isKept v_taped v_at v_fault v_laid v_open k.1 v_keptS k.2)) kk')) args s 0 0 A) (F0 m 16 ls []) := by
  intro v_s v_statuses y1 H locs ls h hl hf
  have hx := fx.1
  have hb := fx.2.1
  unfold fX5_undo_16 at hf
  refine lv_iload_n hx hb dX5_undo_16 rfl (lv_at hl 1 rfl) ?_
  refine lv_sipush (v := 538) hx hb dX5_undo_17 (by decide) ?_
  refine lv_icmp_ge (tgt := 41) hx hb dX5_undo_20 (by decide) (fun c1 => ?_) (fun c1 => ?_)
  · have hf := it_t c1 hf
    refine lv_aload_n hx hb dX5_undo_41 rfl (lv_at hl 0 rfl) ?_
    refine q_get (v := .ref a_s) fx inX5 h 0 rfl rfl 0 (by decide) k_636 rfl dX5_undo_42 ?_
    refine lv_iconst (v := 0) hx hb dX5_undo_45 (by decide) ?_
    refine q_ialdK fx h 1 rfl 0 (vinK (by decide)) (by decide) dX5_undo_46 ?_
    exact q_reti (fun k : (Nat → Int32) × (Nat → Int32) => (wX5_undo cI cJ cZ cS a_t a_s a_keptS a_statuses a_pile a_tape a_steps a_wish a_mark a_bitsOf a_sizeOf a_number a_moved v_isKept v_taped v_at v_fault v_laid v_open k.1 v_keptS k.2)) fx hf h dX5_undo_47
  have hf := it_f c1 hf
  refine lv_aload_n hx hb dX5_undo_23 rfl (lv_at hl 0 rfl) ?_
  refine q_get (v := .ref a_s) fx inX5 h 0 rfl rfl 0 (by decide) k_636 rfl dX5_undo_24 ?_
  refine lv_iload_n hx hb dX5_undo_27 rfl (lv_at hl 1 rfl) ?_
  refine lv_aload_n hx hb dX5_undo_28 rfl (lv_at hl 0 rfl) ?_
  refine q_get (v := .ref a_keptS) fx inX5 h 0 rfl rfl 1 (by decide) k_637 rfl dX5_undo_29 ?_
  refine lv_iload_n hx hb dX5_undo_32 rfl (lv_at hl 1 rfl) ?_
  obtain ⟨i2, hf⟩ := gIn_inv hf
  refine q_iald fx h 2 rfl i2 dX5_undo_33 ?_
  obtain ⟨i3, hf⟩ := gIn_inv hf
  refine q_iast (ws' := (wX5_undo cI cJ cZ cS a_t a_s a_keptS a_statuses a_pile a_tape a_steps a_wish a_mark a_bitsOf a_sizeOf a_number a_moved v_isKept v_taped v_at v_fault v_laid v_open (upd v_s y1.toNatClampNeg (v_keptS y1.toNatClampNeg)) v_keptS v_statuses)) fx h 1 rfl i3 rfl dX5_undo_34 (fun H locs h => ?_)
  obtain ⟨u4, eu4, hf⟩ := nm_inv hf
  refine lv_iinc (v := u4) (lv' := [(1, .int u4), (0, .ref a_t)]) hx hb dX5_undo_35 hl (k := 1) rfl (by rw [eu4]; rfl) (by decide) rfl (fun ls hl => ?_)
  refine lv_goto (tgt := 16) hx hb dX5_undo_38 (by decide) ?_
  exact hag16 h (lv_sub hl [1, 0] rfl) hf
set_option maxRecDepth 100000 in
theorem EX5_undo_16 {p : Program} {l : Launch} {e : Env} {s : State} {m : MethodId} {args : Array Value} {below : List Frame} {meth : Method} {c : Code} {D : va_G} {cI cJ cZ cS : ClassId} {tb : Nat} {A : Nat → Prop} {a_t a_s a_keptS a_statuses a_pile a_tape a_steps a_wish a_mark a_bitsOf a_sizeOf a_number a_moved : Nat} {v_isKept : Int32} {v_taped : Int32} {v_at : Int32} {v_fault : Int32} {v_laid : Int32} {v_open : Int32} {v_keptS : Nat → Int32} {rr : Int32} {kk' : (Nat → Int32) × (Nat → Int32)} (fx : q_Fx p s m args meth c cX5_undo 2 RX5 (some .int) D cI cJ cZ cS tb A) : ∀ (n : Nat), ∀ {v_s : Nat → Int32} {v_statuses : Nat → Int32} {y1 : Int32} {H : Heap} {locs : List Loc} {ls : Array Slot}, q_H D A s (wX5_undo cI cJ cZ cS a_t a_s a_keptS a_statuses a_pile a_tape a_steps a_wish a_mark a_bitsOf a_sizeOf a_number a_moved v_isKept v_taped v_at v_fault v_laid v_open v_s v_keptS v_statuses) H locs → lv_has ls 2 [(0, .ref a_t), (1, .int y1)] → ll3 (fX5_undo_16 v_isKept v_keptS) n v_s v_statuses y1 = some (rr, kk') → W p l e rX5_undo s m args below meth c H locs 0 0 (MQ below (q_Ri D rr A ((fun k : (Nat → Int32) × (Nat → Int32) => (wX5_undo cI cJ cZ cS a_t a_s a_keptS a_statuses a_pile a_tape a_steps a_wish a_mark a_bitsOf a_sizeOf a_number a_moved v_isKept v_taped v_at v_fault v_laid v_open k.1 v_keptS k.2)) kk')) args s 0 0 A) (F0 m 16 ls []) := by
  intro n
  induction n with
  | zero => intro v_s v_statuses y1 H locs ls h hl hf; exact (ll3_z hf).elim
  | succ n ih => intro v_s v_statuses y1 H locs ls h hl hf; exact LX5_undo_16 fx ih h hl (ll3_s hf)
def fX5_undo (v_isKept : Int32) (v_s : Nat → Int32) (v_keptS : Nat → Int32) (v_statuses : Nat → Int32) : Option (Int32 × (Nat → Int32) × (Nat → Int32)) :=
  (if v_isKept = 0 then (
  bR (fX5_finds v_statuses (-1000000004)) (fun r6 k6 =>
  some (r6, (v_s, k6))))
  else (
  ll3 (fX5_undo_16 v_isKept v_keptS) qF v_s v_statuses 0))
set_option maxRecDepth 100000 in
set_option maxHeartbeats 4000000 in
theorem tX5_undo (l : Launch) (D : va_G) (cI cJ cZ cS : ClassId) (tb : Nat) (a_t a_s a_keptS a_statuses a_pile a_tape a_steps a_wish a_mark a_bitsOf a_sizeOf a_number a_moved : Nat) (sz : Nat) (v_isKept : Int32) (v_taped : Int32) (v_at : Int32) (v_fault : Int32) (v_laid : Int32) (v_open : Int32) (v_s : Nat → Int32) (v_keptS : Nat → Int32) (v_statuses : Nat → Int32) (rr : Int32) (kk' : (Nat → Int32) × (Nat → Int32)) (hf : fX5_undo v_isKept v_s v_keptS v_statuses = some (rr, kk')) : Met l yX5_undo (Cond.code yX5_undo cX5_undo 2 (some .int) :: wA) rX5_undo (q_Pre D cI cJ cZ cS tb [.ref a_t] sz (wX5_undo cI cJ cZ cS a_t a_s a_keptS a_statuses a_pile a_tape a_steps a_wish a_mark a_bitsOf a_sizeOf a_number a_moved v_isKept v_taped v_at v_fault v_laid v_open v_s v_keptS v_statuses)) (q_Ri D rr (va_A (wX5_undo cI cJ cZ cS a_t a_s a_keptS a_statuses a_pile a_tape a_steps a_wish a_mark a_bitsOf a_sizeOf a_number a_moved v_isKept v_taped v_at v_fault v_laid v_open v_s v_keptS v_statuses) sz) ((fun k : (Nat → Int32) × (Nat → Int32) => (wX5_undo cI cJ cZ cS a_t a_s a_keptS a_statuses a_pile a_tape a_steps a_wish a_mark a_bitsOf a_sizeOf a_number a_moved v_isKept v_taped v_at v_fault v_laid v_open k.1 v_keptS k.2)) kk')) 0 0 (va_A (wX5_undo cI cJ cZ cS a_t a_s a_keptS a_statuses a_pile a_tape a_steps a_wish a_mark a_bitsOf a_sizeOf a_number a_moved v_isKept v_taped v_at v_fault v_laid v_open v_s v_keptS v_statuses) sz) := by
  refine q_enter (Qf := fun A => (q_Ri D rr A ((fun k : (Nat → Int32) × (Nat → Int32) => (wX5_undo cI cJ cZ cS a_t a_s a_keptS a_statuses a_pile a_tape a_steps a_wish a_mark a_bitsOf a_sizeOf a_number a_moved v_isKept v_taped v_at v_fault v_laid v_open k.1 v_keptS k.2)) kk'))) (by decide) rfl (Nat.le_of_ble_eq_true rfl) ?_
  intro p e s m below meth c A ls fx hname h hl
  have hx := fx.1
  have hb := fx.2.1
  have hl : lv_has ls 2 [(0, .ref a_t)] := hl
  generalize h9 : s.heap = H at h ⊢
  clear h9
  generalize h9 : ([] : List Loc) = locs at h ⊢
  clear h9
  unfold fX5_undo at hf
  refine lv_aload_n hx hb dX5_undo_0 rfl (lv_at hl 0 rfl) ?_
  refine q_get (v := .int v_isKept) fx inX5 h 0 rfl rfl 3 (by decide) k_639 rfl dX5_undo_1 ?_
  refine lv_if_ne (tgt := 14) hx hb dX5_undo_4 (by decide) (fun c5 => ?_) (fun c5 => ?_)
  · have hf := it_f c5 hf
    refine lv_iconst (v := 0) hx hb dX5_undo_14 (by decide) ?_
    refine lv_istore_n (lv' := [(1, .int 0), (0, .ref a_t)]) hx hb dX5_undo_15 rfl hl (by decide) rfl (fun ls hl => ?_)
    exact EX5_undo_16 fx qF h (lv_sub hl [1, 0] rfl) hf
  have hf := it_t c5 hf
  refine lv_aload_n hx hb dX5_undo_7 rfl (lv_at hl 0 rfl) ?_
  refine q_ldc fx k_864 dX5_undo_8 ?_
  obtain ⟨r6, k6, hg, hf⟩ := bR_inv hf
  refine q_ci (rest := []) (ws' := (wX5_undo cI cJ cZ cS a_t a_s a_keptS a_statuses a_pile a_tape a_steps a_wish a_mark a_bitsOf a_sizeOf a_number a_moved v_isKept v_taped v_at v_fault v_laid v_open v_s v_keptS k6)) (w1 := (wX5_finds cI cJ cZ cS a_t a_s a_keptS a_statuses a_pile a_tape a_steps a_wish a_mark a_bitsOf a_sizeOf a_number a_moved v_isKept v_taped v_at v_fault v_laid v_open k6)) fx h [0, 3] rfl rfl rfl rfl (q_runV fx h hl.1 [0, 3] rfl rfl (tX5_finds l D cI cJ cZ cS tb a_t a_s a_keptS a_statuses a_pile a_tape a_steps a_wish a_mark a_bitsOf a_sizeOf a_number a_moved H.size v_isKept v_taped v_at v_fault v_laid v_open v_statuses (-1000000004) r6 k6 hg) mvX5_finds k_702 ⟨rfl, rfl⟩ ⟨Nat.le_of_ble_eq_true rfl, Nat.le_of_ble_eq_true rfl⟩ rfl rfl rfl rfl (Nat.le_of_ble_eq_true rfl) dX5_undo_10 ⟨Nat.le_of_ble_eq_true rfl, Nat.le_of_ble_eq_true rfl⟩) (fun H locs h => ?_)
  exact q_reti (fun k : (Nat → Int32) × (Nat → Int32) => (wX5_undo cI cJ cZ cS a_t a_s a_keptS a_statuses a_pile a_tape a_steps a_wish a_mark a_bitsOf a_sizeOf a_number a_moved v_isKept v_taped v_at v_fault v_laid v_open k.1 v_keptS k.2)) fx hf h dX5_undo_13
/-! X5_tear -/
abbrev wX5_tear (cI cJ cZ cS : ClassId) (a_t a_s a_keptS a_statuses a_pile a_tape a_steps a_wish a_mark a_bitsOf a_sizeOf a_number a_moved : Nat) (v_isKept : Int32) (v_taped : Int32) (v_at : Int32) (v_fault : Int32) (v_laid : Int32) (v_open : Int32) : va_W := [(a_t, .inr (5, [.ref a_s, .ref a_keptS, .ref a_statuses, .int v_isKept, .ref a_pile, .ref a_tape, .ref a_steps, .int v_taped, .int v_at, .int v_fault, .int v_laid, .int v_open, .ref a_wish, .ref a_mark, .ref a_bitsOf, .ref a_sizeOf, .ref a_number, .ref a_moved]))]
abbrev rX5_tear : Room := { frames := 0, cells := 0, slots := 0, locals := 0 }
def fX5_tear_12 (v_isKept : Int32) (s0 : Int32) : Option (Int32 × Int32) :=
  some (s0, 0)
set_option maxRecDepth 100000 in
set_option maxHeartbeats 4000000 in
theorem LX5_tear_12 {p : Program} {l : Launch} {e : Env} {s : State} {m : MethodId} {args : Array Value} {below : List Frame} {meth : Method} {c : Code} {D : va_G} {cI cJ cZ cS : ClassId} {tb : Nat} {A : Nat → Prop} {a_t a_s a_keptS a_statuses a_pile a_tape a_steps a_wish a_mark a_bitsOf a_sizeOf a_number a_moved : Nat} {v_taped : Int32} {v_at : Int32} {v_fault : Int32} {v_laid : Int32} {v_open : Int32} {rr : Int32} {kk' : Int32} (fx : q_Fx p s m args meth c cX5_tear 2 RX5 (some .int) D cI cJ cZ cS tb A) : ∀ {v_isKept : Int32} {s0 : Int32} {H : Heap} {locs : List Loc} {ls : Array Slot}, q_H D A s (wX5_tear cI cJ cZ cS a_t a_s a_keptS a_statuses a_pile a_tape a_steps a_wish a_mark a_bitsOf a_sizeOf a_number a_moved v_isKept v_taped v_at v_fault v_laid v_open) H locs → lv_has ls 2 [(0, .ref a_t)] → fX5_tear_12 v_isKept s0 = some (rr, kk') → W p l e rX5_tear s m args below meth c H locs 0 0 (MQ below (q_Ri D rr A ((fun k : Int32 => (wX5_tear cI cJ cZ cS a_t a_s a_keptS a_statuses a_pile a_tape a_steps a_wish a_mark a_bitsOf a_sizeOf a_number a_moved k v_taped v_at v_fault v_laid v_open)) kk')) args s 0 0 A) (F0 m 12 ls [.int s0]) := by
  intro v_isKept s0 H locs ls h hl hf
  have hx := fx.1
  have hb := fx.2.1
  unfold fX5_tear_12 at hf
  refine lv_istore_n (lv' := [(1, .int s0), (0, .ref a_t)]) hx hb dX5_tear_12 rfl hl (by decide) rfl (fun ls hl => ?_)
  refine lv_aload_n hx hb dX5_tear_13 rfl (lv_at hl 1 rfl) ?_
  refine lv_iconst (v := 0) hx hb dX5_tear_14 (by decide) ?_
  refine q_put (v := .int 0) (ws' := (wX5_tear cI cJ cZ cS a_t a_s a_keptS a_statuses a_pile a_tape a_steps a_wish a_mark a_bitsOf a_sizeOf a_number a_moved 0 v_taped v_at v_fault v_laid v_open)) fx inX5 tyX5 tyX5_ok nmX5 h 0 rfl rfl 3 (by decide) k_639 rfl rfl rfl (Nat.le_of_ble_eq_true rfl) rfl dX5_tear_15 (fun H locs h => ?_)
  refine lv_iload_n hx hb dX5_tear_18 rfl (lv_at hl 0 rfl) ?_
  exact q_reti (fun k : Int32 => (wX5_tear cI cJ cZ cS a_t a_s a_keptS a_statuses a_pile a_tape a_steps a_wish a_mark a_bitsOf a_sizeOf a_number a_moved k v_taped v_at v_fault v_laid v_open)) fx hf h dX5_tear_19
def fX5_tear (v_isKept : Int32) : Option (Int32 × Int32) :=
  (if v_isKept = 0 then (
  fX5_tear_12  v_isKept 0)
  else (
  fX5_tear_12  v_isKept 1))
set_option maxRecDepth 100000 in
set_option maxHeartbeats 4000000 in
theorem tX5_tear (l : Launch) (D : va_G) (cI cJ cZ cS : ClassId) (tb : Nat) (a_t a_s a_keptS a_statuses a_pile a_tape a_steps a_wish a_mark a_bitsOf a_sizeOf a_number a_moved : Nat) (sz : Nat) (v_isKept : Int32) (v_taped : Int32) (v_at : Int32) (v_fault : Int32) (v_laid : Int32) (v_open : Int32) (rr : Int32) (kk' : Int32) (hf : fX5_tear v_isKept = some (rr, kk')) : Met l yX5_tear (Cond.code yX5_tear cX5_tear 2 (some .int) :: wA) rX5_tear (q_Pre D cI cJ cZ cS tb [.ref a_t] sz (wX5_tear cI cJ cZ cS a_t a_s a_keptS a_statuses a_pile a_tape a_steps a_wish a_mark a_bitsOf a_sizeOf a_number a_moved v_isKept v_taped v_at v_fault v_laid v_open)) (q_Ri D rr (va_A (wX5_tear cI cJ cZ cS a_t a_s a_keptS a_statuses a_pile a_tape a_steps a_wish a_mark a_bitsOf a_sizeOf a_number a_moved v_isKept v_taped v_at v_fault v_laid v_open) sz) ((fun k : Int32 => (wX5_tear cI cJ cZ cS a_t a_s a_keptS a_statuses a_pile a_tape a_steps a_wish a_mark a_bitsOf a_sizeOf a_number a_moved k v_taped v_at v_fault v_laid v_open)) kk')) 0 0 (va_A (wX5_tear cI cJ cZ cS a_t a_s a_keptS a_statuses a_pile a_tape a_steps a_wish a_mark a_bitsOf a_sizeOf a_number a_moved v_isKept v_taped v_at v_fault v_laid v_open) sz) := by
  refine q_enter (Qf := fun A => (q_Ri D rr A ((fun k : Int32 => (wX5_tear cI cJ cZ cS a_t a_s a_keptS a_statuses a_pile a_tape a_steps a_wish a_mark a_bitsOf a_sizeOf a_number a_moved k v_taped v_at v_fault v_laid v_open)) kk'))) (by decide) rfl (Nat.le_of_ble_eq_true rfl) ?_
  intro p e s m below meth c A ls fx hname h hl
  have hx := fx.1
  have hb := fx.2.1
  have hl : lv_has ls 2 [(0, .ref a_t)] := hl
  generalize h9 : s.heap = H at h ⊢
  clear h9
  generalize h9 : ([] : List Loc) = locs at h ⊢
  clear h9
  unfold fX5_tear at hf
  refine lv_aload_n hx hb dX5_tear_0 rfl (lv_at hl 0 rfl) ?_
  refine q_get (v := .int v_isKept) fx inX5 h 0 rfl rfl 3 (by decide) k_639 rfl dX5_tear_1 ?_
  refine lv_if_eq (tgt := 11) hx hb dX5_tear_4 (by decide) (fun c1 => ?_) (fun c1 => ?_)
  · have hf := it_t c1 hf
    refine lv_iconst (v := 0) hx hb dX5_tear_11 (by decide) ?_
    exact LX5_tear_12 fx h (lv_sub hl [0] rfl) hf
  have hf := it_f c1 hf
  refine lv_iconst (v := 1) hx hb dX5_tear_7 (by decide) ?_
  refine lv_goto (tgt := 12) hx hb dX5_tear_8 (by decide) ?_
  exact LX5_tear_12 fx h (lv_sub hl [0] rfl) hf
/-! X5_count -/
abbrev wX5_count (cI cJ cZ cS : ClassId) (a_t a_s a_keptS a_statuses a_pile a_tape a_steps a_wish a_mark a_bitsOf a_sizeOf a_number a_moved : Nat) (v_isKept : Int32) (v_taped : Int32) (v_at : Int32) (v_fault : Int32) (v_laid : Int32) (v_open : Int32) (v_s : Nat → Int32) (v_statuses : Nat → Int32) : va_W := [(a_t, .inr (5, [.ref a_s, .ref a_keptS, .ref a_statuses, .int v_isKept, .ref a_pile, .ref a_tape, .ref a_steps, .int v_taped, .int v_at, .int v_fault, .int v_laid, .int v_open, .ref a_wish, .ref a_mark, .ref a_bitsOf, .ref a_sizeOf, .ref a_number, .ref a_moved])), (a_s, .inl (cI, 538, .inl v_s)), (a_statuses, .inl (cI, 7, .inl v_statuses))]
abbrev rX5_count : Room := { frames := 2, cells := 0, slots := 0, locals := 45 }
def fX5_count_31 (v_taped : Int32) (v_s : Nat → Int32) (ag4 : (Nat → Int32) → Int32 → Int32 → Int32 → Option (Int32 × (Nat → Int32))) (v_statuses : Nat → Int32) (s0 : Int32) (s1 : Int32) (y1 : Int32) (y3 : Int32) : Option (Int32 × (Nat → Int32)) :=
  nm (s0 ||| s1) (fun u1 =>
  nm (y3 + 1) (fun u2 =>
  ag4 v_statuses y1 u1 u2))
set_option maxRecDepth 100000 in
set_option maxHeartbeats 4000000 in
theorem LX5_count_31 {p : Program} {l : Launch} {e : Env} {s : State} {m : MethodId} {args : Array Value} {below : List Frame} {meth : Method} {c : Code} {D : va_G} {cI cJ cZ cS : ClassId} {tb : Nat} {A : Nat → Prop} {a_t a_s a_keptS a_statuses a_pile a_tape a_steps a_wish a_mark a_bitsOf a_sizeOf a_number a_moved : Nat} {v_isKept : Int32} {v_taped : Int32} {v_at : Int32} {v_fault : Int32} {v_laid : Int32} {v_open : Int32} {v_s : Nat → Int32} {rr : Int32} {kk' : (Nat → Int32)} (fx : q_Fx p s m args meth c cX5_count 4 RX5 (some .int) D cI cJ cZ cS tb A) {ag4 : (Nat → Int32) → Int32 → Int32 → Int32 → Option (Int32 × (Nat → Int32))} (hag4 : ∀ {v_statuses : Nat → Int32} {y1 : Int32} {y2 : Int32} {y3 : Int32} {H : Heap} {locs : List Loc} {ls : Array Slot}, q_H D A s (wX5_count cI cJ cZ cS a_t a_s a_keptS a_statuses a_pile a_tape a_steps a_wish a_mark a_bitsOf a_sizeOf a_number a_moved v_isKept v_taped v_at v_fault v_laid v_open v_s v_statuses) H locs → lv_has ls 4 [(0, .ref a_t), (1, .int y1), (2, .int y2), (3, .int y3)] → ag4 v_statuses y1 y2 y3 = some (rr, kk') → W p l e rX5_count s m args below meth c H locs 0 0 (MQ below (q_Ri D rr A ((fun k : (Nat → Int32) => (wX5_count cI cJ cZ cS a_t a_s a_keptS a_statuses a_pile a_tape a_steps a_wish a_mark a_bitsOf a_sizeOf a_number a_moved v_isKept v_taped v_at v_fault v_laid v_open v_s k)) kk')) args s 0 0 A) (F0 m 4 ls [])) : ∀ {v_statuses : Nat → Int32} {s0 : Int32} {s1 : Int32} {y1 : Int32} {y3 : Int32} {H : Heap} {locs : List Loc} {ls : Array Slot}, q_H D A s (wX5_count cI cJ cZ cS a_t a_s a_keptS a_statuses a_pile a_tape a_steps a_wish a_mark a_bitsOf a_sizeOf a_number a_moved v_isKept v_taped v_at v_fault v_laid v_open v_s v_statuses) H locs → lv_has ls 4 [(0, .ref a_t), (1, .int y1), (3, .int y3)] → fX5_count_31 v_taped v_s ag4 v_statuses s0 s1 y1 y3 = some (rr, kk') → W p l e rX5_count s m args below meth c H locs 0 0 (MQ below (q_Ri D rr A ((fun k : (Nat → Int32) => (wX5_count cI cJ cZ cS a_t a_s a_keptS a_statuses a_pile a_tape a_steps a_wish a_mark a_bitsOf a_sizeOf a_number a_moved v_isKept v_taped v_at v_fault v_laid v_open v_s k)) kk')) args s 0 0 A) (F0 m 31 ls [.int s1, .int s0]) := by
  intro v_statuses s0 s1 y1 y3 H locs ls h hl hf
  have hx := fx.1
  have hb := fx.2.1
  unfold fX5_count_31 at hf
  refine lv_ior hx hb dX5_count_31 ?_
  obtain ⟨u1, eu1, hf⟩ := nm_inv hf
  refine lv_eqi eu1 ?_
  refine lv_istore_n (lv' := [(2, .int u1), (0, .ref a_t), (1, .int y1), (3, .int y3)]) hx hb dX5_count_32 rfl hl (by decide) rfl (fun ls hl => ?_)
  obtain ⟨u2, eu2, hf⟩ := nm_inv hf
  refine lv_iinc (v := u2) (lv' := [(3, .int u2), (2, .int u1), (0, .ref a_t), (1, .int y1)]) hx hb dX5_count_33 hl (k := 3) rfl (by rw [eu2]; rfl) (by decide) rfl (fun ls hl => ?_)
  refine lv_goto (tgt := 4) hx hb dX5_count_36 (by decide) ?_
  exact hag4 h (lv_sub hl [2, 3, 1, 0] rfl) hf
def fX5_count_4 (v_taped : Int32) (v_s : Nat → Int32) (ag4 : (Nat → Int32) → Int32 → Int32 → Int32 → Option (Int32 × (Nat → Int32))) (v_statuses : Nat → Int32) (y1 : Int32) (y2 : Int32) (y3 : Int32) : Option (Int32 × (Nat → Int32)) :=
  (if (v_s 0) ≤ y3 then (
  (if (y1).toInt < 0 ∨ 3 < (y1).toInt then (
  bR (fX5_finds v_statuses (-1000000001)) (fun r5 k5 =>
  some (r5, k5)))
  else (if y1 = 0 then (
  some (v_s 0, v_statuses))
  else (if y1 = 1 then (
  some (v_taped, v_statuses))
  else (if y1 = 2 then (
  bR (fX5_costOf v_s 255) (fun r9 k9 =>
  some (r9, v_statuses)))
  else (if y1 = 3 then (
  some (y2, v_statuses))
  else none))))))
  else (
  bR (fX5_its v_s y3 2) (fun r11 k11 =>
  (if r11 ≤ 0 then (
  fX5_count_31 v_taped v_s ag4 v_statuses y2 0 y1 y3)
  else (
  fX5_count_31 v_taped v_s ag4 v_statuses y2 (jshl 1 y3) y1 y3)))))
set_option maxRecDepth 100000 in
set_option maxHeartbeats 4000000 in
theorem LX5_count_4 {p : Program} {l : Launch} {e : Env} {s : State} {m : MethodId} {args : Array Value} {below : List Frame} {meth : Method} {c : Code} {D : va_G} {cI cJ cZ cS : ClassId} {tb : Nat} {A : Nat → Prop} {a_t a_s a_keptS a_statuses a_pile a_tape a_steps a_wish a_mark a_bitsOf a_sizeOf a_number a_moved : Nat} {v_isKept : Int32} {v_taped : Int32} {v_at : Int32} {v_fault : Int32} {v_laid : Int32} {v_open : Int32} {v_s : Nat → Int32} {rr : Int32} {kk' : (Nat → Int32)} (fx : q_Fx p s m args meth c cX5_count 4 RX5 (some .int) D cI cJ cZ cS tb A) {ag4 : (Nat → Int32) → Int32 → Int32 → Int32 → Option (Int32 × (Nat → Int32))} (hag4 : ∀ {v_statuses : Nat → Int32} {y1 : Int32} {y2 : Int32} {y3 : Int32} {H : Heap} {locs : List Loc} {ls : Array Slot}, q_H D A s (wX5_count cI cJ cZ cS a_t a_s a_keptS a_statuses a_pile a_tape a_steps a_wish a_mark a_bitsOf a_sizeOf a_number a_moved v_isKept v_taped v_at v_fault v_laid v_open v_s v_statuses) H locs → lv_has ls 4 [(0, .ref a_t), (1, .int y1), (2, .int y2), (3, .int y3)] → ag4 v_statuses y1 y2 y3 = some (rr, kk') → W p l e rX5_count s m args below meth c H locs 0 0 (MQ below (q_Ri D rr A ((fun k : (Nat → Int32) => (wX5_count cI cJ cZ cS a_t a_s a_keptS a_statuses a_pile a_tape a_steps a_wish a_mark a_bitsOf a_sizeOf a_number a_moved v_isKept v_taped v_at v_fault v_laid v_open v_s k)) kk')) args s 0 0 A) (F0 m 4 ls [])) : ∀ {v_statuses : Nat → Int32} {y1 : Int32} {y2 : Int32} {y3 : Int32} {H : Heap} {locs : List Loc} {ls : Array Slot}, q_H D A s (wX5_count cI cJ cZ cS a_t a_s a_keptS a_statuses a_pile a_tape a_steps a_wish a_mark a_bitsOf a_sizeOf a_number a_moved v_isKept v_taped v_at v_fault v_laid v_open v_s v_statuses) H locs → lv_has ls 4 [(0, .ref a_t), (1, .int y1), (2, .int y2), (3, .int y3)] → fX5_count_4 v_taped v_s ag4 v_statuses y1 y2 y3 = some (rr, kk') → W p l e rX5_count s m args below meth c H locs 0 0 (MQ below (q_Ri D rr A ((fun k : (Nat → Int32) => (wX5_count cI cJ cZ cS a_t a_s a_keptS a_statuses a_pile a_tape a_steps a_wish a_mark a_bitsOf a_sizeOf a_number a_moved v_isKept v_taped v_at v_fault v_laid v_open v_s k)) kk')) args s 0 0 A) (F0 m 4 ls []) := by
  intro v_statuses y1 y2 y3 H locs ls h hl hf
  have hx := fx.1
  have hb := fx.2.1
  unfold fX5_count_4 at hf
  refine lv_iload_n hx hb dX5_count_4 rfl (lv_at hl 3 rfl) ?_
  refine lv_aload_n hx hb dX5_count_5 rfl (lv_at hl 0 rfl) ?_
  refine q_get (v := .ref a_s) fx inX5 h 0 rfl rfl 0 (by decide) k_636 rfl dX5_count_6 ?_
  refine lv_iconst (v := 0) hx hb dX5_count_9 (by decide) ?_
  refine q_ialdK fx h 1 rfl 0 (vinK (by decide)) (by decide) dX5_count_10 ?_
  refine lv_icmp_ge (tgt := 39) hx hb dX5_count_11 (by decide) (fun c3 => ?_) (fun c3 => ?_)
  · have hf := it_t c3 hf
    refine lv_iload_n hx hb dX5_count_39 rfl (lv_at hl 1 rfl) ?_
    rcases it_or hf with ⟨c4, hf⟩ | ⟨c4, hf⟩
    · refine lv_tableOut (tgt := 94) hx hb dX5_count_40 c4 (by decide) ?_
      refine lv_aload_n hx hb dX5_count_94 rfl (lv_at hl 0 rfl) ?_
      refine q_ldc fx k_701 dX5_count_95 ?_
      obtain ⟨r5, k5, hg, hf⟩ := bR_inv hf
      refine q_ci (rest := []) (ws' := (wX5_count cI cJ cZ cS a_t a_s a_keptS a_statuses a_pile a_tape a_steps a_wish a_mark a_bitsOf a_sizeOf a_number a_moved v_isKept v_taped v_at v_fault v_laid v_open v_s k5)) (w1 := (wX5_finds cI cJ cZ cS a_t a_s a_keptS a_statuses a_pile a_tape a_steps a_wish a_mark a_bitsOf a_sizeOf a_number a_moved v_isKept v_taped v_at v_fault v_laid v_open k5)) fx h [0, 2] rfl rfl rfl rfl (q_runV fx h hl.1 [0, 2] rfl rfl (tX5_finds l D cI cJ cZ cS tb a_t a_s a_keptS a_statuses a_pile a_tape a_steps a_wish a_mark a_bitsOf a_sizeOf a_number a_moved H.size v_isKept v_taped v_at v_fault v_laid v_open v_statuses (-1000000001) r5 k5 hg) mvX5_finds k_702 ⟨rfl, rfl⟩ ⟨Nat.le_of_ble_eq_true rfl, Nat.le_of_ble_eq_true rfl⟩ rfl rfl rfl rfl (Nat.le_of_ble_eq_true rfl) dX5_count_97 ⟨Nat.le_of_ble_eq_true rfl, Nat.le_of_ble_eq_true rfl⟩) (fun H locs h => ?_)
      exact q_reti (fun k : (Nat → Int32) => (wX5_count cI cJ cZ cS a_t a_s a_keptS a_statuses a_pile a_tape a_steps a_wish a_mark a_bitsOf a_sizeOf a_number a_moved v_isKept v_taped v_at v_fault v_laid v_open v_s k)) fx hf h dX5_count_100
    have c4 := not_or.mp c4
    rcases it_or hf with ⟨c6, hf⟩ | ⟨c6, hf⟩
    · refine lv_tableIn (off := 32) (tgt := 72) hx hb dX5_count_40 c4.1 c4.2 (by rw [c6]; rfl) (by decide) ?_
      refine lv_aload_n hx hb dX5_count_72 rfl (lv_at hl 0 rfl) ?_
      refine q_get (v := .ref a_s) fx inX5 h 0 rfl rfl 0 (by decide) k_636 rfl dX5_count_73 ?_
      refine lv_iconst (v := 0) hx hb dX5_count_76 (by decide) ?_
      refine q_ialdK fx h 1 rfl 0 (vinK (by decide)) (by decide) dX5_count_77 ?_
      exact q_reti (fun k : (Nat → Int32) => (wX5_count cI cJ cZ cS a_t a_s a_keptS a_statuses a_pile a_tape a_steps a_wish a_mark a_bitsOf a_sizeOf a_number a_moved v_isKept v_taped v_at v_fault v_laid v_open v_s k)) fx hf h dX5_count_78
    rcases it_or hf with ⟨c7, hf⟩ | ⟨c7, hf⟩
    · refine lv_tableIn (off := 39) (tgt := 79) hx hb dX5_count_40 c4.1 c4.2 (by rw [c7]; rfl) (by decide) ?_
      refine lv_aload_n hx hb dX5_count_79 rfl (lv_at hl 0 rfl) ?_
      refine q_get (v := .int v_taped) fx inX5 h 0 rfl rfl 7 (by decide) k_643 rfl dX5_count_80 ?_
      exact q_reti (fun k : (Nat → Int32) => (wX5_count cI cJ cZ cS a_t a_s a_keptS a_statuses a_pile a_tape a_steps a_wish a_mark a_bitsOf a_sizeOf a_number a_moved v_isKept v_taped v_at v_fault v_laid v_open v_s k)) fx hf h dX5_count_83
    rcases it_or hf with ⟨c8, hf⟩ | ⟨c8, hf⟩
    · refine lv_tableIn (off := 44) (tgt := 84) hx hb dX5_count_40 c4.1 c4.2 (by rw [c8]; rfl) (by decide) ?_
      refine lv_aload_n hx hb dX5_count_84 rfl (lv_at hl 0 rfl) ?_
      refine lv_sipush (v := 255) hx hb dX5_count_85 (by decide) ?_
      obtain ⟨r9, k9, hg, hf⟩ := bR_inv hf
      refine q_ci (rest := []) (ws' := (wX5_count cI cJ cZ cS a_t a_s a_keptS a_statuses a_pile a_tape a_steps a_wish a_mark a_bitsOf a_sizeOf a_number a_moved v_isKept v_taped v_at v_fault v_laid v_open v_s v_statuses)) (w1 := (wX5_costOf cI cJ cZ cS a_t a_s a_keptS a_statuses a_pile a_tape a_steps a_wish a_mark a_bitsOf a_sizeOf a_number a_moved v_isKept v_taped v_at v_fault v_laid v_open v_s)) fx h [0, 1] rfl rfl rfl rfl (q_runV fx h hl.1 [0, 1] rfl rfl (tX5_costOf l D cI cJ cZ cS tb a_t a_s a_keptS a_statuses a_pile a_tape a_steps a_wish a_mark a_bitsOf a_sizeOf a_number a_moved H.size v_isKept v_taped v_at v_fault v_laid v_open v_s 255 r9 k9 hg) mvX5_costOf k_822 ⟨rfl, rfl⟩ ⟨Nat.le_of_ble_eq_true rfl, Nat.le_of_ble_eq_true rfl⟩ rfl rfl rfl rfl (Nat.le_of_ble_eq_true rfl) dX5_count_88 ⟨Nat.le_of_ble_eq_true rfl, Nat.le_of_ble_eq_true rfl⟩) (fun H locs h => ?_)
      exact q_reti (fun k : (Nat → Int32) => (wX5_count cI cJ cZ cS a_t a_s a_keptS a_statuses a_pile a_tape a_steps a_wish a_mark a_bitsOf a_sizeOf a_number a_moved v_isKept v_taped v_at v_fault v_laid v_open v_s k)) fx hf h dX5_count_91
    rcases it_or hf with ⟨c10, hf⟩ | ⟨c10, hf⟩
    · refine lv_tableIn (off := 52) (tgt := 92) hx hb dX5_count_40 c4.1 c4.2 (by rw [c10]; rfl) (by decide) ?_
      refine lv_iload_n hx hb dX5_count_92 rfl (lv_at hl 2 rfl) ?_
      exact q_reti (fun k : (Nat → Int32) => (wX5_count cI cJ cZ cS a_t a_s a_keptS a_statuses a_pile a_tape a_steps a_wish a_mark a_bitsOf a_sizeOf a_number a_moved v_isKept v_taped v_at v_fault v_laid v_open v_s k)) fx hf h dX5_count_93
    cases hf
  have hf := it_f c3 hf
  refine lv_iload_n hx hb dX5_count_14 rfl (lv_at hl 2 rfl) ?_
  refine lv_aload_n hx hb dX5_count_15 rfl (lv_at hl 0 rfl) ?_
  refine lv_iload_n hx hb dX5_count_16 rfl (lv_at hl 3 rfl) ?_
  refine lv_iconst (v := 2) hx hb dX5_count_17 (by decide) ?_
  obtain ⟨r11, k11, hg, hf⟩ := bR_inv hf
  refine q_ci (rest := [.int y2]) (ws' := (wX5_count cI cJ cZ cS a_t a_s a_keptS a_statuses a_pile a_tape a_steps a_wish a_mark a_bitsOf a_sizeOf a_number a_moved v_isKept v_taped v_at v_fault v_laid v_open v_s v_statuses)) (w1 := (wX5_its cI cJ cZ cS a_t a_s a_keptS a_statuses a_pile a_tape a_steps a_wish a_mark a_bitsOf a_sizeOf a_number a_moved v_isKept v_taped v_at v_fault v_laid v_open v_s)) fx h [0, 1] rfl rfl rfl rfl (q_runV fx h hl.1 [0, 1] rfl rfl (tX5_its l D cI cJ cZ cS tb a_t a_s a_keptS a_statuses a_pile a_tape a_steps a_wish a_mark a_bitsOf a_sizeOf a_number a_moved H.size v_isKept v_taped v_at v_fault v_laid v_open v_s y3 2 r11 k11 hg) mvX5_its k_725 ⟨rfl, rfl⟩ ⟨Nat.le_of_ble_eq_true rfl, Nat.le_of_ble_eq_true rfl⟩ rfl rfl rfl rfl (Nat.le_of_ble_eq_true rfl) dX5_count_18 ⟨Nat.le_of_ble_eq_true rfl, Nat.le_of_ble_eq_true rfl⟩) (fun H locs h => ?_)
  refine lv_if_le (tgt := 30) hx hb dX5_count_21 (by decide) (fun c12 => ?_) (fun c12 => ?_)
  · have hf := it_t c12 hf
    refine lv_iconst (v := 0) hx hb dX5_count_30 (by decide) ?_
    exact LX5_count_31 fx hag4 h (lv_sub hl [0, 1, 3] rfl) hf
  have hf := it_f c12 hf
  refine lv_iconst (v := 1) hx hb dX5_count_24 (by decide) ?_
  refine lv_iload_n hx hb dX5_count_25 rfl (lv_at hl 3 rfl) ?_
  refine lv_ishl hx hb dX5_count_26 ?_
  refine lv_goto (tgt := 31) hx hb dX5_count_27 (by decide) ?_
  exact LX5_count_31 fx hag4 h (lv_sub hl [0, 1, 3] rfl) hf
set_option maxRecDepth 100000 in
theorem EX5_count_4 {p : Program} {l : Launch} {e : Env} {s : State} {m : MethodId} {args : Array Value} {below : List Frame} {meth : Method} {c : Code} {D : va_G} {cI cJ cZ cS : ClassId} {tb : Nat} {A : Nat → Prop} {a_t a_s a_keptS a_statuses a_pile a_tape a_steps a_wish a_mark a_bitsOf a_sizeOf a_number a_moved : Nat} {v_isKept : Int32} {v_taped : Int32} {v_at : Int32} {v_fault : Int32} {v_laid : Int32} {v_open : Int32} {v_s : Nat → Int32} {rr : Int32} {kk' : (Nat → Int32)} (fx : q_Fx p s m args meth c cX5_count 4 RX5 (some .int) D cI cJ cZ cS tb A) : ∀ (n : Nat), ∀ {v_statuses : Nat → Int32} {y1 : Int32} {y2 : Int32} {y3 : Int32} {H : Heap} {locs : List Loc} {ls : Array Slot}, q_H D A s (wX5_count cI cJ cZ cS a_t a_s a_keptS a_statuses a_pile a_tape a_steps a_wish a_mark a_bitsOf a_sizeOf a_number a_moved v_isKept v_taped v_at v_fault v_laid v_open v_s v_statuses) H locs → lv_has ls 4 [(0, .ref a_t), (1, .int y1), (2, .int y2), (3, .int y3)] → ll4 (fX5_count_4 v_taped v_s) n v_statuses y1 y2 y3 = some (rr, kk') → W p l e rX5_count s m args below meth c H locs 0 0 (MQ below (q_Ri D rr A ((fun k : (Nat → Int32) => (wX5_count cI cJ cZ cS a_t a_s a_keptS a_statuses a_pile a_tape a_steps a_wish a_mark a_bitsOf a_sizeOf a_number a_moved v_isKept v_taped v_at v_fault v_laid v_open v_s k)) kk')) args s 0 0 A) (F0 m 4 ls []) := by
  intro n
  induction n with
  | zero => intro v_statuses y1 y2 y3 H locs ls h hl hf; exact (ll4_z hf).elim
  | succ n ih => intro v_statuses y1 y2 y3 H locs ls h hl hf; exact LX5_count_4 fx ih h hl (ll4_s hf)
def fX5_count (v_taped : Int32) (v_s : Nat → Int32) (v_statuses : Nat → Int32) (x1 : Int32) : Option (Int32 × (Nat → Int32)) :=
  ll4 (fX5_count_4 v_taped v_s) qF v_statuses x1 0 0
set_option maxRecDepth 100000 in
set_option maxHeartbeats 4000000 in
theorem tX5_count (l : Launch) (D : va_G) (cI cJ cZ cS : ClassId) (tb : Nat) (a_t a_s a_keptS a_statuses a_pile a_tape a_steps a_wish a_mark a_bitsOf a_sizeOf a_number a_moved : Nat) (sz : Nat) (v_isKept : Int32) (v_taped : Int32) (v_at : Int32) (v_fault : Int32) (v_laid : Int32) (v_open : Int32) (v_s : Nat → Int32) (v_statuses : Nat → Int32) (x1 : Int32) (rr : Int32) (kk' : (Nat → Int32)) (hf : fX5_count v_taped v_s v_statuses x1 = some (rr, kk')) : Met l yX5_count (Cond.code yX5_count cX5_count 4 (some .int) :: wA) rX5_count (q_Pre D cI cJ cZ cS tb [.ref a_t, .int x1] sz (wX5_count cI cJ cZ cS a_t a_s a_keptS a_statuses a_pile a_tape a_steps a_wish a_mark a_bitsOf a_sizeOf a_number a_moved v_isKept v_taped v_at v_fault v_laid v_open v_s v_statuses)) (q_Ri D rr (va_A (wX5_count cI cJ cZ cS a_t a_s a_keptS a_statuses a_pile a_tape a_steps a_wish a_mark a_bitsOf a_sizeOf a_number a_moved v_isKept v_taped v_at v_fault v_laid v_open v_s v_statuses) sz) ((fun k : (Nat → Int32) => (wX5_count cI cJ cZ cS a_t a_s a_keptS a_statuses a_pile a_tape a_steps a_wish a_mark a_bitsOf a_sizeOf a_number a_moved v_isKept v_taped v_at v_fault v_laid v_open v_s k)) kk')) 0 0 (va_A (wX5_count cI cJ cZ cS a_t a_s a_keptS a_statuses a_pile a_tape a_steps a_wish a_mark a_bitsOf a_sizeOf a_number a_moved v_isKept v_taped v_at v_fault v_laid v_open v_s v_statuses) sz) := by
  refine q_enter (Qf := fun A => (q_Ri D rr A ((fun k : (Nat → Int32) => (wX5_count cI cJ cZ cS a_t a_s a_keptS a_statuses a_pile a_tape a_steps a_wish a_mark a_bitsOf a_sizeOf a_number a_moved v_isKept v_taped v_at v_fault v_laid v_open v_s k)) kk'))) (by decide) rfl (Nat.le_of_ble_eq_true rfl) ?_
  intro p e s m below meth c A ls fx hname h hl
  have hx := fx.1
  have hb := fx.2.1
  have hl : lv_has ls 4 [(0, .ref a_t), (1, .int x1)] := hl
  generalize h9 : s.heap = H at h ⊢
  clear h9
  generalize h9 : ([] : List Loc) = locs at h ⊢
  clear h9
  unfold fX5_count at hf
  refine lv_iconst (v := 0) hx hb dX5_count_0 (by decide) ?_
  refine lv_istore_n (lv' := [(2, .int 0), (0, .ref a_t), (1, .int x1)]) hx hb dX5_count_1 rfl hl (by decide) rfl (fun ls hl => ?_)
  refine lv_iconst (v := 0) hx hb dX5_count_2 (by decide) ?_
  refine lv_istore_n (lv' := [(3, .int 0), (2, .int 0), (0, .ref a_t), (1, .int x1)]) hx hb dX5_count_3 rfl hl (by decide) rfl (fun ls hl => ?_)
  exact EX5_count_4 fx qF h (lv_sub hl [2, 3, 1, 0] rfl) hf
/-! X5_status -/
abbrev wX5_status (cI cJ cZ cS : ClassId) (a_t a_s a_keptS a_statuses a_pile a_tape a_steps a_wish a_mark a_bitsOf a_sizeOf a_number a_moved : Nat) (v_isKept : Int32) (v_taped : Int32) (v_at : Int32) (v_fault : Int32) (v_laid : Int32) (v_open : Int32) (v_statuses : Nat → Int32) : va_W := [(a_t, .inr (5, [.ref a_s, .ref a_keptS, .ref a_statuses, .int v_isKept, .ref a_pile, .ref a_tape, .ref a_steps, .int v_taped, .int v_at, .int v_fault, .int v_laid, .int v_open, .ref a_wish, .ref a_mark, .ref a_bitsOf, .ref a_sizeOf, .ref a_number, .ref a_moved])), (a_statuses, .inl (cI, 7, .inl v_statuses))]
abbrev rX5_status : Room := { frames := 1, cells := 0, slots := 0, locals := 25 }
def fX5_status_51 (ag25 : (Nat → Int32) → Int32 → Int32 → Int32 → Option (Int32 × (Nat → Int32))) (v_statuses : Nat → Int32) (s0 : Int32) (s1 : Int32) (y1 : Int32) (y3 : Int32) : Option (Int32 × (Nat → Int32)) :=
  nm (s0 + s1) (fun u1 =>
  nm (y3 + 1) (fun u2 =>
  ag25 v_statuses y1 u1 u2))
set_option maxRecDepth 100000 in
set_option maxHeartbeats 4000000 in
theorem LX5_status_51 {p : Program} {l : Launch} {e : Env} {s : State} {m : MethodId} {args : Array Value} {below : List Frame} {meth : Method} {c : Code} {D : va_G} {cI cJ cZ cS : ClassId} {tb : Nat} {A : Nat → Prop} {a_t a_s a_keptS a_statuses a_pile a_tape a_steps a_wish a_mark a_bitsOf a_sizeOf a_number a_moved : Nat} {v_isKept : Int32} {v_taped : Int32} {v_at : Int32} {v_fault : Int32} {v_laid : Int32} {v_open : Int32} {rr : Int32} {kk' : (Nat → Int32)} (fx : q_Fx p s m args meth c cX5_status 4 RX5 (some .int) D cI cJ cZ cS tb A) {ag25 : (Nat → Int32) → Int32 → Int32 → Int32 → Option (Int32 × (Nat → Int32))} (hag25 : ∀ {v_statuses : Nat → Int32} {y1 : Int32} {y2 : Int32} {y3 : Int32} {H : Heap} {locs : List Loc} {ls : Array Slot}, q_H D A s (wX5_status cI cJ cZ cS a_t a_s a_keptS a_statuses a_pile a_tape a_steps a_wish a_mark a_bitsOf a_sizeOf a_number a_moved v_isKept v_taped v_at v_fault v_laid v_open v_statuses) H locs → lv_has ls 4 [(0, .ref a_t), (1, .int y1), (2, .int y2), (3, .int y3)] → ag25 v_statuses y1 y2 y3 = some (rr, kk') → W p l e rX5_status s m args below meth c H locs 0 0 (MQ below (q_Ri D rr A ((fun k : (Nat → Int32) => (wX5_status cI cJ cZ cS a_t a_s a_keptS a_statuses a_pile a_tape a_steps a_wish a_mark a_bitsOf a_sizeOf a_number a_moved v_isKept v_taped v_at v_fault v_laid v_open k)) kk')) args s 0 0 A) (F0 m 25 ls [])) : ∀ {v_statuses : Nat → Int32} {s0 : Int32} {s1 : Int32} {y1 : Int32} {y3 : Int32} {H : Heap} {locs : List Loc} {ls : Array Slot}, q_H D A s (wX5_status cI cJ cZ cS a_t a_s a_keptS a_statuses a_pile a_tape a_steps a_wish a_mark a_bitsOf a_sizeOf a_number a_moved v_isKept v_taped v_at v_fault v_laid v_open v_statuses) H locs → lv_has ls 4 [(0, .ref a_t), (1, .int y1), (3, .int y3)] → fX5_status_51 ag25 v_statuses s0 s1 y1 y3 = some (rr, kk') → W p l e rX5_status s m args below meth c H locs 0 0 (MQ below (q_Ri D rr A ((fun k : (Nat → Int32) => (wX5_status cI cJ cZ cS a_t a_s a_keptS a_statuses a_pile a_tape a_steps a_wish a_mark a_bitsOf a_sizeOf a_number a_moved v_isKept v_taped v_at v_fault v_laid v_open k)) kk')) args s 0 0 A) (F0 m 51 ls [.int s1, .int s0]) := by
  intro v_statuses s0 s1 y1 y3 H locs ls h hl hf
  have hx := fx.1
  have hb := fx.2.1
  unfold fX5_status_51 at hf
  refine lv_iadd hx hb dX5_status_51 ?_
  obtain ⟨u1, eu1, hf⟩ := nm_inv hf
  refine lv_eqi eu1 ?_
  refine lv_istore_n (lv' := [(2, .int u1), (0, .ref a_t), (1, .int y1), (3, .int y3)]) hx hb dX5_status_52 rfl hl (by decide) rfl (fun ls hl => ?_)
  obtain ⟨u2, eu2, hf⟩ := nm_inv hf
  refine lv_iinc (v := u2) (lv' := [(3, .int u2), (2, .int u1), (0, .ref a_t), (1, .int y1)]) hx hb dX5_status_53 hl (k := 3) rfl (by rw [eu2]; rfl) (by decide) rfl (fun ls hl => ?_)
  refine lv_goto (tgt := 25) hx hb dX5_status_56 (by decide) ?_
  exact hag25 h (lv_sub hl [2, 3, 1, 0] rfl) hf
def fX5_status_41 (ag25 : (Nat → Int32) → Int32 → Int32 → Int32 → Option (Int32 × (Nat → Int32))) (v_statuses : Nat → Int32) (s0 : Int32) (y1 : Int32) (y3 : Int32) : Option (Int32 × (Nat → Int32)) :=
  gIn y3 7 (
  fX5_status_51 ag25 v_statuses s0 (v_statuses y3.toNatClampNeg) y1 y3)
set_option maxRecDepth 100000 in
set_option maxHeartbeats 4000000 in
theorem LX5_status_41 {p : Program} {l : Launch} {e : Env} {s : State} {m : MethodId} {args : Array Value} {below : List Frame} {meth : Method} {c : Code} {D : va_G} {cI cJ cZ cS : ClassId} {tb : Nat} {A : Nat → Prop} {a_t a_s a_keptS a_statuses a_pile a_tape a_steps a_wish a_mark a_bitsOf a_sizeOf a_number a_moved : Nat} {v_isKept : Int32} {v_taped : Int32} {v_at : Int32} {v_fault : Int32} {v_laid : Int32} {v_open : Int32} {rr : Int32} {kk' : (Nat → Int32)} (fx : q_Fx p s m args meth c cX5_status 4 RX5 (some .int) D cI cJ cZ cS tb A) {ag25 : (Nat → Int32) → Int32 → Int32 → Int32 → Option (Int32 × (Nat → Int32))} (hag25 : ∀ {v_statuses : Nat → Int32} {y1 : Int32} {y2 : Int32} {y3 : Int32} {H : Heap} {locs : List Loc} {ls : Array Slot}, q_H D A s (wX5_status cI cJ cZ cS a_t a_s a_keptS a_statuses a_pile a_tape a_steps a_wish a_mark a_bitsOf a_sizeOf a_number a_moved v_isKept v_taped v_at v_fault v_laid v_open v_statuses) H locs → lv_has ls 4 [(0, .ref a_t), (1, .int y1), (2, .int y2), (3, .int y3)] → ag25 v_statuses y1 y2 y3 = some (rr, kk') → W p l e rX5_status s m args below meth c H locs 0 0 (MQ below (q_Ri D rr A ((fun k : (Nat → Int32) => (wX5_status cI cJ cZ cS a_t a_s a_keptS a_statuses a_pile a_tape a_steps a_wish a_mark a_bitsOf a_sizeOf a_number a_moved v_isKept v_taped v_at v_fault v_laid v_open k)) kk')) args s 0 0 A) (F0 m 25 ls [])) : ∀ {v_statuses : Nat → Int32} {s0 : Int32} {y1 : Int32} {y3 : Int32} {H : Heap} {locs : List Loc} {ls : Array Slot}, q_H D A s (wX5_status cI cJ cZ cS a_t a_s a_keptS a_statuses a_pile a_tape a_steps a_wish a_mark a_bitsOf a_sizeOf a_number a_moved v_isKept v_taped v_at v_fault v_laid v_open v_statuses) H locs → lv_has ls 4 [(0, .ref a_t), (1, .int y1), (3, .int y3)] → fX5_status_41 ag25 v_statuses s0 y1 y3 = some (rr, kk') → W p l e rX5_status s m args below meth c H locs 0 0 (MQ below (q_Ri D rr A ((fun k : (Nat → Int32) => (wX5_status cI cJ cZ cS a_t a_s a_keptS a_statuses a_pile a_tape a_steps a_wish a_mark a_bitsOf a_sizeOf a_number a_moved v_isKept v_taped v_at v_fault v_laid v_open k)) kk')) args s 0 0 A) (F0 m 41 ls [.int s0]) := by
  intro v_statuses s0 y1 y3 H locs ls h hl hf
  have hx := fx.1
  have hb := fx.2.1
  unfold fX5_status_41 at hf
  refine lv_aload_n hx hb dX5_status_41 rfl (lv_at hl 0 rfl) ?_
  refine q_get (v := .ref a_statuses) fx inX5 h 0 rfl rfl 2 (by decide) k_638 rfl dX5_status_42 ?_
  refine lv_iload_n hx hb dX5_status_45 rfl (lv_at hl 2 rfl) ?_
  obtain ⟨i3, hf⟩ := gIn_inv hf
  refine q_iald fx h 1 rfl i3 dX5_status_46 ?_
  refine lv_goto (tgt := 51) hx hb dX5_status_47 (by decide) ?_
  exact LX5_status_51 fx hag25 h (lv_sub hl [0, 1, 2] rfl) hf
def fX5_status_25 (ag25 : (Nat → Int32) → Int32 → Int32 → Int32 → Option (Int32 × (Nat → Int32))) (v_statuses : Nat → Int32) (y1 : Int32) (y2 : Int32) (y3 : Int32) : Option (Int32 × (Nat → Int32)) :=
  (if (7 : Int32) ≤ y3 then (
  some (y2, v_statuses))
  else (
  (if y1 < 0 then (
  fX5_status_41 ag25 v_statuses y2 y1 y3)
  else (
  (if y3 = y1 then (
  fX5_status_41 ag25 v_statuses y2 y1 y3)
  else (
  fX5_status_51 ag25 v_statuses y2 0 y1 y3))))))
set_option maxRecDepth 100000 in
set_option maxHeartbeats 4000000 in
theorem LX5_status_25 {p : Program} {l : Launch} {e : Env} {s : State} {m : MethodId} {args : Array Value} {below : List Frame} {meth : Method} {c : Code} {D : va_G} {cI cJ cZ cS : ClassId} {tb : Nat} {A : Nat → Prop} {a_t a_s a_keptS a_statuses a_pile a_tape a_steps a_wish a_mark a_bitsOf a_sizeOf a_number a_moved : Nat} {v_isKept : Int32} {v_taped : Int32} {v_at : Int32} {v_fault : Int32} {v_laid : Int32} {v_open : Int32} {rr : Int32} {kk' : (Nat → Int32)} (fx : q_Fx p s m args meth c cX5_status 4 RX5 (some .int) D cI cJ cZ cS tb A) {ag25 : (Nat → Int32) → Int32 → Int32 → Int32 → Option (Int32 × (Nat → Int32))} (hag25 : ∀ {v_statuses : Nat → Int32} {y1 : Int32} {y2 : Int32} {y3 : Int32} {H : Heap} {locs : List Loc} {ls : Array Slot}, q_H D A s (wX5_status cI cJ cZ cS a_t a_s a_keptS a_statuses a_pile a_tape a_steps a_wish a_mark a_bitsOf a_sizeOf a_number a_moved v_isKept v_taped v_at v_fault v_laid v_open v_statuses) H locs → lv_has ls 4 [(0, .ref a_t), (1, .int y1), (2, .int y2), (3, .int y3)] → ag25 v_statuses y1 y2 y3 = some (rr, kk') → W p l e rX5_status s m args below meth c H locs 0 0 (MQ below (q_Ri D rr A ((fun k : (Nat → Int32) => (wX5_status cI cJ cZ cS a_t a_s a_keptS a_statuses a_pile a_tape a_steps a_wish a_mark a_bitsOf a_sizeOf a_number a_moved v_isKept v_taped v_at v_fault v_laid v_open k)) kk')) args s 0 0 A) (F0 m 25 ls [])) : ∀ {v_statuses : Nat → Int32} {y1 : Int32} {y2 : Int32} {y3 : Int32} {H : Heap} {locs : List Loc} {ls : Array Slot}, q_H D A s (wX5_status cI cJ cZ cS a_t a_s a_keptS a_statuses a_pile a_tape a_steps a_wish a_mark a_bitsOf a_sizeOf a_number a_moved v_isKept v_taped v_at v_fault v_laid v_open v_statuses) H locs → lv_has ls 4 [(0, .ref a_t), (1, .int y1), (2, .int y2), (3, .int y3)] → fX5_status_25 ag25 v_statuses y1 y2 y3 = some (rr, kk') → W p l e rX5_status s m args below meth c H locs 0 0 (MQ below (q_Ri D rr A ((fun k : (Nat → Int32) => (wX5_status cI cJ cZ cS a_t a_s a_keptS a_statuses a_pile a_tape a_steps a_wish a_mark a_bitsOf a_sizeOf a_number a_moved v_isKept v_taped v_at v_fault v_laid v_open k)) kk')) args s 0 0 A) (F0 m 25 ls []) := by
  intro v_statuses y1 y2 y3 H locs ls h hl hf
  have hx := fx.1
  have hb := fx.2.1
  unfold fX5_status_25 at hf
  refine lv_iload_n hx hb dX5_status_25 rfl (lv_at hl 3 rfl) ?_
  refine lv_bipush (v := 7) hx hb dX5_status_26 (by decide) ?_
  refine lv_icmp_ge (tgt := 59) hx hb dX5_status_28 (by decide) (fun c4 => ?_) (fun c4 => ?_)
  · have hf := it_t c4 hf
    refine lv_iload_n hx hb dX5_status_59 rfl (lv_at hl 2 rfl) ?_
    exact q_reti (fun k : (Nat → Int32) => (wX5_status cI cJ cZ cS a_t a_s a_keptS a_statuses a_pile a_tape a_steps a_wish a_mark a_bitsOf a_sizeOf a_number a_moved v_isKept v_taped v_at v_fault v_laid v_open k)) fx hf h dX5_status_60
  have hf := it_f c4 hf
  refine lv_iload_n hx hb dX5_status_31 rfl (lv_at hl 2 rfl) ?_
  refine lv_iload_n hx hb dX5_status_32 rfl (lv_at hl 1 rfl) ?_
  refine lv_if_lt (tgt := 41) hx hb dX5_status_33 (by decide) (fun c5 => ?_) (fun c5 => ?_)
  · have hf := it_t c5 hf
    exact LX5_status_41 fx hag25 h (lv_sub hl [0, 1, 3] rfl) hf
  have hf := it_f c5 hf
  refine lv_iload_n hx hb dX5_status_36 rfl (lv_at hl 3 rfl) ?_
  refine lv_iload_n hx hb dX5_status_37 rfl (lv_at hl 1 rfl) ?_
  refine lv_icmp_ne (tgt := 50) hx hb dX5_status_38 (by decide) (fun c6 => ?_) (fun c6 => ?_)
  · have hf := it_f c6 hf
    refine lv_iconst (v := 0) hx hb dX5_status_50 (by decide) ?_
    exact LX5_status_51 fx hag25 h (lv_sub hl [0, 1, 3] rfl) hf
  have hf := it_t c6 hf
  exact LX5_status_41 fx hag25 h (lv_sub hl [0, 1, 3] rfl) hf
set_option maxRecDepth 100000 in
theorem EX5_status_25 {p : Program} {l : Launch} {e : Env} {s : State} {m : MethodId} {args : Array Value} {below : List Frame} {meth : Method} {c : Code} {D : va_G} {cI cJ cZ cS : ClassId} {tb : Nat} {A : Nat → Prop} {a_t a_s a_keptS a_statuses a_pile a_tape a_steps a_wish a_mark a_bitsOf a_sizeOf a_number a_moved : Nat} {v_isKept : Int32} {v_taped : Int32} {v_at : Int32} {v_fault : Int32} {v_laid : Int32} {v_open : Int32} {rr : Int32} {kk' : (Nat → Int32)} (fx : q_Fx p s m args meth c cX5_status 4 RX5 (some .int) D cI cJ cZ cS tb A) : ∀ (n : Nat), ∀ {v_statuses : Nat → Int32} {y1 : Int32} {y2 : Int32} {y3 : Int32} {H : Heap} {locs : List Loc} {ls : Array Slot}, q_H D A s (wX5_status cI cJ cZ cS a_t a_s a_keptS a_statuses a_pile a_tape a_steps a_wish a_mark a_bitsOf a_sizeOf a_number a_moved v_isKept v_taped v_at v_fault v_laid v_open v_statuses) H locs → lv_has ls 4 [(0, .ref a_t), (1, .int y1), (2, .int y2), (3, .int y3)] → ll4 (fX5_status_25 ) n v_statuses y1 y2 y3 = some (rr, kk') → W p l e rX5_status s m args below meth c H locs 0 0 (MQ below (q_Ri D rr A ((fun k : (Nat → Int32) => (wX5_status cI cJ cZ cS a_t a_s a_keptS a_statuses a_pile a_tape a_steps a_wish a_mark a_bitsOf a_sizeOf a_number a_moved v_isKept v_taped v_at v_fault v_laid v_open k)) kk')) args s 0 0 A) (F0 m 25 ls []) := by
  intro n
  induction n with
  | zero => intro v_statuses y1 y2 y3 H locs ls h hl hf; exact (ll4_z hf).elim
  | succ n ih => intro v_statuses y1 y2 y3 H locs ls h hl hf; exact LX5_status_25 fx ih h hl (ll4_s hf)
def fX5_status (v_statuses : Nat → Int32) (x1 : Int32) : Option (Int32 × (Nat → Int32)) :=
  bR (fX5_in (x1.toInt64) (-1) 6) (fun r7 k7 =>
  (if r7 = 0 then (
  bR (fX5_finds v_statuses (-1000000001)) (fun r9 k9 =>
  some (r9, k9)))
  else (
  ll4 (fX5_status_25 ) qF v_statuses x1 0 0)))
set_option maxRecDepth 100000 in
set_option maxHeartbeats 4000000 in
theorem tX5_status (l : Launch) (D : va_G) (cI cJ cZ cS : ClassId) (tb : Nat) (a_t a_s a_keptS a_statuses a_pile a_tape a_steps a_wish a_mark a_bitsOf a_sizeOf a_number a_moved : Nat) (sz : Nat) (v_isKept : Int32) (v_taped : Int32) (v_at : Int32) (v_fault : Int32) (v_laid : Int32) (v_open : Int32) (v_statuses : Nat → Int32) (x1 : Int32) (rr : Int32) (kk' : (Nat → Int32)) (hf : fX5_status v_statuses x1 = some (rr, kk')) : Met l yX5_status (Cond.code yX5_status cX5_status 4 (some .int) :: wA) rX5_status (q_Pre D cI cJ cZ cS tb [.ref a_t, .int x1] sz (wX5_status cI cJ cZ cS a_t a_s a_keptS a_statuses a_pile a_tape a_steps a_wish a_mark a_bitsOf a_sizeOf a_number a_moved v_isKept v_taped v_at v_fault v_laid v_open v_statuses)) (q_Ri D rr (va_A (wX5_status cI cJ cZ cS a_t a_s a_keptS a_statuses a_pile a_tape a_steps a_wish a_mark a_bitsOf a_sizeOf a_number a_moved v_isKept v_taped v_at v_fault v_laid v_open v_statuses) sz) ((fun k : (Nat → Int32) => (wX5_status cI cJ cZ cS a_t a_s a_keptS a_statuses a_pile a_tape a_steps a_wish a_mark a_bitsOf a_sizeOf a_number a_moved v_isKept v_taped v_at v_fault v_laid v_open k)) kk')) 0 0 (va_A (wX5_status cI cJ cZ cS a_t a_s a_keptS a_statuses a_pile a_tape a_steps a_wish a_mark a_bitsOf a_sizeOf a_number a_moved v_isKept v_taped v_at v_fault v_laid v_open v_statuses) sz) := by
  refine q_enter (Qf := fun A => (q_Ri D rr A ((fun k : (Nat → Int32) => (wX5_status cI cJ cZ cS a_t a_s a_keptS a_statuses a_pile a_tape a_steps a_wish a_mark a_bitsOf a_sizeOf a_number a_moved v_isKept v_taped v_at v_fault v_laid v_open k)) kk'))) (by decide) rfl (Nat.le_of_ble_eq_true rfl) ?_
  intro p e s m below meth c A ls fx hname h hl
  have hx := fx.1
  have hb := fx.2.1
  have hl : lv_has ls 4 [(0, .ref a_t), (1, .int x1)] := hl
  generalize h9 : s.heap = H at h ⊢
  clear h9
  generalize h9 : ([] : List Loc) = locs at h ⊢
  clear h9
  unfold fX5_status at hf
  refine lv_iload_n hx hb dX5_status_0 rfl (lv_at hl 1 rfl) ?_
  refine lv_i2l hx hb dX5_status_1 rfl ?_
  refine q_ldc2 fx k_1015 dX5_status_2 ?_
  refine q_ldc2 fx k_1016 dX5_status_5 ?_
  obtain ⟨r7, k7, hg, hf⟩ := bR_inv hf
  refine q_ci (rest := []) (ws' := (wX5_status cI cJ cZ cS a_t a_s a_keptS a_statuses a_pile a_tape a_steps a_wish a_mark a_bitsOf a_sizeOf a_number a_moved v_isKept v_taped v_at v_fault v_laid v_open v_statuses)) (w1 := (wX5_in cI cJ cZ cS)) fx h [] rfl rfl rfl rfl (q_runS fx h hl.1 [] rfl rfl (tX5_in l D cI cJ cZ cS tb H.size (x1.toInt64) (-1) 6 r7 k7 hg) msX5_in k_697 ⟨rfl, rfl⟩ ⟨Nat.le_of_ble_eq_true rfl, Nat.le_of_ble_eq_true rfl⟩ rfl rfl (Nat.le_of_ble_eq_true rfl) dX5_status_8 ⟨Nat.le_of_ble_eq_true rfl, Nat.le_of_ble_eq_true rfl⟩) (fun H locs h => ?_)
  refine lv_if_ne (tgt := 21) hx hb dX5_status_11 (by decide) (fun c8 => ?_) (fun c8 => ?_)
  · have hf := it_f c8 hf
    refine lv_iconst (v := 0) hx hb dX5_status_21 (by decide) ?_
    refine lv_istore_n (lv' := [(2, .int 0), (0, .ref a_t), (1, .int x1)]) hx hb dX5_status_22 rfl hl (by decide) rfl (fun ls hl => ?_)
    refine lv_iconst (v := 0) hx hb dX5_status_23 (by decide) ?_
    refine lv_istore_n (lv' := [(3, .int 0), (2, .int 0), (0, .ref a_t), (1, .int x1)]) hx hb dX5_status_24 rfl hl (by decide) rfl (fun ls hl => ?_)
    exact EX5_status_25 fx qF h (lv_sub hl [2, 3, 1, 0] rfl) hf
  have hf := it_t c8 hf
  refine lv_aload_n hx hb dX5_status_14 rfl (lv_at hl 0 rfl) ?_
  refine q_ldc fx k_701 dX5_status_15 ?_
  obtain ⟨r9, k9, hg, hf⟩ := bR_inv hf
  refine q_ci (rest := []) (ws' := (wX5_status cI cJ cZ cS a_t a_s a_keptS a_statuses a_pile a_tape a_steps a_wish a_mark a_bitsOf a_sizeOf a_number a_moved v_isKept v_taped v_at v_fault v_laid v_open k9)) (w1 := (wX5_finds cI cJ cZ cS a_t a_s a_keptS a_statuses a_pile a_tape a_steps a_wish a_mark a_bitsOf a_sizeOf a_number a_moved v_isKept v_taped v_at v_fault v_laid v_open k9)) fx h [0, 1] rfl rfl rfl rfl (q_runV fx h hl.1 [0, 1] rfl rfl (tX5_finds l D cI cJ cZ cS tb a_t a_s a_keptS a_statuses a_pile a_tape a_steps a_wish a_mark a_bitsOf a_sizeOf a_number a_moved H.size v_isKept v_taped v_at v_fault v_laid v_open v_statuses (-1000000001) r9 k9 hg) mvX5_finds k_702 ⟨rfl, rfl⟩ ⟨Nat.le_of_ble_eq_true rfl, Nat.le_of_ble_eq_true rfl⟩ rfl rfl rfl rfl (Nat.le_of_ble_eq_true rfl) dX5_status_17 ⟨Nat.le_of_ble_eq_true rfl, Nat.le_of_ble_eq_true rfl⟩) (fun H locs h => ?_)
  exact q_reti (fun k : (Nat → Int32) => (wX5_status cI cJ cZ cS a_t a_s a_keptS a_statuses a_pile a_tape a_steps a_wish a_mark a_bitsOf a_sizeOf a_number a_moved v_isKept v_taped v_at v_fault v_laid v_open k)) fx hf h dX5_status_20
