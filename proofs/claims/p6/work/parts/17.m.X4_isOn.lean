/-! X4_isOn -/
abbrev wX4_isOn (cI cJ cZ cS : ClassId) : va_W := []
abbrev rX4_isOn : Room := { frames := 0, cells := 0, slots := 0, locals := 0 }
def fX4_isOn (x0 : Int32) (x1 : Int32) : Option (Int32 × Unit) :=
  (if ((jshr x1 x0) &&& 1) = 0 then (
  some (0, ()))
  else (
  some (1, ())))
set_option maxRecDepth 100000 in
set_option maxHeartbeats 4000000 in
theorem tX4_isOn (l : Launch) (D : va_G) (cI cJ cZ cS : ClassId) (tb : Nat) (sz : Nat) (x0 : Int32) (x1 : Int32) (rr : Int32) (kk' : Unit) (hf : fX4_isOn x0 x1 = some (rr, kk')) : Met l yX4_isOn (Cond.code yX4_isOn cX4_isOn 2 (some .boolean) :: wA) rX4_isOn (q_Pre D cI cJ cZ cS tb [.int x0, .int x1] sz (wX4_isOn cI cJ cZ cS)) (q_Ri D rr (va_A (wX4_isOn cI cJ cZ cS) sz) ((fun k : Unit => (wX4_isOn cI cJ cZ cS)) kk')) 0 0 (va_A (wX4_isOn cI cJ cZ cS) sz) := by
  refine q_enter (Qf := fun A => (q_Ri D rr A ((fun k : Unit => (wX4_isOn cI cJ cZ cS)) kk'))) (by decide) rfl (Nat.le_of_ble_eq_true rfl) ?_
  intro p e s m below meth c A ls fx hname h hl
  have hx := fx.1
  have hb := fx.2.1
  have hl : lv_has ls 2 [(0, .int x0), (1, .int x1)] := hl
  generalize h9 : s.heap = H at h ⊢
  clear h9
  generalize h9 : ([] : List Loc) = locs at h ⊢
  clear h9
  unfold fX4_isOn at hf
  refine lv_iload_n hx hb dX4_isOn_0 rfl (lv_at hl 1 rfl) ?_
  refine lv_iload_n hx hb dX4_isOn_1 rfl (lv_at hl 0 rfl) ?_
  refine lv_ishr hx hb dX4_isOn_2 ?_
  refine lv_iconst (v := 1) hx hb dX4_isOn_3 (by decide) ?_
  refine lv_iand hx hb dX4_isOn_4 ?_
  refine lv_if_eq (tgt := 12) hx hb dX4_isOn_5 (by decide) (fun c1 => ?_) (fun c1 => ?_)
  · have hf := it_t c1 hf
    refine lv_iconst (v := 0) hx hb dX4_isOn_12 (by decide) ?_
    exact q_retz (fun k : Unit => (wX4_isOn cI cJ cZ cS)) fx rfl hf h dX4_isOn_13
  have hf := it_f c1 hf
  refine lv_iconst (v := 1) hx hb dX4_isOn_8 (by decide) ?_
  refine lv_goto (tgt := 13) hx hb dX4_isOn_9 (by decide) ?_
  exact q_retz (fun k : Unit => (wX4_isOn cI cJ cZ cS)) fx rfl hf h dX4_isOn_13
/-! X2_listsWith -/
abbrev wX2_listsWith (cI cJ cZ cS : ClassId) (a_t a_bytes : Nat) (v_length : Int32) (v_place : Int32) (v_fault : Int32) (v_teller : Int32) (v_word : Int32) : va_W := [(a_t, .inr (2, [.ref a_bytes, .int v_length, .int v_place, .int v_fault, .int v_teller, .int v_word]))]
abbrev rX2_listsWith : Room := { frames := 1, cells := 0, slots := 0, locals := 21 }
def fX2_listsWith (v_word : Int32) (x1 : Int32) : Option (Int64 × Unit) :=
  (if (6 : Int32) ≤ x1 then (
  bR (fX4_isOn (x1 - 6) v_word) (fun r2 k2 =>
  (if r2 = 0 then (
  some (0, ()))
  else (
  some ((-1), ())))))
  else (
  gIn x1 6 (
  some (q_tb x1.toNatClampNeg, ()))))
set_option maxRecDepth 100000 in
set_option maxHeartbeats 4000000 in
theorem tX2_listsWith (l : Launch) (D : va_G) (cI cJ cZ cS : ClassId) (tb : Nat) (a_t a_bytes : Nat) (sz : Nat) (v_length : Int32) (v_place : Int32) (v_fault : Int32) (v_teller : Int32) (v_word : Int32) (x1 : Int32) (rr : Int64) (kk' : Unit) (hf : fX2_listsWith v_word x1 = some (rr, kk')) : Met l yX2_listsWith (Cond.code yX2_listsWith cX2_listsWith 2 (some .long) :: wA) rX2_listsWith (q_Pre D cI cJ cZ cS tb [.ref a_t, .int x1] sz (wX2_listsWith cI cJ cZ cS a_t a_bytes v_length v_place v_fault v_teller v_word)) (q_Rl D rr (va_A (wX2_listsWith cI cJ cZ cS a_t a_bytes v_length v_place v_fault v_teller v_word) sz) ((fun k : Unit => (wX2_listsWith cI cJ cZ cS a_t a_bytes v_length v_place v_fault v_teller v_word)) kk')) 0 0 (va_A (wX2_listsWith cI cJ cZ cS a_t a_bytes v_length v_place v_fault v_teller v_word) sz) := by
  refine q_enter (Qf := fun A => (q_Rl D rr A ((fun k : Unit => (wX2_listsWith cI cJ cZ cS a_t a_bytes v_length v_place v_fault v_teller v_word)) kk'))) (by decide) rfl (Nat.le_of_ble_eq_true rfl) ?_
  intro p e s m below meth c A ls fx hname h hl
  have hx := fx.1
  have hb := fx.2.1
  have hl : lv_has ls 2 [(0, .ref a_t), (1, .int x1)] := hl
  generalize h9 : s.heap = H at h ⊢
  clear h9
  generalize h9 : ([] : List Loc) = locs at h ⊢
  clear h9
  unfold fX2_listsWith at hf
  refine lv_iload_n hx hb dX2_listsWith_0 rfl (lv_at hl 1 rfl) ?_
  refine q_tabN fx h nf_12 dX2_listsWith_1 ?_
  refine q_tabL fx h dX2_listsWith_4 ?_
  refine lv_icmp_ge (tgt := 14) hx hb dX2_listsWith_5 (by decide) (fun c1 => ?_) (fun c1 => ?_)
  · have hf := it_t c1 hf
    refine lv_iload_n hx hb dX2_listsWith_14 rfl (lv_at hl 1 rfl) ?_
    refine q_tabN fx h nf_12 dX2_listsWith_15 ?_
    refine q_tabL fx h dX2_listsWith_18 ?_
    refine lv_isub hx hb dX2_listsWith_19 ?_
    refine lv_aload_n hx hb dX2_listsWith_20 rfl (lv_at hl 0 rfl) ?_
    refine q_get (v := .int v_word) fx inX2 h 0 rfl rfl 5 (by decide) k_124 rfl dX2_listsWith_21 ?_
    obtain ⟨r2, k2, hg, hf⟩ := bR_inv hf
    refine q_ci (rest := []) (ws' := (wX2_listsWith cI cJ cZ cS a_t a_bytes v_length v_place v_fault v_teller v_word)) (w1 := (wX4_isOn cI cJ cZ cS)) fx h [] rfl rfl rfl rfl (q_runSN fx h hl.1 [] rfl rfl (tX4_isOn l D cI cJ cZ cS tb H.size (x1 - 6) v_word r2 k2 hg) msX4_isOn nm_1 ⟨rfl, rfl⟩ ⟨Nat.le_of_ble_eq_true rfl, Nat.le_of_ble_eq_true rfl⟩ rfl rfl (Nat.le_of_ble_eq_true rfl) dX2_listsWith_24 ⟨Nat.le_of_ble_eq_true rfl, Nat.le_of_ble_eq_true rfl⟩) (fun H locs h => ?_)
    refine lv_if_eq (tgt := 36) hx hb dX2_listsWith_27 (by decide) (fun c3 => ?_) (fun c3 => ?_)
    · have hf := it_t c3 hf
      refine lv_lconst (v := 0) hx hb dX2_listsWith_36 (by decide) ?_
      exact q_retl (fun k : Unit => (wX2_listsWith cI cJ cZ cS a_t a_bytes v_length v_place v_fault v_teller v_word)) fx hf h dX2_listsWith_37
    have hf := it_f c3 hf
    refine q_ldc2 fx k_303 dX2_listsWith_30 ?_
    refine lv_goto (tgt := 37) hx hb dX2_listsWith_33 (by decide) ?_
    exact q_retl (fun k : Unit => (wX2_listsWith cI cJ cZ cS a_t a_bytes v_length v_place v_fault v_teller v_word)) fx hf h dX2_listsWith_37
  have hf := it_f c1 hf
  refine q_tabN fx h nf_12 dX2_listsWith_8 ?_
  refine lv_iload_n hx hb dX2_listsWith_11 rfl (lv_at hl 1 rfl) ?_
  obtain ⟨i4, hf⟩ := gIn_inv hf
  refine q_tabA fx h i4 dX2_listsWith_12 ?_
  exact q_retl (fun k : Unit => (wX2_listsWith cI cJ cZ cS a_t a_bytes v_length v_place v_fault v_teller v_word)) fx hf h dX2_listsWith_13
/-! X2_passes -/
abbrev wX2_passes (cI cJ cZ cS : ClassId) (a_t a_bytes : Nat) (v_length : Int32) (v_place : Int32) (v_fault : Int32) (v_teller : Int32) (v_word : Int32) (v_bytes : Nat → Int32) : va_W := [(a_t, .inr (2, [.ref a_bytes, .int v_length, .int v_place, .int v_fault, .int v_teller, .int v_word])), (a_bytes, .inl (cI, 60, .inl v_bytes))]
abbrev rX2_passes : Room := { frames := 1, cells := 0, slots := 0, locals := 20 }
def fX2_passes_13 (v_length : Int32) (v_fault : Int32) (v_bytes : Nat → Int32) (v_place : Int32) (s0 : Int32) : Option (Int32 × Int32) :=
  bR (fX4_oneIf s0) (fun r1 k1 =>
  nm (v_place + r1) (fun u2 =>
  gB s0 (some (s0, u2))))
set_option maxRecDepth 100000 in
set_option maxHeartbeats 4000000 in
theorem LX2_passes_13 {p : Program} {l : Launch} {e : Env} {s : State} {m : MethodId} {args : Array Value} {below : List Frame} {meth : Method} {c : Code} {D : va_G} {cI cJ cZ cS : ClassId} {tb : Nat} {A : Nat → Prop} {a_t a_bytes : Nat} {v_length : Int32} {v_fault : Int32} {v_teller : Int32} {v_word : Int32} {v_bytes : Nat → Int32} {rr : Int32} {kk' : Int32} (fx : q_Fx p s m args meth c cX2_passes 3 RX2 (some .boolean) D cI cJ cZ cS tb A) : ∀ {v_place : Int32} {s0 : Int32} {H : Heap} {locs : List Loc} {ls : Array Slot}, q_H D A s (wX2_passes cI cJ cZ cS a_t a_bytes v_length v_place v_fault v_teller v_word v_bytes) H locs → lv_has ls 3 [(0, .ref a_t)] → fX2_passes_13 v_length v_fault v_bytes v_place s0 = some (rr, kk') → W p l e rX2_passes s m args below meth c H locs 0 0 (MQ below (q_Ri D rr A ((fun k : Int32 => (wX2_passes cI cJ cZ cS a_t a_bytes v_length k v_fault v_teller v_word v_bytes)) kk')) args s 0 0 A) (F0 m 13 ls [.int s0]) := by
  intro v_place s0 H locs ls h hl hf
  have hx := fx.1
  have hb := fx.2.1
  unfold fX2_passes_13 at hf
  refine lv_istore_n (lv' := [(2, .int s0), (0, .ref a_t)]) hx hb dX2_passes_13 rfl hl (by decide) rfl (fun ls hl => ?_)
  refine lv_aload_n hx hb dX2_passes_14 rfl (lv_at hl 1 rfl) ?_
  refine lv_dup hx hb dX2_passes_15 rfl ?_
  refine q_get (v := .int v_place) fx inX2 h 0 rfl rfl 2 (by decide) k_120 rfl dX2_passes_16 ?_
  refine lv_iload_n hx hb dX2_passes_19 rfl (lv_at hl 0 rfl) ?_
  obtain ⟨r1, k1, hg, hf⟩ := bR_inv hf
  refine q_ci (rest := [.int v_place, .ref a_t]) (ws' := (wX2_passes cI cJ cZ cS a_t a_bytes v_length v_place v_fault v_teller v_word v_bytes)) (w1 := (wX4_oneIf cI cJ cZ cS)) fx h [] rfl rfl rfl rfl (q_runSN fx h hl.1 [] rfl rfl (tX4_oneIf l D cI cJ cZ cS tb H.size s0 r1 k1 hg) msX4_oneIf nm_2 ⟨rfl, rfl⟩ ⟨Nat.le_of_ble_eq_true rfl, Nat.le_of_ble_eq_true rfl⟩ rfl rfl (Nat.le_of_ble_eq_true rfl) dX2_passes_20 ⟨Nat.le_of_ble_eq_true rfl, Nat.le_of_ble_eq_true rfl⟩) (fun H locs h => ?_)
  refine lv_iadd hx hb dX2_passes_23 ?_
  obtain ⟨u2, eu2, hf⟩ := nm_inv hf
  refine lv_eqi eu2 ?_
  refine q_put (v := .int u2) (ws' := (wX2_passes cI cJ cZ cS a_t a_bytes v_length u2 v_fault v_teller v_word v_bytes)) fx inX2 tyX2 tyX2_ok nmX2 h 0 rfl rfl 2 (by decide) k_120 rfl rfl rfl (Nat.le_of_ble_eq_true rfl) rfl dX2_passes_24 (fun H locs h => ?_)
  refine lv_iload_n hx hb dX2_passes_27 rfl (lv_at hl 0 rfl) ?_
  obtain ⟨b3, hf⟩ := gB_inv hf
  exact q_retz (fun k : Int32 => (wX2_passes cI cJ cZ cS a_t a_bytes v_length k v_fault v_teller v_word v_bytes)) fx b3 hf h dX2_passes_28
def fX2_passes (v_length : Int32) (v_place : Int32) (v_fault : Int32) (v_bytes : Nat → Int32) (x1 : Int32) : Option (Int32 × Int32) :=
  bR (fX2_sign v_length v_place v_fault v_bytes) (fun r4 k4 =>
  (if r4 = x1 then (
  fX2_passes_13 v_length v_fault v_bytes v_place 1)
  else (
  fX2_passes_13 v_length v_fault v_bytes v_place 0)))
set_option maxRecDepth 100000 in
set_option maxHeartbeats 4000000 in
theorem tX2_passes (l : Launch) (D : va_G) (cI cJ cZ cS : ClassId) (tb : Nat) (a_t a_bytes : Nat) (sz : Nat) (v_length : Int32) (v_place : Int32) (v_fault : Int32) (v_teller : Int32) (v_word : Int32) (v_bytes : Nat → Int32) (x1 : Int32) (rr : Int32) (kk' : Int32) (hf : fX2_passes v_length v_place v_fault v_bytes x1 = some (rr, kk')) : Met l yX2_passes (Cond.code yX2_passes cX2_passes 3 (some .boolean) :: wA) rX2_passes (q_Pre D cI cJ cZ cS tb [.ref a_t, .int x1] sz (wX2_passes cI cJ cZ cS a_t a_bytes v_length v_place v_fault v_teller v_word v_bytes)) (q_Ri D rr (va_A (wX2_passes cI cJ cZ cS a_t a_bytes v_length v_place v_fault v_teller v_word v_bytes) sz) ((fun k : Int32 => (wX2_passes cI cJ cZ cS a_t a_bytes v_length k v_fault v_teller v_word v_bytes)) kk')) 0 0 (va_A (wX2_passes cI cJ cZ cS a_t a_bytes v_length v_place v_fault v_teller v_word v_bytes) sz) := by
  refine q_enter (Qf := fun A => (q_Ri D rr A ((fun k : Int32 => (wX2_passes cI cJ cZ cS a_t a_bytes v_length k v_fault v_teller v_word v_bytes)) kk'))) (by decide) rfl (Nat.le_of_ble_eq_true rfl) ?_
  intro p e s m below meth c A ls fx hname h hl
  have hx := fx.1
  have hb := fx.2.1
  have hl : lv_has ls 3 [(0, .ref a_t), (1, .int x1)] := hl
  generalize h9 : s.heap = H at h ⊢
  clear h9
  generalize h9 : ([] : List Loc) = locs at h ⊢
  clear h9
  unfold fX2_passes at hf
  refine lv_aload_n hx hb dX2_passes_0 rfl (lv_at hl 0 rfl) ?_
  obtain ⟨r4, k4, hg, hf⟩ := bR_inv hf
  refine q_ci (rest := []) (ws' := (wX2_passes cI cJ cZ cS a_t a_bytes v_length v_place v_fault v_teller v_word v_bytes)) (w1 := (wX2_sign cI cJ cZ cS a_t a_bytes v_length v_place v_fault v_teller v_word v_bytes)) fx h [0, 1] rfl rfl rfl rfl (q_runV fx h hl.1 [0, 1] rfl rfl (tX2_sign l D cI cJ cZ cS tb a_t a_bytes H.size v_length v_place v_fault v_teller v_word v_bytes r4 k4 hg) mvX2_sign k_290 ⟨rfl, rfl⟩ ⟨Nat.le_of_ble_eq_true rfl, Nat.le_of_ble_eq_true rfl⟩ rfl rfl rfl rfl (Nat.le_of_ble_eq_true rfl) dX2_passes_1 ⟨Nat.le_of_ble_eq_true rfl, Nat.le_of_ble_eq_true rfl⟩) (fun H locs h => ?_)
  refine lv_iload_n hx hb dX2_passes_4 rfl (lv_at hl 1 rfl) ?_
  refine lv_icmp_ne (tgt := 12) hx hb dX2_passes_5 (by decide) (fun c5 => ?_) (fun c5 => ?_)
  · have hf := it_f c5 hf
    refine lv_iconst (v := 0) hx hb dX2_passes_12 (by decide) ?_
    exact LX2_passes_13 fx h (lv_sub hl [0] rfl) hf
  have hf := it_t c5 hf
  refine lv_iconst (v := 1) hx hb dX2_passes_8 (by decide) ?_
  refine lv_goto (tgt := 13) hx hb dX2_passes_9 (by decide) ?_
  exact LX2_passes_13 fx h (lv_sub hl [0] rfl) hf
/-! X2_fail -/
abbrev wX2_fail (cI cJ cZ cS : ClassId) (a_t a_bytes : Nat) (v_length : Int32) (v_place : Int32) (v_fault : Int32) (v_teller : Int32) (v_word : Int32) : va_W := [(a_t, .inr (2, [.ref a_bytes, .int v_length, .int v_place, .int v_fault, .int v_teller, .int v_word]))]
abbrev rX2_fail : Room := { frames := 0, cells := 0, slots := 0, locals := 0 }
def fX2_fail (v_place : Int32) (v_fault : Int32) : Option (Int64 × Int32) :=
  (if v_fault = (-1) then (
  some (0, v_place))
  else (
  some (0, v_fault)))
set_option maxRecDepth 100000 in
set_option maxHeartbeats 4000000 in
theorem tX2_fail (l : Launch) (D : va_G) (cI cJ cZ cS : ClassId) (tb : Nat) (a_t a_bytes : Nat) (sz : Nat) (v_length : Int32) (v_place : Int32) (v_fault : Int32) (v_teller : Int32) (v_word : Int32) (rr : Int64) (kk' : Int32) (hf : fX2_fail v_place v_fault = some (rr, kk')) : Met l yX2_fail (Cond.code yX2_fail cX2_fail 1 (some .long) :: wA) rX2_fail (q_Pre D cI cJ cZ cS tb [.ref a_t] sz (wX2_fail cI cJ cZ cS a_t a_bytes v_length v_place v_fault v_teller v_word)) (q_Rl D rr (va_A (wX2_fail cI cJ cZ cS a_t a_bytes v_length v_place v_fault v_teller v_word) sz) ((fun k : Int32 => (wX2_fail cI cJ cZ cS a_t a_bytes v_length v_place k v_teller v_word)) kk')) 0 0 (va_A (wX2_fail cI cJ cZ cS a_t a_bytes v_length v_place v_fault v_teller v_word) sz) := by
  refine q_enter (Qf := fun A => (q_Rl D rr A ((fun k : Int32 => (wX2_fail cI cJ cZ cS a_t a_bytes v_length v_place k v_teller v_word)) kk'))) (by decide) rfl (Nat.le_of_ble_eq_true rfl) ?_
  intro p e s m below meth c A ls fx hname h hl
  have hx := fx.1
  have hb := fx.2.1
  have hl : lv_has ls 1 [(0, .ref a_t)] := hl
  generalize h9 : s.heap = H at h ⊢
  clear h9
  generalize h9 : ([] : List Loc) = locs at h ⊢
  clear h9
  unfold fX2_fail at hf
  refine lv_aload_n hx hb dX2_fail_0 rfl (lv_at hl 0 rfl) ?_
  refine q_get (v := .int v_fault) fx inX2 h 0 rfl rfl 3 (by decide) k_121 rfl dX2_fail_1 ?_
  refine lv_iconst (v := -1) hx hb dX2_fail_4 (by decide) ?_
  refine lv_icmp_ne (tgt := 16) hx hb dX2_fail_5 (by decide) (fun c1 => ?_) (fun c1 => ?_)
  · have hf := it_f c1 hf
    refine lv_lconst (v := 0) hx hb dX2_fail_16 (by decide) ?_
    exact q_retl (fun k : Int32 => (wX2_fail cI cJ cZ cS a_t a_bytes v_length v_place k v_teller v_word)) fx hf h dX2_fail_17
  have hf := it_t c1 hf
  refine lv_aload_n hx hb dX2_fail_8 rfl (lv_at hl 0 rfl) ?_
  refine lv_aload_n hx hb dX2_fail_9 rfl (lv_at hl 0 rfl) ?_
  refine q_get (v := .int v_place) fx inX2 h 0 rfl rfl 2 (by decide) k_120 rfl dX2_fail_10 ?_
  refine q_put (v := .int v_place) (ws' := (wX2_fail cI cJ cZ cS a_t a_bytes v_length v_place v_place v_teller v_word)) fx inX2 tyX2 tyX2_ok nmX2 h 0 rfl rfl 3 (by decide) k_121 rfl rfl rfl (Nat.le_of_ble_eq_true rfl) rfl dX2_fail_13 (fun H locs h => ?_)
  refine lv_lconst (v := 0) hx hb dX2_fail_16 (by decide) ?_
  exact q_retl (fun k : Int32 => (wX2_fail cI cJ cZ cS a_t a_bytes v_length v_place k v_teller v_word)) fx hf h dX2_fail_17
/-! X2_closed -/
abbrev wX2_closed (cI cJ cZ cS : ClassId) (a_t a_bytes : Nat) (v_length : Int32) (v_place : Int32) (v_fault : Int32) (v_teller : Int32) (v_word : Int32) (v_bytes : Nat → Int32) : va_W := [(a_t, .inr (2, [.ref a_bytes, .int v_length, .int v_place, .int v_fault, .int v_teller, .int v_word])), (a_bytes, .inl (cI, 60, .inl v_bytes))]
abbrev rX2_closed : Room := { frames := 2, cells := 0, slots := 0, locals := 42 }
def fX2_closed (v_length : Int32) (v_place : Int32) (v_fault : Int32) (v_bytes : Nat → Int32) (x1 : Int64) : Option (Int64 × Int32 × Int32) :=
  bR (fX2_passes v_length v_place v_fault v_bytes 41) (fun r1 k1 =>
  (if r1 = 0 then (
  bR (fX2_fail k1 v_fault) (fun r3 k3 =>
  some (r3, (k1, k3))))
  else (
  some (x1, (k1, v_fault)))))
set_option maxRecDepth 100000 in
set_option maxHeartbeats 4000000 in
theorem tX2_closed (l : Launch) (D : va_G) (cI cJ cZ cS : ClassId) (tb : Nat) (a_t a_bytes : Nat) (sz : Nat) (v_length : Int32) (v_place : Int32) (v_fault : Int32) (v_teller : Int32) (v_word : Int32) (v_bytes : Nat → Int32) (x1 : Int64) (rr : Int64) (kk' : Int32 × Int32) (hf : fX2_closed v_length v_place v_fault v_bytes x1 = some (rr, kk')) : Met l yX2_closed (Cond.code yX2_closed cX2_closed 3 (some .long) :: wA) rX2_closed (q_Pre D cI cJ cZ cS tb [.ref a_t, .long x1] sz (wX2_closed cI cJ cZ cS a_t a_bytes v_length v_place v_fault v_teller v_word v_bytes)) (q_Rl D rr (va_A (wX2_closed cI cJ cZ cS a_t a_bytes v_length v_place v_fault v_teller v_word v_bytes) sz) ((fun k : Int32 × Int32 => (wX2_closed cI cJ cZ cS a_t a_bytes v_length k.1 k.2 v_teller v_word v_bytes)) kk')) 0 0 (va_A (wX2_closed cI cJ cZ cS a_t a_bytes v_length v_place v_fault v_teller v_word v_bytes) sz) := by
  refine q_enter (Qf := fun A => (q_Rl D rr A ((fun k : Int32 × Int32 => (wX2_closed cI cJ cZ cS a_t a_bytes v_length k.1 k.2 v_teller v_word v_bytes)) kk'))) (by decide) rfl (Nat.le_of_ble_eq_true rfl) ?_
  intro p e s m below meth c A ls fx hname h hl
  have hx := fx.1
  have hb := fx.2.1
  have hl : lv_has ls 3 [(0, .ref a_t), (1, .long x1)] := hl
  generalize h9 : s.heap = H at h ⊢
  clear h9
  generalize h9 : ([] : List Loc) = locs at h ⊢
  clear h9
  unfold fX2_closed at hf
  refine lv_aload_n hx hb dX2_closed_0 rfl (lv_at hl 0 rfl) ?_
  refine lv_bipush (v := 41) hx hb dX2_closed_1 (by decide) ?_
  obtain ⟨r1, k1, hg, hf⟩ := bR_inv hf
  refine q_ci (rest := []) (ws' := (wX2_closed cI cJ cZ cS a_t a_bytes v_length k1 v_fault v_teller v_word v_bytes)) (w1 := (wX2_passes cI cJ cZ cS a_t a_bytes v_length k1 v_fault v_teller v_word v_bytes)) fx h [0, 1] rfl rfl rfl rfl (q_runV fx h hl.1 [0, 1] rfl rfl (tX2_passes l D cI cJ cZ cS tb a_t a_bytes H.size v_length v_place v_fault v_teller v_word v_bytes 41 r1 k1 hg) mvX2_passes k_304 ⟨rfl, rfl⟩ ⟨Nat.le_of_ble_eq_true rfl, Nat.le_of_ble_eq_true rfl⟩ rfl rfl rfl rfl (Nat.le_of_ble_eq_true rfl) dX2_closed_3 ⟨Nat.le_of_ble_eq_true rfl, Nat.le_of_ble_eq_true rfl⟩) (fun H locs h => ?_)
  refine lv_if_eq (tgt := 13) hx hb dX2_closed_6 (by decide) (fun c2 => ?_) (fun c2 => ?_)
  · have hf := it_t c2 hf
    refine lv_aload_n hx hb dX2_closed_13 rfl (lv_at hl 0 rfl) ?_
    obtain ⟨r3, k3, hg, hf⟩ := bR_inv hf
    refine q_cl (rest := []) (ws' := (wX2_closed cI cJ cZ cS a_t a_bytes v_length k1 k3 v_teller v_word v_bytes)) (w1 := (wX2_fail cI cJ cZ cS a_t a_bytes v_length k1 k3 v_teller v_word)) fx h [0] rfl rfl rfl rfl (q_runV fx h hl.1 [0] rfl rfl (tX2_fail l D cI cJ cZ cS tb a_t a_bytes H.size v_length k1 v_fault v_teller v_word r3 k3 hg) mvX2_fail k_313 ⟨rfl, rfl⟩ ⟨Nat.le_of_ble_eq_true rfl, Nat.le_of_ble_eq_true rfl⟩ rfl rfl rfl rfl (Nat.le_of_ble_eq_true rfl) dX2_closed_14 ⟨Nat.le_of_ble_eq_true rfl, Nat.le_of_ble_eq_true rfl⟩) (fun H locs h => ?_)
    exact q_retl (fun k : Int32 × Int32 => (wX2_closed cI cJ cZ cS a_t a_bytes v_length k.1 k.2 v_teller v_word v_bytes)) fx hf h dX2_closed_17
  have hf := it_f c2 hf
  refine lv_lload_n hx hb dX2_closed_9 rfl (lv_at hl 1 rfl) ?_
  refine lv_goto (tgt := 17) hx hb dX2_closed_10 (by decide) ?_
  exact q_retl (fun k : Int32 × Int32 => (wX2_closed cI cJ cZ cS a_t a_bytes v_length k.1 k.2 v_teller v_word v_bytes)) fx hf h dX2_closed_17
/-! X2_listsWhereOthers -/
abbrev wX2_listsWhereOthers (cI cJ cZ cS : ClassId) (a_t a_bytes : Nat) (v_length : Int32) (v_place : Int32) (v_fault : Int32) (v_teller : Int32) (v_word : Int32) : va_W := [(a_t, .inr (2, [.ref a_bytes, .int v_length, .int v_place, .int v_fault, .int v_teller, .int v_word]))]
abbrev rX2_listsWhereOthers : Room := { frames := 1, cells := 0, slots := 0, locals := 20 }
def fX2_listsWhereOthers_107 (v_teller : Int32) (v_word : Int32) (ag5 : Int32 → Int32 → Int64 → Int32 → Option (Int64 × Unit)) (s0 : Int64) (s1 : Int64) (y1 : Int32) (y2 : Int32) (y5 : Int32) : Option (Int64 × Unit) :=
  nm (s0 ||| s1) (fun u1 =>
  nm (y5 + 1) (fun u2 =>
  ag5 y1 y2 u1 u2))
set_option maxRecDepth 100000 in
set_option maxHeartbeats 4000000 in
theorem LX2_listsWhereOthers_107 {p : Program} {l : Launch} {e : Env} {s : State} {m : MethodId} {args : Array Value} {below : List Frame} {meth : Method} {c : Code} {D : va_G} {cI cJ cZ cS : ClassId} {tb : Nat} {A : Nat → Prop} {a_t a_bytes : Nat} {v_length : Int32} {v_place : Int32} {v_fault : Int32} {v_teller : Int32} {v_word : Int32} {rr : Int64} {kk' : Unit} (fx : q_Fx p s m args meth c cX2_listsWhereOthers 9 RX2 (some .long) D cI cJ cZ cS tb A) {ag5 : Int32 → Int32 → Int64 → Int32 → Option (Int64 × Unit)} (hag5 : ∀ {y1 : Int32} {y2 : Int32} {y3 : Int64} {y5 : Int32} {H : Heap} {locs : List Loc} {ls : Array Slot}, q_H D A s (wX2_listsWhereOthers cI cJ cZ cS a_t a_bytes v_length v_place v_fault v_teller v_word) H locs → lv_has ls 9 [(0, .ref a_t), (1, .int y1), (2, .int y2), (3, .long y3), (5, .int y5)] → ag5 y1 y2 y3 y5 = some (rr, kk') → W p l e rX2_listsWhereOthers s m args below meth c H locs 0 0 (MQ below (q_Rl D rr A ((fun k : Unit => (wX2_listsWhereOthers cI cJ cZ cS a_t a_bytes v_length v_place v_fault v_teller v_word)) kk')) args s 0 0 A) (F0 m 5 ls [])) : ∀ {s0 : Int64} {s1 : Int64} {y1 : Int32} {y2 : Int32} {y5 : Int32} {H : Heap} {locs : List Loc} {ls : Array Slot}, q_H D A s (wX2_listsWhereOthers cI cJ cZ cS a_t a_bytes v_length v_place v_fault v_teller v_word) H locs → lv_has ls 9 [(0, .ref a_t), (1, .int y1), (2, .int y2), (5, .int y5)] → fX2_listsWhereOthers_107 v_teller v_word ag5 s0 s1 y1 y2 y5 = some (rr, kk') → W p l e rX2_listsWhereOthers s m args below meth c H locs 0 0 (MQ below (q_Rl D rr A ((fun k : Unit => (wX2_listsWhereOthers cI cJ cZ cS a_t a_bytes v_length v_place v_fault v_teller v_word)) kk')) args s 0 0 A) (F0 m 107 ls [.long s1, .long s0]) := by
  intro s0 s1 y1 y2 y5 H locs ls h hl hf
  have hx := fx.1
  have hb := fx.2.1
  unfold fX2_listsWhereOthers_107 at hf
  refine lv_lor hx hb dX2_listsWhereOthers_107 ?_
  obtain ⟨u1, eu1, hf⟩ := nm_inv hf
  refine lv_eql eu1 ?_
  refine lv_lstore_n (lv' := [(3, .long u1), (0, .ref a_t), (1, .int y1), (2, .int y2), (5, .int y5)]) hx hb dX2_listsWhereOthers_108 rfl hl (by decide) rfl (fun ls hl => ?_)
  obtain ⟨u2, eu2, hf⟩ := nm_inv hf
  refine lv_iinc (v := u2) (lv' := [(5, .int u2), (3, .long u1), (0, .ref a_t), (1, .int y1), (2, .int y2)]) hx hb dX2_listsWhereOthers_109 hl (k := 4) rfl (by rw [eu2]; rfl) (by decide) rfl (fun ls hl => ?_)
  refine lv_goto (tgt := 5) hx hb dX2_listsWhereOthers_112 (by decide) ?_
  exact hag5 h (lv_sub hl [2, 3, 4, 1, 0] rfl) hf
def fX2_listsWhereOthers_91 (v_teller : Int32) (v_word : Int32) (ag5 : Int32 → Int32 → Int64 → Int32 → Option (Int64 × Unit)) (s0 : Int32) (y1 : Int32) (y2 : Int32) (y3 : Int64) (y5 : Int32) : Option (Int64 × Unit) :=
  (if s0 = 0 then (
  fX2_listsWhereOthers_107 v_teller v_word ag5 y3 0 y1 y2 y5)
  else (
  fX2_listsWhereOthers_107 v_teller v_word ag5 y3 (jlshl 1 y5) y1 y2 y5))
set_option maxRecDepth 100000 in
set_option maxHeartbeats 4000000 in
theorem LX2_listsWhereOthers_91 {p : Program} {l : Launch} {e : Env} {s : State} {m : MethodId} {args : Array Value} {below : List Frame} {meth : Method} {c : Code} {D : va_G} {cI cJ cZ cS : ClassId} {tb : Nat} {A : Nat → Prop} {a_t a_bytes : Nat} {v_length : Int32} {v_place : Int32} {v_fault : Int32} {v_teller : Int32} {v_word : Int32} {rr : Int64} {kk' : Unit} (fx : q_Fx p s m args meth c cX2_listsWhereOthers 9 RX2 (some .long) D cI cJ cZ cS tb A) {ag5 : Int32 → Int32 → Int64 → Int32 → Option (Int64 × Unit)} (hag5 : ∀ {y1 : Int32} {y2 : Int32} {y3 : Int64} {y5 : Int32} {H : Heap} {locs : List Loc} {ls : Array Slot}, q_H D A s (wX2_listsWhereOthers cI cJ cZ cS a_t a_bytes v_length v_place v_fault v_teller v_word) H locs → lv_has ls 9 [(0, .ref a_t), (1, .int y1), (2, .int y2), (3, .long y3), (5, .int y5)] → ag5 y1 y2 y3 y5 = some (rr, kk') → W p l e rX2_listsWhereOthers s m args below meth c H locs 0 0 (MQ below (q_Rl D rr A ((fun k : Unit => (wX2_listsWhereOthers cI cJ cZ cS a_t a_bytes v_length v_place v_fault v_teller v_word)) kk')) args s 0 0 A) (F0 m 5 ls [])) : ∀ {s0 : Int32} {y1 : Int32} {y2 : Int32} {y3 : Int64} {y5 : Int32} {H : Heap} {locs : List Loc} {ls : Array Slot}, q_H D A s (wX2_listsWhereOthers cI cJ cZ cS a_t a_bytes v_length v_place v_fault v_teller v_word) H locs → lv_has ls 9 [(0, .ref a_t), (1, .int y1), (2, .int y2), (3, .long y3), (5, .int y5)] → fX2_listsWhereOthers_91 v_teller v_word ag5 s0 y1 y2 y3 y5 = some (rr, kk') → W p l e rX2_listsWhereOthers s m args below meth c H locs 0 0 (MQ below (q_Rl D rr A ((fun k : Unit => (wX2_listsWhereOthers cI cJ cZ cS a_t a_bytes v_length v_place v_fault v_teller v_word)) kk')) args s 0 0 A) (F0 m 91 ls [.int s0]) := by
  intro s0 y1 y2 y3 y5 H locs ls h hl hf
  have hx := fx.1
  have hb := fx.2.1
  unfold fX2_listsWhereOthers_91 at hf
  refine lv_istore (lv' := [(8, .int s0), (0, .ref a_t), (1, .int y1), (2, .int y2), (3, .long y3), (5, .int y5)]) hx hb dX2_listsWhereOthers_91 hl (by decide) rfl (fun ls hl => ?_)
  refine lv_lload_n hx hb dX2_listsWhereOthers_93 rfl (lv_at hl 4 rfl) ?_
  refine lv_iload hx hb dX2_listsWhereOthers_94 (lv_at hl 0 rfl) ?_
  refine lv_if_eq (tgt := 106) hx hb dX2_listsWhereOthers_96 (by decide) (fun c3 => ?_) (fun c3 => ?_)
  · have hf := it_t c3 hf
    refine lv_lconst (v := 0) hx hb dX2_listsWhereOthers_106 (by decide) ?_
    exact LX2_listsWhereOthers_107 fx hag5 h (lv_sub hl [1, 2, 3, 5] rfl) hf
  have hf := it_f c3 hf
  refine lv_lconst (v := 1) hx hb dX2_listsWhereOthers_99 (by decide) ?_
  refine lv_iload hx hb dX2_listsWhereOthers_100 (lv_at hl 5 rfl) ?_
  refine lv_lshl hx hb dX2_listsWhereOthers_102 rfl ?_
  refine lv_goto (tgt := 107) hx hb dX2_listsWhereOthers_103 (by decide) ?_
  exact LX2_listsWhereOthers_107 fx hag5 h (lv_sub hl [1, 2, 3, 5] rfl) hf
def fX2_listsWhereOthers_5 (v_teller : Int32) (v_word : Int32) (ag5 : Int32 → Int32 → Int64 → Int32 → Option (Int64 × Unit)) (y1 : Int32) (y2 : Int32) (y3 : Int64) (y5 : Int32) : Option (Int64 × Unit) :=
  (if (64 : Int32) ≤ y5 then (
  some (y3, ()))
  else (
  nm ((v_word * 64) + y5) (fun u5 =>
  bR (fJ6_bitCount_0f7a4 (u5 &&& ((jshl 1 v_teller) ^^^ (-1)))) (fun r6 k6 =>
  (if y1 = 60 then (
  (if y2 ≤ r6 then (
  fX2_listsWhereOthers_91 v_teller v_word ag5 0 y1 y2 y3 y5)
  else (
  fX2_listsWhereOthers_91 v_teller v_word ag5 1 y1 y2 y3 y5)))
  else (
  (if y1 = 61 then (
  (if r6 = y2 then (
  fX2_listsWhereOthers_91 v_teller v_word ag5 1 y1 y2 y3 y5)
  else (
  fX2_listsWhereOthers_91 v_teller v_word ag5 0 y1 y2 y3 y5)))
  else (
  (if r6 ≤ y2 then (
  fX2_listsWhereOthers_91 v_teller v_word ag5 0 y1 y2 y3 y5)
  else (
  fX2_listsWhereOthers_91 v_teller v_word ag5 1 y1 y2 y3 y5))))))))))
set_option maxRecDepth 100000 in
set_option maxHeartbeats 4000000 in
theorem LX2_listsWhereOthers_5 {p : Program} {l : Launch} {e : Env} {s : State} {m : MethodId} {args : Array Value} {below : List Frame} {meth : Method} {c : Code} {D : va_G} {cI cJ cZ cS : ClassId} {tb : Nat} {A : Nat → Prop} {a_t a_bytes : Nat} {v_length : Int32} {v_place : Int32} {v_fault : Int32} {v_teller : Int32} {v_word : Int32} {rr : Int64} {kk' : Unit} (fx : q_Fx p s m args meth c cX2_listsWhereOthers 9 RX2 (some .long) D cI cJ cZ cS tb A) {ag5 : Int32 → Int32 → Int64 → Int32 → Option (Int64 × Unit)} (hag5 : ∀ {y1 : Int32} {y2 : Int32} {y3 : Int64} {y5 : Int32} {H : Heap} {locs : List Loc} {ls : Array Slot}, q_H D A s (wX2_listsWhereOthers cI cJ cZ cS a_t a_bytes v_length v_place v_fault v_teller v_word) H locs → lv_has ls 9 [(0, .ref a_t), (1, .int y1), (2, .int y2), (3, .long y3), (5, .int y5)] → ag5 y1 y2 y3 y5 = some (rr, kk') → W p l e rX2_listsWhereOthers s m args below meth c H locs 0 0 (MQ below (q_Rl D rr A ((fun k : Unit => (wX2_listsWhereOthers cI cJ cZ cS a_t a_bytes v_length v_place v_fault v_teller v_word)) kk')) args s 0 0 A) (F0 m 5 ls [])) : ∀ {y1 : Int32} {y2 : Int32} {y3 : Int64} {y5 : Int32} {H : Heap} {locs : List Loc} {ls : Array Slot}, q_H D A s (wX2_listsWhereOthers cI cJ cZ cS a_t a_bytes v_length v_place v_fault v_teller v_word) H locs → lv_has ls 9 [(0, .ref a_t), (1, .int y1), (2, .int y2), (3, .long y3), (5, .int y5)] → fX2_listsWhereOthers_5 v_teller v_word ag5 y1 y2 y3 y5 = some (rr, kk') → W p l e rX2_listsWhereOthers s m args below meth c H locs 0 0 (MQ below (q_Rl D rr A ((fun k : Unit => (wX2_listsWhereOthers cI cJ cZ cS a_t a_bytes v_length v_place v_fault v_teller v_word)) kk')) args s 0 0 A) (F0 m 5 ls []) := by
  intro y1 y2 y3 y5 H locs ls h hl hf
  have hx := fx.1
  have hb := fx.2.1
  unfold fX2_listsWhereOthers_5 at hf
  refine lv_iload hx hb dX2_listsWhereOthers_5 (lv_at hl 4 rfl) ?_
  refine lv_bipush (v := 64) hx hb dX2_listsWhereOthers_7 (by decide) ?_
  refine lv_icmp_ge (tgt := 115) hx hb dX2_listsWhereOthers_9 (by decide) (fun c4 => ?_) (fun c4 => ?_)
  · have hf := it_t c4 hf
    refine lv_lload_n hx hb dX2_listsWhereOthers_115 rfl (lv_at hl 3 rfl) ?_
    exact q_retl (fun k : Unit => (wX2_listsWhereOthers cI cJ cZ cS a_t a_bytes v_length v_place v_fault v_teller v_word)) fx hf h dX2_listsWhereOthers_116
  have hf := it_f c4 hf
  refine lv_aload_n hx hb dX2_listsWhereOthers_12 rfl (lv_at hl 0 rfl) ?_
  refine q_get (v := .int v_word) fx inX2 h 0 rfl rfl 5 (by decide) k_124 rfl dX2_listsWhereOthers_13 ?_
  refine lv_bipush (v := 64) hx hb dX2_listsWhereOthers_16 (by decide) ?_
  refine lv_imul hx hb dX2_listsWhereOthers_18 ?_
  refine lv_iload hx hb dX2_listsWhereOthers_19 (lv_at hl 4 rfl) ?_
  refine lv_iadd hx hb dX2_listsWhereOthers_21 ?_
  obtain ⟨u5, eu5, hf⟩ := nm_inv hf
  refine lv_eqi eu5 ?_
  refine lv_istore (lv' := [(6, .int u5), (0, .ref a_t), (1, .int y1), (2, .int y2), (3, .long y3), (5, .int y5)]) hx hb dX2_listsWhereOthers_22 hl (by decide) rfl (fun ls hl => ?_)
  refine lv_iload hx hb dX2_listsWhereOthers_24 (lv_at hl 0 rfl) ?_
  refine lv_iconst (v := 1) hx hb dX2_listsWhereOthers_26 (by decide) ?_
  refine lv_aload_n hx hb dX2_listsWhereOthers_27 rfl (lv_at hl 1 rfl) ?_
  refine q_get (v := .int v_teller) fx inX2 h 0 rfl rfl 4 (by decide) k_123 rfl dX2_listsWhereOthers_28 ?_
  refine lv_ishl hx hb dX2_listsWhereOthers_31 ?_
  refine lv_iconst (v := -1) hx hb dX2_listsWhereOthers_32 (by decide) ?_
  refine lv_ixor hx hb dX2_listsWhereOthers_33 ?_
  refine lv_iand hx hb dX2_listsWhereOthers_34 ?_
  obtain ⟨r6, k6, hg, hf⟩ := bR_inv hf
  refine q_ci (rest := []) (ws' := (wX2_listsWhereOthers cI cJ cZ cS a_t a_bytes v_length v_place v_fault v_teller v_word)) (w1 := (wJ6_bitCount_0f7a4 cI cJ cZ cS)) fx h [] rfl rfl rfl rfl (q_runS fx h hl.1 [] rfl rfl (tJ6_bitCount_0f7a4 l D cI cJ cZ cS tb H.size (u5 &&& ((jshl 1 v_teller) ^^^ (-1))) r6 k6 hg) msJ6_bitCount_0f7a4 k_325 ⟨rfl, rfl⟩ ⟨Nat.le_of_ble_eq_true rfl, Nat.le_of_ble_eq_true rfl⟩ rfl rfl (Nat.le_of_ble_eq_true rfl) dX2_listsWhereOthers_35 ⟨Nat.le_of_ble_eq_true rfl, Nat.le_of_ble_eq_true rfl⟩) (fun H locs h => ?_)
  refine lv_istore (lv' := [(7, .int r6), (6, .int u5), (0, .ref a_t), (1, .int y1), (2, .int y2), (3, .long y3), (5, .int y5)]) hx hb dX2_listsWhereOthers_38 hl (by decide) rfl (fun ls hl => ?_)
  refine lv_iload_n hx hb dX2_listsWhereOthers_40 rfl (lv_at hl 3 rfl) ?_
  refine lv_bipush (v := 60) hx hb dX2_listsWhereOthers_41 (by decide) ?_
  refine lv_icmp_ne (tgt := 60) hx hb dX2_listsWhereOthers_43 (by decide) (fun c7 => ?_) (fun c7 => ?_)
  · have hf := it_f c7 hf
    refine lv_iload_n hx hb dX2_listsWhereOthers_60 rfl (lv_at hl 3 rfl) ?_
    refine lv_bipush (v := 61) hx hb dX2_listsWhereOthers_61 (by decide) ?_
    refine lv_icmp_ne (tgt := 80) hx hb dX2_listsWhereOthers_63 (by decide) (fun c8 => ?_) (fun c8 => ?_)
    · have hf := it_f c8 hf
      refine lv_iload hx hb dX2_listsWhereOthers_80 (lv_at hl 0 rfl) ?_
      refine lv_iload_n hx hb dX2_listsWhereOthers_82 rfl (lv_at hl 4 rfl) ?_
      refine lv_icmp_le (tgt := 90) hx hb dX2_listsWhereOthers_83 (by decide) (fun c9 => ?_) (fun c9 => ?_)
      · have hf := it_t c9 hf
        refine lv_iconst (v := 0) hx hb dX2_listsWhereOthers_90 (by decide) ?_
        exact LX2_listsWhereOthers_91 fx hag5 h (lv_sub hl [2, 3, 4, 5, 6] rfl) hf
      have hf := it_f c9 hf
      refine lv_iconst (v := 1) hx hb dX2_listsWhereOthers_86 (by decide) ?_
      refine lv_goto (tgt := 91) hx hb dX2_listsWhereOthers_87 (by decide) ?_
      exact LX2_listsWhereOthers_91 fx hag5 h (lv_sub hl [2, 3, 4, 5, 6] rfl) hf
    have hf := it_t c8 hf
    refine lv_iload hx hb dX2_listsWhereOthers_66 (lv_at hl 0 rfl) ?_
    refine lv_iload_n hx hb dX2_listsWhereOthers_68 rfl (lv_at hl 4 rfl) ?_
    refine lv_icmp_ne (tgt := 76) hx hb dX2_listsWhereOthers_69 (by decide) (fun c10 => ?_) (fun c10 => ?_)
    · have hf := it_f c10 hf
      refine lv_iconst (v := 0) hx hb dX2_listsWhereOthers_76 (by decide) ?_
      refine lv_goto (tgt := 91) hx hb dX2_listsWhereOthers_77 (by decide) ?_
      exact LX2_listsWhereOthers_91 fx hag5 h (lv_sub hl [2, 3, 4, 5, 6] rfl) hf
    have hf := it_t c10 hf
    refine lv_iconst (v := 1) hx hb dX2_listsWhereOthers_72 (by decide) ?_
    refine lv_goto (tgt := 91) hx hb dX2_listsWhereOthers_73 (by decide) ?_
    exact LX2_listsWhereOthers_91 fx hag5 h (lv_sub hl [2, 3, 4, 5, 6] rfl) hf
  have hf := it_t c7 hf
  refine lv_iload hx hb dX2_listsWhereOthers_46 (lv_at hl 0 rfl) ?_
  refine lv_iload_n hx hb dX2_listsWhereOthers_48 rfl (lv_at hl 4 rfl) ?_
  refine lv_icmp_ge (tgt := 56) hx hb dX2_listsWhereOthers_49 (by decide) (fun c11 => ?_) (fun c11 => ?_)
  · have hf := it_t c11 hf
    refine lv_iconst (v := 0) hx hb dX2_listsWhereOthers_56 (by decide) ?_
    refine lv_goto (tgt := 91) hx hb dX2_listsWhereOthers_57 (by decide) ?_
    exact LX2_listsWhereOthers_91 fx hag5 h (lv_sub hl [2, 3, 4, 5, 6] rfl) hf
  have hf := it_f c11 hf
  refine lv_iconst (v := 1) hx hb dX2_listsWhereOthers_52 (by decide) ?_
  refine lv_goto (tgt := 91) hx hb dX2_listsWhereOthers_53 (by decide) ?_
  exact LX2_listsWhereOthers_91 fx hag5 h (lv_sub hl [2, 3, 4, 5, 6] rfl) hf
set_option maxRecDepth 100000 in
theorem EX2_listsWhereOthers_5 {p : Program} {l : Launch} {e : Env} {s : State} {m : MethodId} {args : Array Value} {below : List Frame} {meth : Method} {c : Code} {D : va_G} {cI cJ cZ cS : ClassId} {tb : Nat} {A : Nat → Prop} {a_t a_bytes : Nat} {v_length : Int32} {v_place : Int32} {v_fault : Int32} {v_teller : Int32} {v_word : Int32} {rr : Int64} {kk' : Unit} (fx : q_Fx p s m args meth c cX2_listsWhereOthers 9 RX2 (some .long) D cI cJ cZ cS tb A) : ∀ (n : Nat), ∀ {y1 : Int32} {y2 : Int32} {y3 : Int64} {y5 : Int32} {H : Heap} {locs : List Loc} {ls : Array Slot}, q_H D A s (wX2_listsWhereOthers cI cJ cZ cS a_t a_bytes v_length v_place v_fault v_teller v_word) H locs → lv_has ls 9 [(0, .ref a_t), (1, .int y1), (2, .int y2), (3, .long y3), (5, .int y5)] → ll4 (fX2_listsWhereOthers_5 v_teller v_word) n y1 y2 y3 y5 = some (rr, kk') → W p l e rX2_listsWhereOthers s m args below meth c H locs 0 0 (MQ below (q_Rl D rr A ((fun k : Unit => (wX2_listsWhereOthers cI cJ cZ cS a_t a_bytes v_length v_place v_fault v_teller v_word)) kk')) args s 0 0 A) (F0 m 5 ls []) := by
  intro n
  induction n with
  | zero => intro y1 y2 y3 y5 H locs ls h hl hf; exact (ll4_z hf).elim
  | succ n ih => intro y1 y2 y3 y5 H locs ls h hl hf; exact LX2_listsWhereOthers_5 fx ih h hl (ll4_s hf)
def fX2_listsWhereOthers (v_teller : Int32) (v_word : Int32) (x1 : Int32) (x2 : Int32) : Option (Int64 × Unit) :=
  ll4 (fX2_listsWhereOthers_5 v_teller v_word) qF x1 x2 0 0
set_option maxRecDepth 100000 in
set_option maxHeartbeats 4000000 in
theorem tX2_listsWhereOthers (l : Launch) (D : va_G) (cI cJ cZ cS : ClassId) (tb : Nat) (a_t a_bytes : Nat) (sz : Nat) (v_length : Int32) (v_place : Int32) (v_fault : Int32) (v_teller : Int32) (v_word : Int32) (x1 : Int32) (x2 : Int32) (rr : Int64) (kk' : Unit) (hf : fX2_listsWhereOthers v_teller v_word x1 x2 = some (rr, kk')) : Met l yX2_listsWhereOthers (Cond.code yX2_listsWhereOthers cX2_listsWhereOthers 9 (some .long) :: wA) rX2_listsWhereOthers (q_Pre D cI cJ cZ cS tb [.ref a_t, .int x1, .int x2] sz (wX2_listsWhereOthers cI cJ cZ cS a_t a_bytes v_length v_place v_fault v_teller v_word)) (q_Rl D rr (va_A (wX2_listsWhereOthers cI cJ cZ cS a_t a_bytes v_length v_place v_fault v_teller v_word) sz) ((fun k : Unit => (wX2_listsWhereOthers cI cJ cZ cS a_t a_bytes v_length v_place v_fault v_teller v_word)) kk')) 0 0 (va_A (wX2_listsWhereOthers cI cJ cZ cS a_t a_bytes v_length v_place v_fault v_teller v_word) sz) := by
  refine q_enter (Qf := fun A => (q_Rl D rr A ((fun k : Unit => (wX2_listsWhereOthers cI cJ cZ cS a_t a_bytes v_length v_place v_fault v_teller v_word)) kk'))) (by decide) rfl (Nat.le_of_ble_eq_true rfl) ?_
  intro p e s m below meth c A ls fx hname h hl
  have hx := fx.1
  have hb := fx.2.1
  have hl : lv_has ls 9 [(0, .ref a_t), (1, .int x1), (2, .int x2)] := hl
  generalize h9 : s.heap = H at h ⊢
  clear h9
  generalize h9 : ([] : List Loc) = locs at h ⊢
  clear h9
  unfold fX2_listsWhereOthers at hf
  refine lv_lconst (v := 0) hx hb dX2_listsWhereOthers_0 (by decide) ?_
  refine lv_lstore_n (lv' := [(3, .long 0), (0, .ref a_t), (1, .int x1), (2, .int x2)]) hx hb dX2_listsWhereOthers_1 rfl hl (by decide) rfl (fun ls hl => ?_)
  refine lv_iconst (v := 0) hx hb dX2_listsWhereOthers_2 (by decide) ?_
  refine lv_istore (lv' := [(5, .int 0), (3, .long 0), (0, .ref a_t), (1, .int x1), (2, .int x2)]) hx hb dX2_listsWhereOthers_3 hl (by decide) rfl (fun ls hl => ?_)
  exact EX2_listsWhereOthers_5 fx qF h (lv_sub hl [2, 3, 4, 1, 0] rfl) hf
/-! X2_compared -/
abbrev wX2_compared (cI cJ cZ cS : ClassId) (a_t a_bytes : Nat) (v_length : Int32) (v_place : Int32) (v_fault : Int32) (v_teller : Int32) (v_word : Int32) (v_bytes : Nat → Int32) : va_W := [(a_t, .inr (2, [.ref a_bytes, .int v_length, .int v_place, .int v_fault, .int v_teller, .int v_word])), (a_bytes, .inl (cI, 60, .inl v_bytes))]
abbrev rX2_compared : Room := { frames := 2, cells := 0, slots := 0, locals := 48 }
def fX2_compared_55 (v_length : Int32) (v_teller : Int32) (v_word : Int32) (v_bytes : Nat → Int32) (v_place : Int32) (v_fault : Int32) : Option (Int64 × Int32 × Int32) :=
  bR (fX2_fail v_place v_fault) (fun r1 k1 =>
  some (r1, (v_place, k1)))
set_option maxRecDepth 100000 in
set_option maxHeartbeats 4000000 in
theorem LX2_compared_55 {p : Program} {l : Launch} {e : Env} {s : State} {m : MethodId} {args : Array Value} {below : List Frame} {meth : Method} {c : Code} {D : va_G} {cI cJ cZ cS : ClassId} {tb : Nat} {A : Nat → Prop} {a_t a_bytes : Nat} {v_length : Int32} {v_teller : Int32} {v_word : Int32} {v_bytes : Nat → Int32} {rr : Int64} {kk' : Int32 × Int32} (fx : q_Fx p s m args meth c cX2_compared 3 RX2 (some .long) D cI cJ cZ cS tb A) : ∀ {v_place : Int32} {v_fault : Int32} {H : Heap} {locs : List Loc} {ls : Array Slot}, q_H D A s (wX2_compared cI cJ cZ cS a_t a_bytes v_length v_place v_fault v_teller v_word v_bytes) H locs → lv_has ls 3 [(0, .ref a_t)] → fX2_compared_55 v_length v_teller v_word v_bytes v_place v_fault = some (rr, kk') → W p l e rX2_compared s m args below meth c H locs 0 0 (MQ below (q_Rl D rr A ((fun k : Int32 × Int32 => (wX2_compared cI cJ cZ cS a_t a_bytes v_length k.1 k.2 v_teller v_word v_bytes)) kk')) args s 0 0 A) (F0 m 55 ls []) := by
  intro v_place v_fault H locs ls h hl hf
  have hx := fx.1
  have hb := fx.2.1
  unfold fX2_compared_55 at hf
  refine lv_aload_n hx hb dX2_compared_55 rfl (lv_at hl 0 rfl) ?_
  obtain ⟨r1, k1, hg, hf⟩ := bR_inv hf
  refine q_cl (rest := []) (ws' := (wX2_compared cI cJ cZ cS a_t a_bytes v_length v_place k1 v_teller v_word v_bytes)) (w1 := (wX2_fail cI cJ cZ cS a_t a_bytes v_length v_place k1 v_teller v_word)) fx h [0] rfl rfl rfl rfl (q_runV fx h hl.1 [0] rfl rfl (tX2_fail l D cI cJ cZ cS tb a_t a_bytes H.size v_length v_place v_fault v_teller v_word r1 k1 hg) mvX2_fail k_313 ⟨rfl, rfl⟩ ⟨Nat.le_of_ble_eq_true rfl, Nat.le_of_ble_eq_true rfl⟩ rfl rfl rfl rfl (Nat.le_of_ble_eq_true rfl) dX2_compared_56 ⟨Nat.le_of_ble_eq_true rfl, Nat.le_of_ble_eq_true rfl⟩) (fun H locs h => ?_)
  exact q_retl (fun k : Int32 × Int32 => (wX2_compared cI cJ cZ cS a_t a_bytes v_length k.1 k.2 v_teller v_word v_bytes)) fx hf h dX2_compared_59
def fX2_compared_28 (v_length : Int32) (v_teller : Int32) (v_word : Int32) (v_bytes : Nat → Int32) (v_place : Int32) (v_fault : Int32) (y1 : Int32) : Option (Int64 × Int32 × Int32) :=
  nm (v_place + 1) (fun u2 =>
  bR (fX2_sign v_length u2 v_fault v_bytes) (fun r3 k3 =>
  (if r3 < 48 then (
  fX2_compared_55 v_length v_teller v_word v_bytes u2 v_fault)
  else (
  (if r3 ≤ 57 then (
  nm (u2 + 1) (fun u6 =>
  bR (fX2_listsWhereOthers v_teller v_word y1 (r3 - 48)) (fun r7 k7 =>
  some (r7, (u6, v_fault)))))
  else (
  fX2_compared_55 v_length v_teller v_word v_bytes u2 v_fault))))))
set_option maxRecDepth 100000 in
set_option maxHeartbeats 4000000 in
theorem LX2_compared_28 {p : Program} {l : Launch} {e : Env} {s : State} {m : MethodId} {args : Array Value} {below : List Frame} {meth : Method} {c : Code} {D : va_G} {cI cJ cZ cS : ClassId} {tb : Nat} {A : Nat → Prop} {a_t a_bytes : Nat} {v_length : Int32} {v_teller : Int32} {v_word : Int32} {v_bytes : Nat → Int32} {rr : Int64} {kk' : Int32 × Int32} (fx : q_Fx p s m args meth c cX2_compared 3 RX2 (some .long) D cI cJ cZ cS tb A) : ∀ {v_place : Int32} {v_fault : Int32} {y1 : Int32} {H : Heap} {locs : List Loc} {ls : Array Slot}, q_H D A s (wX2_compared cI cJ cZ cS a_t a_bytes v_length v_place v_fault v_teller v_word v_bytes) H locs → lv_has ls 3 [(0, .ref a_t), (1, .int y1)] → fX2_compared_28 v_length v_teller v_word v_bytes v_place v_fault y1 = some (rr, kk') → W p l e rX2_compared s m args below meth c H locs 0 0 (MQ below (q_Rl D rr A ((fun k : Int32 × Int32 => (wX2_compared cI cJ cZ cS a_t a_bytes v_length k.1 k.2 v_teller v_word v_bytes)) kk')) args s 0 0 A) (F0 m 28 ls []) := by
  intro v_place v_fault y1 H locs ls h hl hf
  have hx := fx.1
  have hb := fx.2.1
  unfold fX2_compared_28 at hf
  refine lv_aload_n hx hb dX2_compared_28 rfl (lv_at hl 0 rfl) ?_
  refine lv_dup hx hb dX2_compared_29 rfl ?_
  refine q_get (v := .int v_place) fx inX2 h 0 rfl rfl 2 (by decide) k_120 rfl dX2_compared_30 ?_
  refine lv_iconst (v := 1) hx hb dX2_compared_33 (by decide) ?_
  refine lv_iadd hx hb dX2_compared_34 ?_
  obtain ⟨u2, eu2, hf⟩ := nm_inv hf
  refine lv_eqi eu2 ?_
  refine q_put (v := .int u2) (ws' := (wX2_compared cI cJ cZ cS a_t a_bytes v_length u2 v_fault v_teller v_word v_bytes)) fx inX2 tyX2 tyX2_ok nmX2 h 0 rfl rfl 2 (by decide) k_120 rfl rfl rfl (Nat.le_of_ble_eq_true rfl) rfl dX2_compared_35 (fun H locs h => ?_)
  refine lv_aload_n hx hb dX2_compared_38 rfl (lv_at hl 0 rfl) ?_
  obtain ⟨r3, k3, hg, hf⟩ := bR_inv hf
  refine q_ci (rest := []) (ws' := (wX2_compared cI cJ cZ cS a_t a_bytes v_length u2 v_fault v_teller v_word v_bytes)) (w1 := (wX2_sign cI cJ cZ cS a_t a_bytes v_length u2 v_fault v_teller v_word v_bytes)) fx h [0, 1] rfl rfl rfl rfl (q_runV fx h hl.1 [0, 1] rfl rfl (tX2_sign l D cI cJ cZ cS tb a_t a_bytes H.size v_length u2 v_fault v_teller v_word v_bytes r3 k3 hg) mvX2_sign k_290 ⟨rfl, rfl⟩ ⟨Nat.le_of_ble_eq_true rfl, Nat.le_of_ble_eq_true rfl⟩ rfl rfl rfl rfl (Nat.le_of_ble_eq_true rfl) dX2_compared_39 ⟨Nat.le_of_ble_eq_true rfl, Nat.le_of_ble_eq_true rfl⟩) (fun H locs h => ?_)
  refine lv_istore_n (lv' := [(2, .int r3), (0, .ref a_t), (1, .int y1)]) hx hb dX2_compared_42 rfl hl (by decide) rfl (fun ls hl => ?_)
  refine lv_iload_n hx hb dX2_compared_43 rfl (lv_at hl 0 rfl) ?_
  refine lv_bipush (v := 48) hx hb dX2_compared_44 (by decide) ?_
  refine lv_icmp_lt (tgt := 55) hx hb dX2_compared_46 (by decide) (fun c4 => ?_) (fun c4 => ?_)
  · have hf := it_t c4 hf
    exact LX2_compared_55 fx h (lv_sub hl [1] rfl) hf
  have hf := it_f c4 hf
  refine lv_iload_n hx hb dX2_compared_49 rfl (lv_at hl 0 rfl) ?_
  refine lv_bipush (v := 57) hx hb dX2_compared_50 (by decide) ?_
  refine lv_icmp_le (tgt := 60) hx hb dX2_compared_52 (by decide) (fun c5 => ?_) (fun c5 => ?_)
  · have hf := it_t c5 hf
    refine lv_aload_n hx hb dX2_compared_60 rfl (lv_at hl 1 rfl) ?_
    refine lv_dup hx hb dX2_compared_61 rfl ?_
    refine q_get (v := .int u2) fx inX2 h 0 rfl rfl 2 (by decide) k_120 rfl dX2_compared_62 ?_
    refine lv_iconst (v := 1) hx hb dX2_compared_65 (by decide) ?_
    refine lv_iadd hx hb dX2_compared_66 ?_
    obtain ⟨u6, eu6, hf⟩ := nm_inv hf
    refine lv_eqi eu6 ?_
    refine q_put (v := .int u6) (ws' := (wX2_compared cI cJ cZ cS a_t a_bytes v_length u6 v_fault v_teller v_word v_bytes)) fx inX2 tyX2 tyX2_ok nmX2 h 0 rfl rfl 2 (by decide) k_120 rfl rfl rfl (Nat.le_of_ble_eq_true rfl) rfl dX2_compared_67 (fun H locs h => ?_)
    refine lv_aload_n hx hb dX2_compared_70 rfl (lv_at hl 1 rfl) ?_
    refine lv_iload_n hx hb dX2_compared_71 rfl (lv_at hl 2 rfl) ?_
    refine lv_iload_n hx hb dX2_compared_72 rfl (lv_at hl 0 rfl) ?_
    refine lv_bipush (v := 48) hx hb dX2_compared_73 (by decide) ?_
    refine lv_isub hx hb dX2_compared_75 ?_
    obtain ⟨r7, k7, hg, hf⟩ := bR_inv hf
    refine q_cl (rest := []) (ws' := (wX2_compared cI cJ cZ cS a_t a_bytes v_length u6 v_fault v_teller v_word v_bytes)) (w1 := (wX2_listsWhereOthers cI cJ cZ cS a_t a_bytes v_length u6 v_fault v_teller v_word)) fx h [0] rfl rfl rfl rfl (q_runV fx h hl.1 [0] rfl rfl (tX2_listsWhereOthers l D cI cJ cZ cS tb a_t a_bytes H.size v_length u6 v_fault v_teller v_word y1 (r3 - 48) r7 k7 hg) mvX2_listsWhereOthers k_321 ⟨rfl, rfl⟩ ⟨Nat.le_of_ble_eq_true rfl, Nat.le_of_ble_eq_true rfl⟩ rfl rfl rfl rfl (Nat.le_of_ble_eq_true rfl) dX2_compared_76 ⟨Nat.le_of_ble_eq_true rfl, Nat.le_of_ble_eq_true rfl⟩) (fun H locs h => ?_)
    exact q_retl (fun k : Int32 × Int32 => (wX2_compared cI cJ cZ cS a_t a_bytes v_length k.1 k.2 v_teller v_word v_bytes)) fx hf h dX2_compared_79
  have hf := it_f c5 hf
  exact LX2_compared_55 fx h (lv_sub hl [1] rfl) hf
def fX2_compared (v_length : Int32) (v_place : Int32) (v_fault : Int32) (v_teller : Int32) (v_word : Int32) (v_bytes : Nat → Int32) : Option (Int64 × Int32 × Int32) :=
  bR (fX2_sign v_length v_place v_fault v_bytes) (fun r8 k8 =>
  (if r8 = 60 then (
  fX2_compared_28 v_length v_teller v_word v_bytes v_place v_fault r8)
  else (
  (if r8 = 61 then (
  fX2_compared_28 v_length v_teller v_word v_bytes v_place v_fault r8)
  else (
  (if r8 = 62 then (
  fX2_compared_28 v_length v_teller v_word v_bytes v_place v_fault r8)
  else (
  bR (fX2_fail v_place v_fault) (fun r12 k12 =>
  some (r12, (v_place, k12))))))))))
set_option maxRecDepth 100000 in
set_option maxHeartbeats 4000000 in
theorem tX2_compared (l : Launch) (D : va_G) (cI cJ cZ cS : ClassId) (tb : Nat) (a_t a_bytes : Nat) (sz : Nat) (v_length : Int32) (v_place : Int32) (v_fault : Int32) (v_teller : Int32) (v_word : Int32) (v_bytes : Nat → Int32) (rr : Int64) (kk' : Int32 × Int32) (hf : fX2_compared v_length v_place v_fault v_teller v_word v_bytes = some (rr, kk')) : Met l yX2_compared (Cond.code yX2_compared cX2_compared 3 (some .long) :: wA) rX2_compared (q_Pre D cI cJ cZ cS tb [.ref a_t] sz (wX2_compared cI cJ cZ cS a_t a_bytes v_length v_place v_fault v_teller v_word v_bytes)) (q_Rl D rr (va_A (wX2_compared cI cJ cZ cS a_t a_bytes v_length v_place v_fault v_teller v_word v_bytes) sz) ((fun k : Int32 × Int32 => (wX2_compared cI cJ cZ cS a_t a_bytes v_length k.1 k.2 v_teller v_word v_bytes)) kk')) 0 0 (va_A (wX2_compared cI cJ cZ cS a_t a_bytes v_length v_place v_fault v_teller v_word v_bytes) sz) := by
  refine q_enter (Qf := fun A => (q_Rl D rr A ((fun k : Int32 × Int32 => (wX2_compared cI cJ cZ cS a_t a_bytes v_length k.1 k.2 v_teller v_word v_bytes)) kk'))) (by decide) rfl (Nat.le_of_ble_eq_true rfl) ?_
  intro p e s m below meth c A ls fx hname h hl
  have hx := fx.1
  have hb := fx.2.1
  have hl : lv_has ls 3 [(0, .ref a_t)] := hl
  generalize h9 : s.heap = H at h ⊢
  clear h9
  generalize h9 : ([] : List Loc) = locs at h ⊢
  clear h9
  unfold fX2_compared at hf
  refine lv_aload_n hx hb dX2_compared_0 rfl (lv_at hl 0 rfl) ?_
  obtain ⟨r8, k8, hg, hf⟩ := bR_inv hf
  refine q_ci (rest := []) (ws' := (wX2_compared cI cJ cZ cS a_t a_bytes v_length v_place v_fault v_teller v_word v_bytes)) (w1 := (wX2_sign cI cJ cZ cS a_t a_bytes v_length v_place v_fault v_teller v_word v_bytes)) fx h [0, 1] rfl rfl rfl rfl (q_runV fx h hl.1 [0, 1] rfl rfl (tX2_sign l D cI cJ cZ cS tb a_t a_bytes H.size v_length v_place v_fault v_teller v_word v_bytes r8 k8 hg) mvX2_sign k_290 ⟨rfl, rfl⟩ ⟨Nat.le_of_ble_eq_true rfl, Nat.le_of_ble_eq_true rfl⟩ rfl rfl rfl rfl (Nat.le_of_ble_eq_true rfl) dX2_compared_1 ⟨Nat.le_of_ble_eq_true rfl, Nat.le_of_ble_eq_true rfl⟩) (fun H locs h => ?_)
  refine lv_istore_n (lv' := [(1, .int r8), (0, .ref a_t)]) hx hb dX2_compared_4 rfl hl (by decide) rfl (fun ls hl => ?_)
  refine lv_iload_n hx hb dX2_compared_5 rfl (lv_at hl 0 rfl) ?_
  refine lv_bipush (v := 60) hx hb dX2_compared_6 (by decide) ?_
  refine lv_icmp_eq (tgt := 28) hx hb dX2_compared_8 (by decide) (fun c9 => ?_) (fun c9 => ?_)
  · have hf := it_t c9 hf
    exact LX2_compared_28 fx h (lv_sub hl [1, 0] rfl) hf
  have hf := it_f c9 hf
  refine lv_iload_n hx hb dX2_compared_11 rfl (lv_at hl 0 rfl) ?_
  refine lv_bipush (v := 61) hx hb dX2_compared_12 (by decide) ?_
  refine lv_icmp_eq (tgt := 28) hx hb dX2_compared_14 (by decide) (fun c10 => ?_) (fun c10 => ?_)
  · have hf := it_t c10 hf
    exact LX2_compared_28 fx h (lv_sub hl [1, 0] rfl) hf
  have hf := it_f c10 hf
  refine lv_iload_n hx hb dX2_compared_17 rfl (lv_at hl 0 rfl) ?_
  refine lv_bipush (v := 62) hx hb dX2_compared_18 (by decide) ?_
  refine lv_icmp_eq (tgt := 28) hx hb dX2_compared_20 (by decide) (fun c11 => ?_) (fun c11 => ?_)
  · have hf := it_t c11 hf
    exact LX2_compared_28 fx h (lv_sub hl [1, 0] rfl) hf
  have hf := it_f c11 hf
  refine lv_aload_n hx hb dX2_compared_23 rfl (lv_at hl 1 rfl) ?_
  obtain ⟨r12, k12, hg, hf⟩ := bR_inv hf
  refine q_cl (rest := []) (ws' := (wX2_compared cI cJ cZ cS a_t a_bytes v_length v_place k12 v_teller v_word v_bytes)) (w1 := (wX2_fail cI cJ cZ cS a_t a_bytes v_length v_place k12 v_teller v_word)) fx h [0] rfl rfl rfl rfl (q_runV fx h hl.1 [0] rfl rfl (tX2_fail l D cI cJ cZ cS tb a_t a_bytes H.size v_length v_place v_fault v_teller v_word r12 k12 hg) mvX2_fail k_313 ⟨rfl, rfl⟩ ⟨Nat.le_of_ble_eq_true rfl, Nat.le_of_ble_eq_true rfl⟩ rfl rfl rfl rfl (Nat.le_of_ble_eq_true rfl) dX2_compared_24 ⟨Nat.le_of_ble_eq_true rfl, Nat.le_of_ble_eq_true rfl⟩) (fun H locs h => ?_)
  exact q_retl (fun k : Int32 × Int32 => (wX2_compared cI cJ cZ cS a_t a_bytes v_length k.1 k.2 v_teller v_word v_bytes)) fx hf h dX2_compared_27
abbrev rX2_unit (d : Nat) : Room := { frames := 3 * d + 3, cells := 0, slots := 0, locals := 90 * d + 70 }
abbrev rX2_allOf (d : Nat) : Room := { frames := 3 * d + 4, cells := 0, slots := 0, locals := 90 * d + 100 }
abbrev rX2_anyOf (d : Nat) : Room := { frames := 3 * d + 5, cells := 0, slots := 0, locals := 90 * d + 130 }
theorem room_X2_unit_X2_anyOf (dd : Nat) : (rX2_anyOf dd).frames + 1 ≤ (rX2_unit (dd + 1)).frames ∧ 8 + (5 + 11) + (rX2_anyOf dd).locals ≤ (rX2_unit (dd + 1)).locals := by
  constructor
  · show 3 * dd + 5 + 1 ≤ 3 * (dd + 1) + 3; omega
  · show 8 + (5 + 11) + (90 * dd + 130) ≤ 90 * (dd + 1) + 70; omega
theorem room_X2_unit_X2_closed (dd : Nat) : rX2_closed.frames + 1 ≤ (rX2_unit (dd + 1)).frames ∧ 8 + (3 + 11) + rX2_closed.locals ≤ (rX2_unit (dd + 1)).locals := by
  constructor
  · show 2 + 1 ≤ 3 * (dd + 1) + 3; omega
  · show 8 + (3 + 11) + 42 ≤ 90 * (dd + 1) + 70; omega
theorem room_X2_unit_X2_compared (dd : Nat) : rX2_compared.frames + 1 ≤ (rX2_unit (dd + 1)).frames ∧ 8 + (3 + 11) + rX2_compared.locals ≤ (rX2_unit (dd + 1)).locals := by
  constructor
  · show 2 + 1 ≤ 3 * (dd + 1) + 3; omega
  · show 8 + (3 + 11) + 48 ≤ 90 * (dd + 1) + 70; omega
theorem room_X2_unit_X2_fail (dd : Nat) : rX2_fail.frames + 1 ≤ (rX2_unit (dd + 1)).frames ∧ 8 + (1 + 11) + rX2_fail.locals ≤ (rX2_unit (dd + 1)).locals := by
  constructor
  · show 0 + 1 ≤ 3 * (dd + 1) + 3; omega
  · show 8 + (1 + 11) + 0 ≤ 90 * (dd + 1) + 70; omega
theorem room_X2_unit_X2_listsWith (dd : Nat) : rX2_listsWith.frames + 1 ≤ (rX2_unit (dd + 1)).frames ∧ 8 + (2 + 11) + rX2_listsWith.locals ≤ (rX2_unit (dd + 1)).locals := by
  constructor
  · show 1 + 1 ≤ 3 * (dd + 1) + 3; omega
  · show 8 + (2 + 11) + 21 ≤ 90 * (dd + 1) + 70; omega
theorem room_X2_unit_X2_passes (dd : Nat) : rX2_passes.frames + 1 ≤ (rX2_unit (dd + 1)).frames ∧ 8 + (3 + 11) + rX2_passes.locals ≤ (rX2_unit (dd + 1)).locals := by
  constructor
  · show 1 + 1 ≤ 3 * (dd + 1) + 3; omega
  · show 8 + (3 + 11) + 20 ≤ 90 * (dd + 1) + 70; omega
theorem room_X2_unit_X2_sign (dd : Nat) : rX2_sign.frames + 1 ≤ (rX2_unit (dd + 1)).frames ∧ 8 + (1 + 11) + rX2_sign.locals ≤ (rX2_unit (dd + 1)).locals := by
  constructor
  · show 0 + 1 ≤ 3 * (dd + 1) + 3; omega
  · show 8 + (1 + 11) + 0 ≤ 90 * (dd + 1) + 70; omega
theorem room_X2_unit_X2_unit (dd : Nat) : (rX2_unit dd).frames + 1 ≤ (rX2_unit (dd + 1)).frames ∧ 8 + (3 + 11) + (rX2_unit dd).locals ≤ (rX2_unit (dd + 1)).locals := by
  constructor
  · show 3 * dd + 3 + 1 ≤ 3 * (dd + 1) + 3; omega
  · show 8 + (3 + 11) + (90 * dd + 70) ≤ 90 * (dd + 1) + 70; omega
theorem room_X2_allOf_X2_passes (dd : Nat) : rX2_passes.frames + 1 ≤ (rX2_allOf dd).frames ∧ 8 + (3 + 11) + rX2_passes.locals ≤ (rX2_allOf dd).locals := by
  constructor
  · show 1 + 1 ≤ 3 * dd + 4; omega
  · show 8 + (3 + 11) + 20 ≤ 90 * dd + 100; omega
theorem room_X2_allOf_X2_unit (dd : Nat) : (rX2_unit dd).frames + 1 ≤ (rX2_allOf dd).frames ∧ 8 + (3 + 11) + (rX2_unit dd).locals ≤ (rX2_allOf dd).locals := by
  constructor
  · show 3 * dd + 3 + 1 ≤ 3 * dd + 4; omega
  · show 8 + (3 + 11) + (90 * dd + 70) ≤ 90 * dd + 100; omega
theorem room_X2_anyOf_X2_allOf (dd : Nat) : (rX2_allOf dd).frames + 1 ≤ (rX2_anyOf dd).frames ∧ 8 + (5 + 11) + (rX2_allOf dd).locals ≤ (rX2_anyOf dd).locals := by
  constructor
  · show 3 * dd + 4 + 1 ≤ 3 * dd + 5; omega
  · show 8 + (5 + 11) + (90 * dd + 100) ≤ 90 * dd + 130; omega
theorem room_X2_anyOf_X2_passes (dd : Nat) : rX2_passes.frames + 1 ≤ (rX2_anyOf dd).frames ∧ 8 + (3 + 11) + rX2_passes.locals ≤ (rX2_anyOf dd).locals := by
  constructor
  · show 1 + 1 ≤ 3 * dd + 5; omega
  · show 8 + (3 + 11) + 20 ≤ 90 * dd + 130; omega
abbrev wX2_unit (cI cJ cZ cS : ClassId) (a_t a_bytes : Nat) (v_length : Int32) (v_place : Int32) (v_fault : Int32) (v_teller : Int32) (v_word : Int32) (v_bytes : Nat → Int32) : va_W := [(a_t, .inr (2, [.ref a_bytes, .int v_length, .int v_place, .int v_fault, .int v_teller, .int v_word])), (a_bytes, .inl (cI, 60, .inl v_bytes))]
abbrev wX2_allOf (cI cJ cZ cS : ClassId) (a_t a_bytes : Nat) (v_length : Int32) (v_place : Int32) (v_fault : Int32) (v_teller : Int32) (v_word : Int32) (v_bytes : Nat → Int32) : va_W := [(a_t, .inr (2, [.ref a_bytes, .int v_length, .int v_place, .int v_fault, .int v_teller, .int v_word])), (a_bytes, .inl (cI, 60, .inl v_bytes))]
abbrev wX2_anyOf (cI cJ cZ cS : ClassId) (a_t a_bytes : Nat) (v_length : Int32) (v_place : Int32) (v_fault : Int32) (v_teller : Int32) (v_word : Int32) (v_bytes : Nat → Int32) : va_W := [(a_t, .inr (2, [.ref a_bytes, .int v_length, .int v_place, .int v_fault, .int v_teller, .int v_word])), (a_bytes, .inl (cI, 60, .inl v_bytes))]
/-! X2_unit -/
def fX2_unit_90 (gX2_anyOf : Int32 → Int32 → Int32 → Int32 → Int32 → (Nat → Int32) → Int32 → Option (Int64 × Int32 × Int32)) (gX2_unit : Int32 → Int32 → Int32 → Int32 → Int32 → (Nat → Int32) → Int32 → Option (Int64 × Int32 × Int32)) (v_length : Int32) (v_teller : Int32) (v_word : Int32) (v_bytes : Nat → Int32) (v_place : Int32) (v_fault : Int32) : Option (Int64 × Int32 × Int32) :=
  bR (fX2_passes v_length v_place v_fault v_bytes 110) (fun r1 k1 =>
  (if r1 = 0 then (
  bR (fX2_passes v_length k1 v_fault v_bytes 49) (fun r3 k3 =>
  (if r3 = 0 then (
  bR (fX2_passes v_length k3 v_fault v_bytes 48) (fun r5 k5 =>
  (if r5 = 0 then (
  bR (fX2_fail k5 v_fault) (fun r7 k7 =>
  some (r7, (k5, k7))))
  else (
  some (0, (k5, v_fault))))))
  else (
  some ((-1), (k3, v_fault))))))
  else (
  bR (fX2_compared v_length k1 v_fault v_teller v_word v_bytes) (fun r8 k8 =>
  some (r8, (k8.1, k8.2))))))
set_option maxRecDepth 100000 in
set_option maxHeartbeats 4000000 in
theorem LX2_unit_90 {p : Program} {l : Launch} {e : Env} {s : State} {m : MethodId} {args : Array Value} {below : List Frame} {meth : Method} {c : Code} {D : va_G} {cI cJ cZ cS : ClassId} {tb : Nat} {A : Nat → Prop} {a_t a_bytes : Nat} {v_length : Int32} {v_teller : Int32} {v_word : Int32} {v_bytes : Nat → Int32} {rr : Int64} {kk' : Int32 × Int32} {dd : Nat} {gX2_anyOf : Int32 → Int32 → Int32 → Int32 → Int32 → (Nat → Int32) → Int32 → Option (Int64 × Int32 × Int32)} (hgX2_anyOf : ∀ (D : va_G) (cI cJ cZ cS : ClassId) (tb : Nat) (a_t a_bytes : Nat) (sz : Nat) (v_length : Int32) (v_place : Int32) (v_fault : Int32) (v_teller : Int32) (v_word : Int32) (v_bytes : Nat → Int32) (x1 : Int32) (rr : Int64) (kk' : Int32 × Int32) (hf : gX2_anyOf v_length v_place v_fault v_teller v_word v_bytes x1 = some (rr, kk')), Met l yX2_anyOf (Cond.code yX2_anyOf cX2_anyOf 5 (some .long) :: wA) (rX2_anyOf dd) (q_Pre D cI cJ cZ cS tb [.ref a_t, .int x1] sz (wX2_anyOf cI cJ cZ cS a_t a_bytes v_length v_place v_fault v_teller v_word v_bytes)) (q_Rl D rr (va_A (wX2_anyOf cI cJ cZ cS a_t a_bytes v_length v_place v_fault v_teller v_word v_bytes) sz) ((fun k : Int32 × Int32 => (wX2_anyOf cI cJ cZ cS a_t a_bytes v_length k.1 k.2 v_teller v_word v_bytes)) kk')) 0 0 (va_A (wX2_anyOf cI cJ cZ cS a_t a_bytes v_length v_place v_fault v_teller v_word v_bytes) sz)) {gX2_unit : Int32 → Int32 → Int32 → Int32 → Int32 → (Nat → Int32) → Int32 → Option (Int64 × Int32 × Int32)} (hgX2_unit : ∀ (D : va_G) (cI cJ cZ cS : ClassId) (tb : Nat) (a_t a_bytes : Nat) (sz : Nat) (v_length : Int32) (v_place : Int32) (v_fault : Int32) (v_teller : Int32) (v_word : Int32) (v_bytes : Nat → Int32) (x1 : Int32) (rr : Int64) (kk' : Int32 × Int32) (hf : gX2_unit v_length v_place v_fault v_teller v_word v_bytes x1 = some (rr, kk')), Met l yX2_unit (Cond.code yX2_unit cX2_unit 3 (some .long) :: wA) (rX2_unit dd) (q_Pre D cI cJ cZ cS tb [.ref a_t, .int x1] sz (wX2_unit cI cJ cZ cS a_t a_bytes v_length v_place v_fault v_teller v_word v_bytes)) (q_Rl D rr (va_A (wX2_unit cI cJ cZ cS a_t a_bytes v_length v_place v_fault v_teller v_word v_bytes) sz) ((fun k : Int32 × Int32 => (wX2_unit cI cJ cZ cS a_t a_bytes v_length k.1 k.2 v_teller v_word v_bytes)) kk')) 0 0 (va_A (wX2_unit cI cJ cZ cS a_t a_bytes v_length v_place v_fault v_teller v_word v_bytes) sz)) (fx : q_Fx p s m args meth c cX2_unit 3 RX2 (some .long) D cI cJ cZ cS tb A) : ∀ {v_place : Int32} {v_fault : Int32} {H : Heap} {locs : List Loc} {ls : Array Slot}, q_H D A s (wX2_unit cI cJ cZ cS a_t a_bytes v_length v_place v_fault v_teller v_word v_bytes) H locs → lv_has ls 3 [(0, .ref a_t)] → fX2_unit_90 gX2_anyOf gX2_unit v_length v_teller v_word v_bytes v_place v_fault = some (rr, kk') → W p l e (rX2_unit (dd + 1)) s m args below meth c H locs 0 0 (MQ below (q_Rl D rr A ((fun k : Int32 × Int32 => (wX2_unit cI cJ cZ cS a_t a_bytes v_length k.1 k.2 v_teller v_word v_bytes)) kk')) args s 0 0 A) (F0 m 90 ls []) := by
  intro v_place v_fault H locs ls h hl hf
  have hx := fx.1
  have hb := fx.2.1
  unfold fX2_unit_90 at hf
  refine lv_aload_n hx hb dX2_unit_90 rfl (lv_at hl 0 rfl) ?_
  refine lv_bipush (v := 110) hx hb dX2_unit_91 (by decide) ?_
  obtain ⟨r1, k1, hg, hf⟩ := bR_inv hf
  refine q_ci (rest := []) (ws' := (wX2_unit cI cJ cZ cS a_t a_bytes v_length k1 v_fault v_teller v_word v_bytes)) (w1 := (wX2_passes cI cJ cZ cS a_t a_bytes v_length k1 v_fault v_teller v_word v_bytes)) fx h [0, 1] rfl rfl rfl rfl (q_runV fx h hl.1 [0, 1] rfl rfl (tX2_passes l D cI cJ cZ cS tb a_t a_bytes H.size v_length v_place v_fault v_teller v_word v_bytes 110 r1 k1 hg) mvX2_passes k_304 ⟨rfl, rfl⟩ (room_X2_unit_X2_passes dd) rfl rfl rfl rfl (Nat.le_of_ble_eq_true rfl) dX2_unit_93 ⟨Nat.le_of_ble_eq_true rfl, Nat.le_of_ble_eq_true rfl⟩) (fun H locs h => ?_)
  refine lv_if_eq (tgt := 104) hx hb dX2_unit_96 (by decide) (fun c2 => ?_) (fun c2 => ?_)
  · have hf := it_t c2 hf
    refine lv_aload_n hx hb dX2_unit_104 rfl (lv_at hl 0 rfl) ?_
    refine lv_bipush (v := 49) hx hb dX2_unit_105 (by decide) ?_
    obtain ⟨r3, k3, hg, hf⟩ := bR_inv hf
    refine q_ci (rest := []) (ws' := (wX2_unit cI cJ cZ cS a_t a_bytes v_length k3 v_fault v_teller v_word v_bytes)) (w1 := (wX2_passes cI cJ cZ cS a_t a_bytes v_length k3 v_fault v_teller v_word v_bytes)) fx h [0, 1] rfl rfl rfl rfl (q_runV fx h hl.1 [0, 1] rfl rfl (tX2_passes l D cI cJ cZ cS tb a_t a_bytes H.size v_length k1 v_fault v_teller v_word v_bytes 49 r3 k3 hg) mvX2_passes k_304 ⟨rfl, rfl⟩ (room_X2_unit_X2_passes dd) rfl rfl rfl rfl (Nat.le_of_ble_eq_true rfl) dX2_unit_107 ⟨Nat.le_of_ble_eq_true rfl, Nat.le_of_ble_eq_true rfl⟩) (fun H locs h => ?_)
    refine lv_if_eq (tgt := 117) hx hb dX2_unit_110 (by decide) (fun c4 => ?_) (fun c4 => ?_)
    · have hf := it_t c4 hf
      refine lv_aload_n hx hb dX2_unit_117 rfl (lv_at hl 0 rfl) ?_
      refine lv_bipush (v := 48) hx hb dX2_unit_118 (by decide) ?_
      obtain ⟨r5, k5, hg, hf⟩ := bR_inv hf
      refine q_ci (rest := []) (ws' := (wX2_unit cI cJ cZ cS a_t a_bytes v_length k5 v_fault v_teller v_word v_bytes)) (w1 := (wX2_passes cI cJ cZ cS a_t a_bytes v_length k5 v_fault v_teller v_word v_bytes)) fx h [0, 1] rfl rfl rfl rfl (q_runV fx h hl.1 [0, 1] rfl rfl (tX2_passes l D cI cJ cZ cS tb a_t a_bytes H.size v_length k3 v_fault v_teller v_word v_bytes 48 r5 k5 hg) mvX2_passes k_304 ⟨rfl, rfl⟩ (room_X2_unit_X2_passes dd) rfl rfl rfl rfl (Nat.le_of_ble_eq_true rfl) dX2_unit_120 ⟨Nat.le_of_ble_eq_true rfl, Nat.le_of_ble_eq_true rfl⟩) (fun H locs h => ?_)
      refine lv_if_eq (tgt := 130) hx hb dX2_unit_123 (by decide) (fun c6 => ?_) (fun c6 => ?_)
      · have hf := it_t c6 hf
        refine lv_aload_n hx hb dX2_unit_130 rfl (lv_at hl 0 rfl) ?_
        obtain ⟨r7, k7, hg, hf⟩ := bR_inv hf
        refine q_cl (rest := []) (ws' := (wX2_unit cI cJ cZ cS a_t a_bytes v_length k5 k7 v_teller v_word v_bytes)) (w1 := (wX2_fail cI cJ cZ cS a_t a_bytes v_length k5 k7 v_teller v_word)) fx h [0] rfl rfl rfl rfl (q_runV fx h hl.1 [0] rfl rfl (tX2_fail l D cI cJ cZ cS tb a_t a_bytes H.size v_length k5 v_fault v_teller v_word r7 k7 hg) mvX2_fail k_313 ⟨rfl, rfl⟩ (room_X2_unit_X2_fail dd) rfl rfl rfl rfl (Nat.le_of_ble_eq_true rfl) dX2_unit_131 ⟨Nat.le_of_ble_eq_true rfl, Nat.le_of_ble_eq_true rfl⟩) (fun H locs h => ?_)
        exact q_retl (fun k : Int32 × Int32 => (wX2_unit cI cJ cZ cS a_t a_bytes v_length k.1 k.2 v_teller v_word v_bytes)) fx hf h dX2_unit_134
      have hf := it_f c6 hf
      refine lv_lconst (v := 0) hx hb dX2_unit_126 (by decide) ?_
      refine lv_goto (tgt := 134) hx hb dX2_unit_127 (by decide) ?_
      exact q_retl (fun k : Int32 × Int32 => (wX2_unit cI cJ cZ cS a_t a_bytes v_length k.1 k.2 v_teller v_word v_bytes)) fx hf h dX2_unit_134
    have hf := it_f c4 hf
    refine q_ldc2 fx k_303 dX2_unit_113 ?_
    exact q_retl (fun k : Int32 × Int32 => (wX2_unit cI cJ cZ cS a_t a_bytes v_length k.1 k.2 v_teller v_word v_bytes)) fx hf h dX2_unit_116
  have hf := it_f c2 hf
  refine lv_aload_n hx hb dX2_unit_99 rfl (lv_at hl 0 rfl) ?_
  obtain ⟨r8, k8, hg, hf⟩ := bR_inv hf
  refine q_cl (rest := []) (ws' := (wX2_unit cI cJ cZ cS a_t a_bytes v_length k8.1 k8.2 v_teller v_word v_bytes)) (w1 := (wX2_compared cI cJ cZ cS a_t a_bytes v_length k8.1 k8.2 v_teller v_word v_bytes)) fx h [0, 1] rfl rfl rfl rfl (q_runV fx h hl.1 [0, 1] rfl rfl (tX2_compared l D cI cJ cZ cS tb a_t a_bytes H.size v_length k1 v_fault v_teller v_word v_bytes r8 k8 hg) mvX2_compared k_317 ⟨rfl, rfl⟩ (room_X2_unit_X2_compared dd) rfl rfl rfl rfl (Nat.le_of_ble_eq_true rfl) dX2_unit_100 ⟨Nat.le_of_ble_eq_true rfl, Nat.le_of_ble_eq_true rfl⟩) (fun H locs h => ?_)
  exact q_retl (fun k : Int32 × Int32 => (wX2_unit cI cJ cZ cS a_t a_bytes v_length k.1 k.2 v_teller v_word v_bytes)) fx hf h dX2_unit_103
def fX2_unit_63 (gX2_anyOf : Int32 → Int32 → Int32 → Int32 → Int32 → (Nat → Int32) → Int32 → Option (Int64 × Int32 × Int32)) (gX2_unit : Int32 → Int32 → Int32 → Int32 → Int32 → (Nat → Int32) → Int32 → Option (Int64 × Int32 × Int32)) (v_length : Int32) (v_teller : Int32) (v_word : Int32) (v_bytes : Nat → Int32) (v_place : Int32) (v_fault : Int32) (y1 : Int32) : Option (Int64 × Int32 × Int32) :=
  (if (6 : Int32) ≤ y1 then (
  fX2_unit_90 gX2_anyOf gX2_unit v_length v_teller v_word v_bytes v_place v_fault)
  else (
  bR (fX2_passes v_length v_place v_fault v_bytes 40) (fun r10 k10 =>
  (if r10 = 0 then (
  fX2_unit_90 gX2_anyOf gX2_unit v_length v_teller v_word v_bytes k10 v_fault)
  else (
  bR (gX2_anyOf v_length k10 v_fault v_teller v_word v_bytes (y1 + 1)) (fun r12 k12 =>
  bR (fX2_closed v_length k12.1 k12.2 v_bytes r12) (fun r13 k13 =>
  some (r13, (k13.1, k13.2)))))))))
set_option maxRecDepth 100000 in
set_option maxHeartbeats 4000000 in
theorem LX2_unit_63 {p : Program} {l : Launch} {e : Env} {s : State} {m : MethodId} {args : Array Value} {below : List Frame} {meth : Method} {c : Code} {D : va_G} {cI cJ cZ cS : ClassId} {tb : Nat} {A : Nat → Prop} {a_t a_bytes : Nat} {v_length : Int32} {v_teller : Int32} {v_word : Int32} {v_bytes : Nat → Int32} {rr : Int64} {kk' : Int32 × Int32} {dd : Nat} {gX2_anyOf : Int32 → Int32 → Int32 → Int32 → Int32 → (Nat → Int32) → Int32 → Option (Int64 × Int32 × Int32)} (hgX2_anyOf : ∀ (D : va_G) (cI cJ cZ cS : ClassId) (tb : Nat) (a_t a_bytes : Nat) (sz : Nat) (v_length : Int32) (v_place : Int32) (v_fault : Int32) (v_teller : Int32) (v_word : Int32) (v_bytes : Nat → Int32) (x1 : Int32) (rr : Int64) (kk' : Int32 × Int32) (hf : gX2_anyOf v_length v_place v_fault v_teller v_word v_bytes x1 = some (rr, kk')), Met l yX2_anyOf (Cond.code yX2_anyOf cX2_anyOf 5 (some .long) :: wA) (rX2_anyOf dd) (q_Pre D cI cJ cZ cS tb [.ref a_t, .int x1] sz (wX2_anyOf cI cJ cZ cS a_t a_bytes v_length v_place v_fault v_teller v_word v_bytes)) (q_Rl D rr (va_A (wX2_anyOf cI cJ cZ cS a_t a_bytes v_length v_place v_fault v_teller v_word v_bytes) sz) ((fun k : Int32 × Int32 => (wX2_anyOf cI cJ cZ cS a_t a_bytes v_length k.1 k.2 v_teller v_word v_bytes)) kk')) 0 0 (va_A (wX2_anyOf cI cJ cZ cS a_t a_bytes v_length v_place v_fault v_teller v_word v_bytes) sz)) {gX2_unit : Int32 → Int32 → Int32 → Int32 → Int32 → (Nat → Int32) → Int32 → Option (Int64 × Int32 × Int32)} (hgX2_unit : ∀ (D : va_G) (cI cJ cZ cS : ClassId) (tb : Nat) (a_t a_bytes : Nat) (sz : Nat) (v_length : Int32) (v_place : Int32) (v_fault : Int32) (v_teller : Int32) (v_word : Int32) (v_bytes : Nat → Int32) (x1 : Int32) (rr : Int64) (kk' : Int32 × Int32) (hf : gX2_unit v_length v_place v_fault v_teller v_word v_bytes x1 = some (rr, kk')), Met l yX2_unit (Cond.code yX2_unit cX2_unit 3 (some .long) :: wA) (rX2_unit dd) (q_Pre D cI cJ cZ cS tb [.ref a_t, .int x1] sz (wX2_unit cI cJ cZ cS a_t a_bytes v_length v_place v_fault v_teller v_word v_bytes)) (q_Rl D rr (va_A (wX2_unit cI cJ cZ cS a_t a_bytes v_length v_place v_fault v_teller v_word v_bytes) sz) ((fun k : Int32 × Int32 => (wX2_unit cI cJ cZ cS a_t a_bytes v_length k.1 k.2 v_teller v_word v_bytes)) kk')) 0 0 (va_A (wX2_unit cI cJ cZ cS a_t a_bytes v_length v_place v_fault v_teller v_word v_bytes) sz)) (fx : q_Fx p s m args meth c cX2_unit 3 RX2 (some .long) D cI cJ cZ cS tb A) : ∀ {v_place : Int32} {v_fault : Int32} {y1 : Int32} {H : Heap} {locs : List Loc} {ls : Array Slot}, q_H D A s (wX2_unit cI cJ cZ cS a_t a_bytes v_length v_place v_fault v_teller v_word v_bytes) H locs → lv_has ls 3 [(0, .ref a_t), (1, .int y1)] → fX2_unit_63 gX2_anyOf gX2_unit v_length v_teller v_word v_bytes v_place v_fault y1 = some (rr, kk') → W p l e (rX2_unit (dd + 1)) s m args below meth c H locs 0 0 (MQ below (q_Rl D rr A ((fun k : Int32 × Int32 => (wX2_unit cI cJ cZ cS a_t a_bytes v_length k.1 k.2 v_teller v_word v_bytes)) kk')) args s 0 0 A) (F0 m 63 ls []) := by
  intro v_place v_fault y1 H locs ls h hl hf
  have hx := fx.1
  have hb := fx.2.1
  unfold fX2_unit_63 at hf
  refine lv_iload_n hx hb dX2_unit_63 rfl (lv_at hl 1 rfl) ?_
  refine lv_bipush (v := 6) hx hb dX2_unit_64 (by decide) ?_
  refine lv_icmp_ge (tgt := 90) hx hb dX2_unit_66 (by decide) (fun c9 => ?_) (fun c9 => ?_)
  · have hf := it_t c9 hf
    exact LX2_unit_90 hgX2_anyOf hgX2_unit fx h (lv_sub hl [0] rfl) hf
  have hf := it_f c9 hf
  refine lv_aload_n hx hb dX2_unit_69 rfl (lv_at hl 0 rfl) ?_
  refine lv_bipush (v := 40) hx hb dX2_unit_70 (by decide) ?_
  obtain ⟨r10, k10, hg, hf⟩ := bR_inv hf
  refine q_ci (rest := []) (ws' := (wX2_unit cI cJ cZ cS a_t a_bytes v_length k10 v_fault v_teller v_word v_bytes)) (w1 := (wX2_passes cI cJ cZ cS a_t a_bytes v_length k10 v_fault v_teller v_word v_bytes)) fx h [0, 1] rfl rfl rfl rfl (q_runV fx h hl.1 [0, 1] rfl rfl (tX2_passes l D cI cJ cZ cS tb a_t a_bytes H.size v_length v_place v_fault v_teller v_word v_bytes 40 r10 k10 hg) mvX2_passes k_304 ⟨rfl, rfl⟩ (room_X2_unit_X2_passes dd) rfl rfl rfl rfl (Nat.le_of_ble_eq_true rfl) dX2_unit_72 ⟨Nat.le_of_ble_eq_true rfl, Nat.le_of_ble_eq_true rfl⟩) (fun H locs h => ?_)
  refine lv_if_eq (tgt := 90) hx hb dX2_unit_75 (by decide) (fun c11 => ?_) (fun c11 => ?_)
  · have hf := it_t c11 hf
    exact LX2_unit_90 hgX2_anyOf hgX2_unit fx h (lv_sub hl [0] rfl) hf
  have hf := it_f c11 hf
  refine lv_aload_n hx hb dX2_unit_78 rfl (lv_at hl 0 rfl) ?_
  refine lv_aload_n hx hb dX2_unit_79 rfl (lv_at hl 0 rfl) ?_
  refine lv_iload_n hx hb dX2_unit_80 rfl (lv_at hl 1 rfl) ?_
  refine lv_iconst (v := 1) hx hb dX2_unit_81 (by decide) ?_
  refine lv_iadd hx hb dX2_unit_82 ?_
  obtain ⟨r12, k12, hg, hf⟩ := bR_inv hf
  refine q_cl (rest := [.ref a_t]) (ws' := (wX2_unit cI cJ cZ cS a_t a_bytes v_length k12.1 k12.2 v_teller v_word v_bytes)) (w1 := (wX2_anyOf cI cJ cZ cS a_t a_bytes v_length k12.1 k12.2 v_teller v_word v_bytes)) fx h [0, 1] rfl rfl rfl rfl (q_runV fx h hl.1 [0, 1] rfl rfl (hgX2_anyOf D cI cJ cZ cS tb a_t a_bytes H.size v_length k10 v_fault v_teller v_word v_bytes (y1 + 1) r12 k12 hg) mvX2_anyOf k_278 ⟨rfl, rfl⟩ (room_X2_unit_X2_anyOf dd) rfl rfl rfl rfl (Nat.le_of_ble_eq_true rfl) dX2_unit_83 ⟨Nat.le_of_ble_eq_true rfl, Nat.le_of_ble_eq_true rfl⟩) (fun H locs h => ?_)
  obtain ⟨r13, k13, hg, hf⟩ := bR_inv hf
  refine q_cl (rest := []) (ws' := (wX2_unit cI cJ cZ cS a_t a_bytes v_length k13.1 k13.2 v_teller v_word v_bytes)) (w1 := (wX2_closed cI cJ cZ cS a_t a_bytes v_length k13.1 k13.2 v_teller v_word v_bytes)) fx h [0, 1] rfl rfl rfl rfl (q_runV fx h hl.1 [0, 1] rfl rfl (tX2_closed l D cI cJ cZ cS tb a_t a_bytes H.size v_length k12.1 k12.2 v_teller v_word v_bytes r12 r13 k13 hg) mvX2_closed k_309 ⟨rfl, rfl⟩ (room_X2_unit_X2_closed dd) rfl rfl rfl rfl (Nat.le_of_ble_eq_true rfl) dX2_unit_86 ⟨Nat.le_of_ble_eq_true rfl, Nat.le_of_ble_eq_true rfl⟩) (fun H locs h => ?_)
  exact q_retl (fun k : Int32 × Int32 => (wX2_unit cI cJ cZ cS a_t a_bytes v_length k.1 k.2 v_teller v_word v_bytes)) fx hf h dX2_unit_89
def fX2_unit_36 (gX2_anyOf : Int32 → Int32 → Int32 → Int32 → Int32 → (Nat → Int32) → Int32 → Option (Int64 × Int32 × Int32)) (gX2_unit : Int32 → Int32 → Int32 → Int32 → Int32 → (Nat → Int32) → Int32 → Option (Int64 × Int32 × Int32)) (v_length : Int32) (v_teller : Int32) (v_word : Int32) (v_bytes : Nat → Int32) (v_place : Int32) (v_fault : Int32) (y1 : Int32) : Option (Int64 × Int32 × Int32) :=
  (if (6 : Int32) ≤ y1 then (
  fX2_unit_63 gX2_anyOf gX2_unit v_length v_teller v_word v_bytes v_place v_fault y1)
  else (
  bR (fX2_passes v_length v_place v_fault v_bytes 33) (fun r15 k15 =>
  (if r15 = 0 then (
  fX2_unit_63 gX2_anyOf gX2_unit v_length v_teller v_word v_bytes k15 v_fault y1)
  else (
  bR (gX2_unit v_length k15 v_fault v_teller v_word v_bytes (y1 + 1)) (fun r17 k17 =>
  some (r17 ^^^ (-1), (k17.1, k17.2))))))))
set_option maxRecDepth 100000 in
set_option maxHeartbeats 4000000 in
theorem LX2_unit_36 {p : Program} {l : Launch} {e : Env} {s : State} {m : MethodId} {args : Array Value} {below : List Frame} {meth : Method} {c : Code} {D : va_G} {cI cJ cZ cS : ClassId} {tb : Nat} {A : Nat → Prop} {a_t a_bytes : Nat} {v_length : Int32} {v_teller : Int32} {v_word : Int32} {v_bytes : Nat → Int32} {rr : Int64} {kk' : Int32 × Int32} {dd : Nat} {gX2_anyOf : Int32 → Int32 → Int32 → Int32 → Int32 → (Nat → Int32) → Int32 → Option (Int64 × Int32 × Int32)} (hgX2_anyOf : ∀ (D : va_G) (cI cJ cZ cS : ClassId) (tb : Nat) (a_t a_bytes : Nat) (sz : Nat) (v_length : Int32) (v_place : Int32) (v_fault : Int32) (v_teller : Int32) (v_word : Int32) (v_bytes : Nat → Int32) (x1 : Int32) (rr : Int64) (kk' : Int32 × Int32) (hf : gX2_anyOf v_length v_place v_fault v_teller v_word v_bytes x1 = some (rr, kk')), Met l yX2_anyOf (Cond.code yX2_anyOf cX2_anyOf 5 (some .long) :: wA) (rX2_anyOf dd) (q_Pre D cI cJ cZ cS tb [.ref a_t, .int x1] sz (wX2_anyOf cI cJ cZ cS a_t a_bytes v_length v_place v_fault v_teller v_word v_bytes)) (q_Rl D rr (va_A (wX2_anyOf cI cJ cZ cS a_t a_bytes v_length v_place v_fault v_teller v_word v_bytes) sz) ((fun k : Int32 × Int32 => (wX2_anyOf cI cJ cZ cS a_t a_bytes v_length k.1 k.2 v_teller v_word v_bytes)) kk')) 0 0 (va_A (wX2_anyOf cI cJ cZ cS a_t a_bytes v_length v_place v_fault v_teller v_word v_bytes) sz)) {gX2_unit : Int32 → Int32 → Int32 → Int32 → Int32 → (Nat → Int32) → Int32 → Option (Int64 × Int32 × Int32)} (hgX2_unit : ∀ (D : va_G) (cI cJ cZ cS : ClassId) (tb : Nat) (a_t a_bytes : Nat) (sz : Nat) (v_length : Int32) (v_place : Int32) (v_fault : Int32) (v_teller : Int32) (v_word : Int32) (v_bytes : Nat → Int32) (x1 : Int32) (rr : Int64) (kk' : Int32 × Int32) (hf : gX2_unit v_length v_place v_fault v_teller v_word v_bytes x1 = some (rr, kk')), Met l yX2_unit (Cond.code yX2_unit cX2_unit 3 (some .long) :: wA) (rX2_unit dd) (q_Pre D cI cJ cZ cS tb [.ref a_t, .int x1] sz (wX2_unit cI cJ cZ cS a_t a_bytes v_length v_place v_fault v_teller v_word v_bytes)) (q_Rl D rr (va_A (wX2_unit cI cJ cZ cS a_t a_bytes v_length v_place v_fault v_teller v_word v_bytes) sz) ((fun k : Int32 × Int32 => (wX2_unit cI cJ cZ cS a_t a_bytes v_length k.1 k.2 v_teller v_word v_bytes)) kk')) 0 0 (va_A (wX2_unit cI cJ cZ cS a_t a_bytes v_length v_place v_fault v_teller v_word v_bytes) sz)) (fx : q_Fx p s m args meth c cX2_unit 3 RX2 (some .long) D cI cJ cZ cS tb A) : ∀ {v_place : Int32} {v_fault : Int32} {y1 : Int32} {H : Heap} {locs : List Loc} {ls : Array Slot}, q_H D A s (wX2_unit cI cJ cZ cS a_t a_bytes v_length v_place v_fault v_teller v_word v_bytes) H locs → lv_has ls 3 [(0, .ref a_t), (1, .int y1)] → fX2_unit_36 gX2_anyOf gX2_unit v_length v_teller v_word v_bytes v_place v_fault y1 = some (rr, kk') → W p l e (rX2_unit (dd + 1)) s m args below meth c H locs 0 0 (MQ below (q_Rl D rr A ((fun k : Int32 × Int32 => (wX2_unit cI cJ cZ cS a_t a_bytes v_length k.1 k.2 v_teller v_word v_bytes)) kk')) args s 0 0 A) (F0 m 36 ls []) := by
  intro v_place v_fault y1 H locs ls h hl hf
  have hx := fx.1
  have hb := fx.2.1
  unfold fX2_unit_36 at hf
  refine lv_iload_n hx hb dX2_unit_36 rfl (lv_at hl 1 rfl) ?_
  refine lv_bipush (v := 6) hx hb dX2_unit_37 (by decide) ?_
  refine lv_icmp_ge (tgt := 63) hx hb dX2_unit_39 (by decide) (fun c14 => ?_) (fun c14 => ?_)
  · have hf := it_t c14 hf
    exact LX2_unit_63 hgX2_anyOf hgX2_unit fx h (lv_sub hl [0, 1] rfl) hf
  have hf := it_f c14 hf
  refine lv_aload_n hx hb dX2_unit_42 rfl (lv_at hl 0 rfl) ?_
  refine lv_bipush (v := 33) hx hb dX2_unit_43 (by decide) ?_
  obtain ⟨r15, k15, hg, hf⟩ := bR_inv hf
  refine q_ci (rest := []) (ws' := (wX2_unit cI cJ cZ cS a_t a_bytes v_length k15 v_fault v_teller v_word v_bytes)) (w1 := (wX2_passes cI cJ cZ cS a_t a_bytes v_length k15 v_fault v_teller v_word v_bytes)) fx h [0, 1] rfl rfl rfl rfl (q_runV fx h hl.1 [0, 1] rfl rfl (tX2_passes l D cI cJ cZ cS tb a_t a_bytes H.size v_length v_place v_fault v_teller v_word v_bytes 33 r15 k15 hg) mvX2_passes k_304 ⟨rfl, rfl⟩ (room_X2_unit_X2_passes dd) rfl rfl rfl rfl (Nat.le_of_ble_eq_true rfl) dX2_unit_45 ⟨Nat.le_of_ble_eq_true rfl, Nat.le_of_ble_eq_true rfl⟩) (fun H locs h => ?_)
  refine lv_if_eq (tgt := 63) hx hb dX2_unit_48 (by decide) (fun c16 => ?_) (fun c16 => ?_)
  · have hf := it_t c16 hf
    exact LX2_unit_63 hgX2_anyOf hgX2_unit fx h (lv_sub hl [0, 1] rfl) hf
  have hf := it_f c16 hf
  refine lv_aload_n hx hb dX2_unit_51 rfl (lv_at hl 0 rfl) ?_
  refine lv_iload_n hx hb dX2_unit_52 rfl (lv_at hl 1 rfl) ?_
  refine lv_iconst (v := 1) hx hb dX2_unit_53 (by decide) ?_
  refine lv_iadd hx hb dX2_unit_54 ?_
  obtain ⟨r17, k17, hg, hf⟩ := bR_inv hf
  refine q_cl (rest := []) (ws' := (wX2_unit cI cJ cZ cS a_t a_bytes v_length k17.1 k17.2 v_teller v_word v_bytes)) (w1 := (wX2_unit cI cJ cZ cS a_t a_bytes v_length k17.1 k17.2 v_teller v_word v_bytes)) fx h [0, 1] rfl rfl rfl rfl (q_runV fx h hl.1 [0, 1] rfl rfl (hgX2_unit D cI cJ cZ cS tb a_t a_bytes H.size v_length k15 v_fault v_teller v_word v_bytes (y1 + 1) r17 k17 hg) mvX2_unit k_286 ⟨rfl, rfl⟩ (room_X2_unit_X2_unit dd) rfl rfl rfl rfl (Nat.le_of_ble_eq_true rfl) dX2_unit_55 ⟨Nat.le_of_ble_eq_true rfl, Nat.le_of_ble_eq_true rfl⟩) (fun H locs h => ?_)
  refine q_ldc2 fx k_303 dX2_unit_58 ?_
  refine lv_lxor hx hb dX2_unit_61 ?_
  exact q_retl (fun k : Int32 × Int32 => (wX2_unit cI cJ cZ cS a_t a_bytes v_length k.1 k.2 v_teller v_word v_bytes)) fx hf h dX2_unit_62
def fX2_unit (gX2_anyOf : Int32 → Int32 → Int32 → Int32 → Int32 → (Nat → Int32) → Int32 → Option (Int64 × Int32 × Int32)) (gX2_unit : Int32 → Int32 → Int32 → Int32 → Int32 → (Nat → Int32) → Int32 → Option (Int64 × Int32 × Int32)) (v_length : Int32) (v_place : Int32) (v_fault : Int32) (v_teller : Int32) (v_word : Int32) (v_bytes : Nat → Int32) (x1 : Int32) : Option (Int64 × Int32 × Int32) :=
  bR (fX2_sign v_length v_place v_fault v_bytes) (fun r18 k18 =>
  (if r18 < 97 then (
  fX2_unit_36 gX2_anyOf gX2_unit v_length v_teller v_word v_bytes v_place v_fault x1)
  else (
  (if (104 : Int32) < r18 then (
  fX2_unit_36 gX2_anyOf gX2_unit v_length v_teller v_word v_bytes v_place v_fault x1)
  else (
  nm (v_place + 1) (fun u21 =>
  bR (fX2_listsWith v_word (r18 - 97)) (fun r22 k22 =>
  some (r22, (u21, v_fault)))))))))
set_option maxRecDepth 100000 in
set_option maxHeartbeats 4000000 in
theorem uX2_unit (dd : Nat) (l : Launch) {gX2_anyOf : Int32 → Int32 → Int32 → Int32 → Int32 → (Nat → Int32) → Int32 → Option (Int64 × Int32 × Int32)} (hgX2_anyOf : ∀ (D : va_G) (cI cJ cZ cS : ClassId) (tb : Nat) (a_t a_bytes : Nat) (sz : Nat) (v_length : Int32) (v_place : Int32) (v_fault : Int32) (v_teller : Int32) (v_word : Int32) (v_bytes : Nat → Int32) (x1 : Int32) (rr : Int64) (kk' : Int32 × Int32) (hf : gX2_anyOf v_length v_place v_fault v_teller v_word v_bytes x1 = some (rr, kk')), Met l yX2_anyOf (Cond.code yX2_anyOf cX2_anyOf 5 (some .long) :: wA) (rX2_anyOf dd) (q_Pre D cI cJ cZ cS tb [.ref a_t, .int x1] sz (wX2_anyOf cI cJ cZ cS a_t a_bytes v_length v_place v_fault v_teller v_word v_bytes)) (q_Rl D rr (va_A (wX2_anyOf cI cJ cZ cS a_t a_bytes v_length v_place v_fault v_teller v_word v_bytes) sz) ((fun k : Int32 × Int32 => (wX2_anyOf cI cJ cZ cS a_t a_bytes v_length k.1 k.2 v_teller v_word v_bytes)) kk')) 0 0 (va_A (wX2_anyOf cI cJ cZ cS a_t a_bytes v_length v_place v_fault v_teller v_word v_bytes) sz)) {gX2_unit : Int32 → Int32 → Int32 → Int32 → Int32 → (Nat → Int32) → Int32 → Option (Int64 × Int32 × Int32)} (hgX2_unit : ∀ (D : va_G) (cI cJ cZ cS : ClassId) (tb : Nat) (a_t a_bytes : Nat) (sz : Nat) (v_length : Int32) (v_place : Int32) (v_fault : Int32) (v_teller : Int32) (v_word : Int32) (v_bytes : Nat → Int32) (x1 : Int32) (rr : Int64) (kk' : Int32 × Int32) (hf : gX2_unit v_length v_place v_fault v_teller v_word v_bytes x1 = some (rr, kk')), Met l yX2_unit (Cond.code yX2_unit cX2_unit 3 (some .long) :: wA) (rX2_unit dd) (q_Pre D cI cJ cZ cS tb [.ref a_t, .int x1] sz (wX2_unit cI cJ cZ cS a_t a_bytes v_length v_place v_fault v_teller v_word v_bytes)) (q_Rl D rr (va_A (wX2_unit cI cJ cZ cS a_t a_bytes v_length v_place v_fault v_teller v_word v_bytes) sz) ((fun k : Int32 × Int32 => (wX2_unit cI cJ cZ cS a_t a_bytes v_length k.1 k.2 v_teller v_word v_bytes)) kk')) 0 0 (va_A (wX2_unit cI cJ cZ cS a_t a_bytes v_length v_place v_fault v_teller v_word v_bytes) sz)) (D : va_G) (cI cJ cZ cS : ClassId) (tb : Nat) (a_t a_bytes : Nat) (sz : Nat) (v_length : Int32) (v_place : Int32) (v_fault : Int32) (v_teller : Int32) (v_word : Int32) (v_bytes : Nat → Int32) (x1 : Int32) (rr : Int64) (kk' : Int32 × Int32) (hf : fX2_unit gX2_anyOf gX2_unit v_length v_place v_fault v_teller v_word v_bytes x1 = some (rr, kk')) : Met l yX2_unit (Cond.code yX2_unit cX2_unit 3 (some .long) :: wA) (rX2_unit (dd + 1)) (q_Pre D cI cJ cZ cS tb [.ref a_t, .int x1] sz (wX2_unit cI cJ cZ cS a_t a_bytes v_length v_place v_fault v_teller v_word v_bytes)) (q_Rl D rr (va_A (wX2_unit cI cJ cZ cS a_t a_bytes v_length v_place v_fault v_teller v_word v_bytes) sz) ((fun k : Int32 × Int32 => (wX2_unit cI cJ cZ cS a_t a_bytes v_length k.1 k.2 v_teller v_word v_bytes)) kk')) 0 0 (va_A (wX2_unit cI cJ cZ cS a_t a_bytes v_length v_place v_fault v_teller v_word v_bytes) sz) := by
  refine q_enter (Qf := fun A => (q_Rl D rr A ((fun k : Int32 × Int32 => (wX2_unit cI cJ cZ cS a_t a_bytes v_length k.1 k.2 v_teller v_word v_bytes)) kk'))) (by decide) rfl (Nat.le_of_ble_eq_true rfl) ?_
  intro p e s m below meth c A ls fx hname h hl
  have hx := fx.1
  have hb := fx.2.1
  have hl : lv_has ls 3 [(0, .ref a_t), (1, .int x1)] := hl
  generalize h9 : s.heap = H at h ⊢
  clear h9
  generalize h9 : ([] : List Loc) = locs at h ⊢
  clear h9
  unfold fX2_unit at hf
  refine lv_aload_n hx hb dX2_unit_0 rfl (lv_at hl 0 rfl) ?_
  obtain ⟨r18, k18, hg, hf⟩ := bR_inv hf
  refine q_ci (rest := []) (ws' := (wX2_unit cI cJ cZ cS a_t a_bytes v_length v_place v_fault v_teller v_word v_bytes)) (w1 := (wX2_sign cI cJ cZ cS a_t a_bytes v_length v_place v_fault v_teller v_word v_bytes)) fx h [0, 1] rfl rfl rfl rfl (q_runV fx h hl.1 [0, 1] rfl rfl (tX2_sign l D cI cJ cZ cS tb a_t a_bytes H.size v_length v_place v_fault v_teller v_word v_bytes r18 k18 hg) mvX2_sign k_290 ⟨rfl, rfl⟩ (room_X2_unit_X2_sign dd) rfl rfl rfl rfl (Nat.le_of_ble_eq_true rfl) dX2_unit_1 ⟨Nat.le_of_ble_eq_true rfl, Nat.le_of_ble_eq_true rfl⟩) (fun H locs h => ?_)
  refine lv_istore_n (lv' := [(2, .int r18), (0, .ref a_t), (1, .int x1)]) hx hb dX2_unit_4 rfl hl (by decide) rfl (fun ls hl => ?_)
  refine lv_iload_n hx hb dX2_unit_5 rfl (lv_at hl 0 rfl) ?_
  refine lv_bipush (v := 97) hx hb dX2_unit_6 (by decide) ?_
  refine lv_icmp_lt (tgt := 36) hx hb dX2_unit_8 (by decide) (fun c19 => ?_) (fun c19 => ?_)
  · have hf := it_t c19 hf
    exact LX2_unit_36 hgX2_anyOf hgX2_unit fx h (lv_sub hl [1, 2] rfl) hf
  have hf := it_f c19 hf
  refine lv_iload_n hx hb dX2_unit_11 rfl (lv_at hl 0 rfl) ?_
  refine lv_bipush (v := 104) hx hb dX2_unit_12 (by decide) ?_
  refine lv_icmp_gt (tgt := 36) hx hb dX2_unit_14 (by decide) (fun c20 => ?_) (fun c20 => ?_)
  · have hf := it_t c20 hf
    exact LX2_unit_36 hgX2_anyOf hgX2_unit fx h (lv_sub hl [1, 2] rfl) hf
  have hf := it_f c20 hf
  refine lv_aload_n hx hb dX2_unit_17 rfl (lv_at hl 1 rfl) ?_
  refine lv_dup hx hb dX2_unit_18 rfl ?_
  refine q_get (v := .int v_place) fx inX2 h 0 rfl rfl 2 (by decide) k_120 rfl dX2_unit_19 ?_
  refine lv_iconst (v := 1) hx hb dX2_unit_22 (by decide) ?_
  refine lv_iadd hx hb dX2_unit_23 ?_
  obtain ⟨u21, eu21, hf⟩ := nm_inv hf
  refine lv_eqi eu21 ?_
  refine q_put (v := .int u21) (ws' := (wX2_unit cI cJ cZ cS a_t a_bytes v_length u21 v_fault v_teller v_word v_bytes)) fx inX2 tyX2 tyX2_ok nmX2 h 0 rfl rfl 2 (by decide) k_120 rfl rfl rfl (Nat.le_of_ble_eq_true rfl) rfl dX2_unit_24 (fun H locs h => ?_)
  refine lv_aload_n hx hb dX2_unit_27 rfl (lv_at hl 1 rfl) ?_
  refine lv_iload_n hx hb dX2_unit_28 rfl (lv_at hl 0 rfl) ?_
  refine lv_bipush (v := 97) hx hb dX2_unit_29 (by decide) ?_
  refine lv_isub hx hb dX2_unit_31 ?_
  obtain ⟨r22, k22, hg, hf⟩ := bR_inv hf
  refine q_cl (rest := []) (ws' := (wX2_unit cI cJ cZ cS a_t a_bytes v_length u21 v_fault v_teller v_word v_bytes)) (w1 := (wX2_listsWith cI cJ cZ cS a_t a_bytes v_length u21 v_fault v_teller v_word)) fx h [0] rfl rfl rfl rfl (q_runV fx h hl.1 [0] rfl rfl (tX2_listsWith l D cI cJ cZ cS tb a_t a_bytes H.size v_length u21 v_fault v_teller v_word (r18 - 97) r22 k22 hg) mvX2_listsWith k_294 ⟨rfl, rfl⟩ (room_X2_unit_X2_listsWith dd) rfl rfl rfl rfl (Nat.le_of_ble_eq_true rfl) dX2_unit_32 ⟨Nat.le_of_ble_eq_true rfl, Nat.le_of_ble_eq_true rfl⟩) (fun H locs h => ?_)
  exact q_retl (fun k : Int32 × Int32 => (wX2_unit cI cJ cZ cS a_t a_bytes v_length k.1 k.2 v_teller v_word v_bytes)) fx hf h dX2_unit_35
/-! X2_allOf -/
def fX2_allOf_9 (gX2_unit : Int32 → Int32 → Int32 → Int32 → Int32 → (Nat → Int32) → Int32 → Option (Int64 × Int32 × Int32)) (v_length : Int32) (v_teller : Int32) (v_word : Int32) (v_bytes : Nat → Int32) (ag9 : Int32 → Int32 → Int32 → Int64 → Int32 → Option (Int64 × Int32 × Int32)) (v_place : Int32) (v_fault : Int32) (y1 : Int32) (y2 : Int64) (y4 : Int32) : Option (Int64 × Int32 × Int32) :=
  (if (60 : Int32) ≤ y4 then (
  some (y2, (v_place, v_fault)))
  else (
  bR (fX2_passes v_length v_place v_fault v_bytes 38) (fun r2 k2 =>
  (if r2 = 0 then (
  some (y2, (k2, v_fault)))
  else (
  bR (gX2_unit v_length k2 v_fault v_teller v_word v_bytes y1) (fun r4 k4 =>
  nm (y2 &&& r4) (fun u5 =>
  nm (y4 + 1) (fun u6 =>
  ag9 k4.1 k4.2 y1 u5 u6))))))))
set_option maxRecDepth 100000 in
set_option maxHeartbeats 4000000 in
theorem LX2_allOf_9 {p : Program} {l : Launch} {e : Env} {s : State} {m : MethodId} {args : Array Value} {below : List Frame} {meth : Method} {c : Code} {D : va_G} {cI cJ cZ cS : ClassId} {tb : Nat} {A : Nat → Prop} {a_t a_bytes : Nat} {v_length : Int32} {v_teller : Int32} {v_word : Int32} {v_bytes : Nat → Int32} {rr : Int64} {kk' : Int32 × Int32} {dd : Nat} {gX2_unit : Int32 → Int32 → Int32 → Int32 → Int32 → (Nat → Int32) → Int32 → Option (Int64 × Int32 × Int32)} (hgX2_unit : ∀ (D : va_G) (cI cJ cZ cS : ClassId) (tb : Nat) (a_t a_bytes : Nat) (sz : Nat) (v_length : Int32) (v_place : Int32) (v_fault : Int32) (v_teller : Int32) (v_word : Int32) (v_bytes : Nat → Int32) (x1 : Int32) (rr : Int64) (kk' : Int32 × Int32) (hf : gX2_unit v_length v_place v_fault v_teller v_word v_bytes x1 = some (rr, kk')), Met l yX2_unit (Cond.code yX2_unit cX2_unit 3 (some .long) :: wA) (rX2_unit dd) (q_Pre D cI cJ cZ cS tb [.ref a_t, .int x1] sz (wX2_unit cI cJ cZ cS a_t a_bytes v_length v_place v_fault v_teller v_word v_bytes)) (q_Rl D rr (va_A (wX2_unit cI cJ cZ cS a_t a_bytes v_length v_place v_fault v_teller v_word v_bytes) sz) ((fun k : Int32 × Int32 => (wX2_unit cI cJ cZ cS a_t a_bytes v_length k.1 k.2 v_teller v_word v_bytes)) kk')) 0 0 (va_A (wX2_unit cI cJ cZ cS a_t a_bytes v_length v_place v_fault v_teller v_word v_bytes) sz)) (fx : q_Fx p s m args meth c cX2_allOf 5 RX2 (some .long) D cI cJ cZ cS tb A) {ag9 : Int32 → Int32 → Int32 → Int64 → Int32 → Option (Int64 × Int32 × Int32)} (hag9 : ∀ {v_place : Int32} {v_fault : Int32} {y1 : Int32} {y2 : Int64} {y4 : Int32} {H : Heap} {locs : List Loc} {ls : Array Slot}, q_H D A s (wX2_allOf cI cJ cZ cS a_t a_bytes v_length v_place v_fault v_teller v_word v_bytes) H locs → lv_has ls 5 [(0, .ref a_t), (1, .int y1), (2, .long y2), (4, .int y4)] → ag9 v_place v_fault y1 y2 y4 = some (rr, kk') → W p l e (rX2_allOf dd) s m args below meth c H locs 0 0 (MQ below (q_Rl D rr A ((fun k : Int32 × Int32 => (wX2_allOf cI cJ cZ cS a_t a_bytes v_length k.1 k.2 v_teller v_word v_bytes)) kk')) args s 0 0 A) (F0 m 9 ls [])) : ∀ {v_place : Int32} {v_fault : Int32} {y1 : Int32} {y2 : Int64} {y4 : Int32} {H : Heap} {locs : List Loc} {ls : Array Slot}, q_H D A s (wX2_allOf cI cJ cZ cS a_t a_bytes v_length v_place v_fault v_teller v_word v_bytes) H locs → lv_has ls 5 [(0, .ref a_t), (1, .int y1), (2, .long y2), (4, .int y4)] → fX2_allOf_9 gX2_unit v_length v_teller v_word v_bytes ag9 v_place v_fault y1 y2 y4 = some (rr, kk') → W p l e (rX2_allOf dd) s m args below meth c H locs 0 0 (MQ below (q_Rl D rr A ((fun k : Int32 × Int32 => (wX2_allOf cI cJ cZ cS a_t a_bytes v_length k.1 k.2 v_teller v_word v_bytes)) kk')) args s 0 0 A) (F0 m 9 ls []) := by
  intro v_place v_fault y1 y2 y4 H locs ls h hl hf
  have hx := fx.1
  have hb := fx.2.1
  unfold fX2_allOf_9 at hf
  refine lv_iload hx hb dX2_allOf_9 (lv_at hl 3 rfl) ?_
  refine lv_bipush (v := 60) hx hb dX2_allOf_11 (by decide) ?_
  refine lv_icmp_ge (tgt := 39) hx hb dX2_allOf_13 (by decide) (fun c1 => ?_) (fun c1 => ?_)
  · have hf := it_t c1 hf
    refine lv_lload_n hx hb dX2_allOf_39 rfl (lv_at hl 2 rfl) ?_
    exact q_retl (fun k : Int32 × Int32 => (wX2_allOf cI cJ cZ cS a_t a_bytes v_length k.1 k.2 v_teller v_word v_bytes)) fx hf h dX2_allOf_40
  have hf := it_f c1 hf
  refine lv_aload_n hx hb dX2_allOf_16 rfl (lv_at hl 0 rfl) ?_
  refine lv_bipush (v := 38) hx hb dX2_allOf_17 (by decide) ?_
  obtain ⟨r2, k2, hg, hf⟩ := bR_inv hf
  refine q_ci (rest := []) (ws' := (wX2_allOf cI cJ cZ cS a_t a_bytes v_length k2 v_fault v_teller v_word v_bytes)) (w1 := (wX2_passes cI cJ cZ cS a_t a_bytes v_length k2 v_fault v_teller v_word v_bytes)) fx h [0, 1] rfl rfl rfl rfl (q_runV fx h hl.1 [0, 1] rfl rfl (tX2_passes l D cI cJ cZ cS tb a_t a_bytes H.size v_length v_place v_fault v_teller v_word v_bytes 38 r2 k2 hg) mvX2_passes k_304 ⟨rfl, rfl⟩ (room_X2_allOf_X2_passes dd) rfl rfl rfl rfl (Nat.le_of_ble_eq_true rfl) dX2_allOf_19 ⟨Nat.le_of_ble_eq_true rfl, Nat.le_of_ble_eq_true rfl⟩) (fun H locs h => ?_)
  refine lv_if_eq (tgt := 39) hx hb dX2_allOf_22 (by decide) (fun c3 => ?_) (fun c3 => ?_)
  · have hf := it_t c3 hf
    refine lv_lload_n hx hb dX2_allOf_39 rfl (lv_at hl 2 rfl) ?_
    exact q_retl (fun k : Int32 × Int32 => (wX2_allOf cI cJ cZ cS a_t a_bytes v_length k.1 k.2 v_teller v_word v_bytes)) fx hf h dX2_allOf_40
  have hf := it_f c3 hf
  refine lv_lload_n hx hb dX2_allOf_25 rfl (lv_at hl 2 rfl) ?_
  refine lv_aload_n hx hb dX2_allOf_26 rfl (lv_at hl 0 rfl) ?_
  refine lv_iload_n hx hb dX2_allOf_27 rfl (lv_at hl 1 rfl) ?_
  obtain ⟨r4, k4, hg, hf⟩ := bR_inv hf
  refine q_cl (rest := [.long y2]) (ws' := (wX2_allOf cI cJ cZ cS a_t a_bytes v_length k4.1 k4.2 v_teller v_word v_bytes)) (w1 := (wX2_unit cI cJ cZ cS a_t a_bytes v_length k4.1 k4.2 v_teller v_word v_bytes)) fx h [0, 1] rfl rfl rfl rfl (q_runV fx h hl.1 [0, 1] rfl rfl (hgX2_unit D cI cJ cZ cS tb a_t a_bytes H.size v_length k2 v_fault v_teller v_word v_bytes y1 r4 k4 hg) mvX2_unit k_286 ⟨rfl, rfl⟩ (room_X2_allOf_X2_unit dd) rfl rfl rfl rfl (Nat.le_of_ble_eq_true rfl) dX2_allOf_28 ⟨Nat.le_of_ble_eq_true rfl, Nat.le_of_ble_eq_true rfl⟩) (fun H locs h => ?_)
  refine lv_land hx hb dX2_allOf_31 ?_
  obtain ⟨u5, eu5, hf⟩ := nm_inv hf
  refine lv_eql eu5 ?_
  refine lv_lstore_n (lv' := [(2, .long u5), (0, .ref a_t), (1, .int y1), (4, .int y4)]) hx hb dX2_allOf_32 rfl hl (by decide) rfl (fun ls hl => ?_)
  obtain ⟨u6, eu6, hf⟩ := nm_inv hf
  refine lv_iinc (v := u6) (lv' := [(4, .int u6), (2, .long u5), (0, .ref a_t), (1, .int y1)]) hx hb dX2_allOf_33 hl (k := 3) rfl (by rw [eu6]; rfl) (by decide) rfl (fun ls hl => ?_)
  refine lv_goto (tgt := 9) hx hb dX2_allOf_36 (by decide) ?_
  exact hag9 h (lv_sub hl [2, 3, 1, 0] rfl) hf
set_option maxRecDepth 100000 in
theorem EX2_allOf_9 {p : Program} {l : Launch} {e : Env} {s : State} {m : MethodId} {args : Array Value} {below : List Frame} {meth : Method} {c : Code} {D : va_G} {cI cJ cZ cS : ClassId} {tb : Nat} {A : Nat → Prop} {a_t a_bytes : Nat} {v_length : Int32} {v_teller : Int32} {v_word : Int32} {v_bytes : Nat → Int32} {rr : Int64} {kk' : Int32 × Int32} {dd : Nat} {gX2_unit : Int32 → Int32 → Int32 → Int32 → Int32 → (Nat → Int32) → Int32 → Option (Int64 × Int32 × Int32)} (hgX2_unit : ∀ (D : va_G) (cI cJ cZ cS : ClassId) (tb : Nat) (a_t a_bytes : Nat) (sz : Nat) (v_length : Int32) (v_place : Int32) (v_fault : Int32) (v_teller : Int32) (v_word : Int32) (v_bytes : Nat → Int32) (x1 : Int32) (rr : Int64) (kk' : Int32 × Int32) (hf : gX2_unit v_length v_place v_fault v_teller v_word v_bytes x1 = some (rr, kk')), Met l yX2_unit (Cond.code yX2_unit cX2_unit 3 (some .long) :: wA) (rX2_unit dd) (q_Pre D cI cJ cZ cS tb [.ref a_t, .int x1] sz (wX2_unit cI cJ cZ cS a_t a_bytes v_length v_place v_fault v_teller v_word v_bytes)) (q_Rl D rr (va_A (wX2_unit cI cJ cZ cS a_t a_bytes v_length v_place v_fault v_teller v_word v_bytes) sz) ((fun k : Int32 × Int32 => (wX2_unit cI cJ cZ cS a_t a_bytes v_length k.1 k.2 v_teller v_word v_bytes)) kk')) 0 0 (va_A (wX2_unit cI cJ cZ cS a_t a_bytes v_length v_place v_fault v_teller v_word v_bytes) sz)) (fx : q_Fx p s m args meth c cX2_allOf 5 RX2 (some .long) D cI cJ cZ cS tb A) : ∀ (n : Nat), ∀ {v_place : Int32} {v_fault : Int32} {y1 : Int32} {y2 : Int64} {y4 : Int32} {H : Heap} {locs : List Loc} {ls : Array Slot}, q_H D A s (wX2_allOf cI cJ cZ cS a_t a_bytes v_length v_place v_fault v_teller v_word v_bytes) H locs → lv_has ls 5 [(0, .ref a_t), (1, .int y1), (2, .long y2), (4, .int y4)] → ll5 (fX2_allOf_9 gX2_unit v_length v_teller v_word v_bytes) n v_place v_fault y1 y2 y4 = some (rr, kk') → W p l e (rX2_allOf dd) s m args below meth c H locs 0 0 (MQ below (q_Rl D rr A ((fun k : Int32 × Int32 => (wX2_allOf cI cJ cZ cS a_t a_bytes v_length k.1 k.2 v_teller v_word v_bytes)) kk')) args s 0 0 A) (F0 m 9 ls []) := by
  intro n
  induction n with
  | zero => intro v_place v_fault y1 y2 y4 H locs ls h hl hf; exact (ll5_z hf).elim
  | succ n ih => intro v_place v_fault y1 y2 y4 H locs ls h hl hf; exact LX2_allOf_9 hgX2_unit fx ih h hl (ll5_s hf)
def fX2_allOf (gX2_unit : Int32 → Int32 → Int32 → Int32 → Int32 → (Nat → Int32) → Int32 → Option (Int64 × Int32 × Int32)) (v_length : Int32) (v_place : Int32) (v_fault : Int32) (v_teller : Int32) (v_word : Int32) (v_bytes : Nat → Int32) (x1 : Int32) : Option (Int64 × Int32 × Int32) :=
  bR (gX2_unit v_length v_place v_fault v_teller v_word v_bytes x1) (fun r7 k7 =>
  ll5 (fX2_allOf_9 gX2_unit v_length v_teller v_word v_bytes) qF k7.1 k7.2 x1 r7 0)
set_option maxRecDepth 100000 in
set_option maxHeartbeats 4000000 in
theorem uX2_allOf (dd : Nat) (l : Launch) {gX2_unit : Int32 → Int32 → Int32 → Int32 → Int32 → (Nat → Int32) → Int32 → Option (Int64 × Int32 × Int32)} (hgX2_unit : ∀ (D : va_G) (cI cJ cZ cS : ClassId) (tb : Nat) (a_t a_bytes : Nat) (sz : Nat) (v_length : Int32) (v_place : Int32) (v_fault : Int32) (v_teller : Int32) (v_word : Int32) (v_bytes : Nat → Int32) (x1 : Int32) (rr : Int64) (kk' : Int32 × Int32) (hf : gX2_unit v_length v_place v_fault v_teller v_word v_bytes x1 = some (rr, kk')), Met l yX2_unit (Cond.code yX2_unit cX2_unit 3 (some .long) :: wA) (rX2_unit dd) (q_Pre D cI cJ cZ cS tb [.ref a_t, .int x1] sz (wX2_unit cI cJ cZ cS a_t a_bytes v_length v_place v_fault v_teller v_word v_bytes)) (q_Rl D rr (va_A (wX2_unit cI cJ cZ cS a_t a_bytes v_length v_place v_fault v_teller v_word v_bytes) sz) ((fun k : Int32 × Int32 => (wX2_unit cI cJ cZ cS a_t a_bytes v_length k.1 k.2 v_teller v_word v_bytes)) kk')) 0 0 (va_A (wX2_unit cI cJ cZ cS a_t a_bytes v_length v_place v_fault v_teller v_word v_bytes) sz)) (D : va_G) (cI cJ cZ cS : ClassId) (tb : Nat) (a_t a_bytes : Nat) (sz : Nat) (v_length : Int32) (v_place : Int32) (v_fault : Int32) (v_teller : Int32) (v_word : Int32) (v_bytes : Nat → Int32) (x1 : Int32) (rr : Int64) (kk' : Int32 × Int32) (hf : fX2_allOf gX2_unit v_length v_place v_fault v_teller v_word v_bytes x1 = some (rr, kk')) : Met l yX2_allOf (Cond.code yX2_allOf cX2_allOf 5 (some .long) :: wA) (rX2_allOf dd) (q_Pre D cI cJ cZ cS tb [.ref a_t, .int x1] sz (wX2_allOf cI cJ cZ cS a_t a_bytes v_length v_place v_fault v_teller v_word v_bytes)) (q_Rl D rr (va_A (wX2_allOf cI cJ cZ cS a_t a_bytes v_length v_place v_fault v_teller v_word v_bytes) sz) ((fun k : Int32 × Int32 => (wX2_allOf cI cJ cZ cS a_t a_bytes v_length k.1 k.2 v_teller v_word v_bytes)) kk')) 0 0 (va_A (wX2_allOf cI cJ cZ cS a_t a_bytes v_length v_place v_fault v_teller v_word v_bytes) sz) := by
  refine q_enter (Qf := fun A => (q_Rl D rr A ((fun k : Int32 × Int32 => (wX2_allOf cI cJ cZ cS a_t a_bytes v_length k.1 k.2 v_teller v_word v_bytes)) kk'))) (by decide) rfl (Nat.le_of_ble_eq_true rfl) ?_
  intro p e s m below meth c A ls fx hname h hl
  have hx := fx.1
  have hb := fx.2.1
  have hl : lv_has ls 5 [(0, .ref a_t), (1, .int x1)] := hl
  generalize h9 : s.heap = H at h ⊢
  clear h9
  generalize h9 : ([] : List Loc) = locs at h ⊢
  clear h9
  unfold fX2_allOf at hf
  refine lv_aload_n hx hb dX2_allOf_0 rfl (lv_at hl 0 rfl) ?_
  refine lv_iload_n hx hb dX2_allOf_1 rfl (lv_at hl 1 rfl) ?_
  obtain ⟨r7, k7, hg, hf⟩ := bR_inv hf
  refine q_cl (rest := []) (ws' := (wX2_allOf cI cJ cZ cS a_t a_bytes v_length k7.1 k7.2 v_teller v_word v_bytes)) (w1 := (wX2_unit cI cJ cZ cS a_t a_bytes v_length k7.1 k7.2 v_teller v_word v_bytes)) fx h [0, 1] rfl rfl rfl rfl (q_runV fx h hl.1 [0, 1] rfl rfl (hgX2_unit D cI cJ cZ cS tb a_t a_bytes H.size v_length v_place v_fault v_teller v_word v_bytes x1 r7 k7 hg) mvX2_unit k_286 ⟨rfl, rfl⟩ (room_X2_allOf_X2_unit dd) rfl rfl rfl rfl (Nat.le_of_ble_eq_true rfl) dX2_allOf_2 ⟨Nat.le_of_ble_eq_true rfl, Nat.le_of_ble_eq_true rfl⟩) (fun H locs h => ?_)
  refine lv_lstore_n (lv' := [(2, .long r7), (0, .ref a_t), (1, .int x1)]) hx hb dX2_allOf_5 rfl hl (by decide) rfl (fun ls hl => ?_)
  refine lv_iconst (v := 0) hx hb dX2_allOf_6 (by decide) ?_
  refine lv_istore (lv' := [(4, .int 0), (2, .long r7), (0, .ref a_t), (1, .int x1)]) hx hb dX2_allOf_7 hl (by decide) rfl (fun ls hl => ?_)
  exact EX2_allOf_9 hgX2_unit fx qF h (lv_sub hl [2, 3, 1, 0] rfl) hf
/-! X2_anyOf -/
def fX2_anyOf_9 (gX2_allOf : Int32 → Int32 → Int32 → Int32 → Int32 → (Nat → Int32) → Int32 → Option (Int64 × Int32 × Int32)) (v_length : Int32) (v_teller : Int32) (v_word : Int32) (v_bytes : Nat → Int32) (ag9 : Int32 → Int32 → Int32 → Int64 → Int32 → Option (Int64 × Int32 × Int32)) (v_place : Int32) (v_fault : Int32) (y1 : Int32) (y2 : Int64) (y4 : Int32) : Option (Int64 × Int32 × Int32) :=
  (if (60 : Int32) ≤ y4 then (
  some (y2, (v_place, v_fault)))
  else (
  bR (fX2_passes v_length v_place v_fault v_bytes 124) (fun r2 k2 =>
  (if r2 = 0 then (
  some (y2, (k2, v_fault)))
  else (
  bR (gX2_allOf v_length k2 v_fault v_teller v_word v_bytes y1) (fun r4 k4 =>
  nm (y2 ||| r4) (fun u5 =>
  nm (y4 + 1) (fun u6 =>
  ag9 k4.1 k4.2 y1 u5 u6))))))))
set_option maxRecDepth 100000 in
set_option maxHeartbeats 4000000 in
theorem LX2_anyOf_9 {p : Program} {l : Launch} {e : Env} {s : State} {m : MethodId} {args : Array Value} {below : List Frame} {meth : Method} {c : Code} {D : va_G} {cI cJ cZ cS : ClassId} {tb : Nat} {A : Nat → Prop} {a_t a_bytes : Nat} {v_length : Int32} {v_teller : Int32} {v_word : Int32} {v_bytes : Nat → Int32} {rr : Int64} {kk' : Int32 × Int32} {dd : Nat} {gX2_allOf : Int32 → Int32 → Int32 → Int32 → Int32 → (Nat → Int32) → Int32 → Option (Int64 × Int32 × Int32)} (hgX2_allOf : ∀ (D : va_G) (cI cJ cZ cS : ClassId) (tb : Nat) (a_t a_bytes : Nat) (sz : Nat) (v_length : Int32) (v_place : Int32) (v_fault : Int32) (v_teller : Int32) (v_word : Int32) (v_bytes : Nat → Int32) (x1 : Int32) (rr : Int64) (kk' : Int32 × Int32) (hf : gX2_allOf v_length v_place v_fault v_teller v_word v_bytes x1 = some (rr, kk')), Met l yX2_allOf (Cond.code yX2_allOf cX2_allOf 5 (some .long) :: wA) (rX2_allOf dd) (q_Pre D cI cJ cZ cS tb [.ref a_t, .int x1] sz (wX2_allOf cI cJ cZ cS a_t a_bytes v_length v_place v_fault v_teller v_word v_bytes)) (q_Rl D rr (va_A (wX2_allOf cI cJ cZ cS a_t a_bytes v_length v_place v_fault v_teller v_word v_bytes) sz) ((fun k : Int32 × Int32 => (wX2_allOf cI cJ cZ cS a_t a_bytes v_length k.1 k.2 v_teller v_word v_bytes)) kk')) 0 0 (va_A (wX2_allOf cI cJ cZ cS a_t a_bytes v_length v_place v_fault v_teller v_word v_bytes) sz)) (fx : q_Fx p s m args meth c cX2_anyOf 5 RX2 (some .long) D cI cJ cZ cS tb A) {ag9 : Int32 → Int32 → Int32 → Int64 → Int32 → Option (Int64 × Int32 × Int32)} (hag9 : ∀ {v_place : Int32} {v_fault : Int32} {y1 : Int32} {y2 : Int64} {y4 : Int32} {H : Heap} {locs : List Loc} {ls : Array Slot}, q_H D A s (wX2_anyOf cI cJ cZ cS a_t a_bytes v_length v_place v_fault v_teller v_word v_bytes) H locs → lv_has ls 5 [(0, .ref a_t), (1, .int y1), (2, .long y2), (4, .int y4)] → ag9 v_place v_fault y1 y2 y4 = some (rr, kk') → W p l e (rX2_anyOf dd) s m args below meth c H locs 0 0 (MQ below (q_Rl D rr A ((fun k : Int32 × Int32 => (wX2_anyOf cI cJ cZ cS a_t a_bytes v_length k.1 k.2 v_teller v_word v_bytes)) kk')) args s 0 0 A) (F0 m 9 ls [])) : ∀ {v_place : Int32} {v_fault : Int32} {y1 : Int32} {y2 : Int64} {y4 : Int32} {H : Heap} {locs : List Loc} {ls : Array Slot}, q_H D A s (wX2_anyOf cI cJ cZ cS a_t a_bytes v_length v_place v_fault v_teller v_word v_bytes) H locs → lv_has ls 5 [(0, .ref a_t), (1, .int y1), (2, .long y2), (4, .int y4)] → fX2_anyOf_9 gX2_allOf v_length v_teller v_word v_bytes ag9 v_place v_fault y1 y2 y4 = some (rr, kk') → W p l e (rX2_anyOf dd) s m args below meth c H locs 0 0 (MQ below (q_Rl D rr A ((fun k : Int32 × Int32 => (wX2_anyOf cI cJ cZ cS a_t a_bytes v_length k.1 k.2 v_teller v_word v_bytes)) kk')) args s 0 0 A) (F0 m 9 ls []) := by
  intro v_place v_fault y1 y2 y4 H locs ls h hl hf
  have hx := fx.1
  have hb := fx.2.1
  unfold fX2_anyOf_9 at hf
  refine lv_iload hx hb dX2_anyOf_9 (lv_at hl 3 rfl) ?_
  refine lv_bipush (v := 60) hx hb dX2_anyOf_11 (by decide) ?_
  refine lv_icmp_ge (tgt := 39) hx hb dX2_anyOf_13 (by decide) (fun c1 => ?_) (fun c1 => ?_)
  · have hf := it_t c1 hf
    refine lv_lload_n hx hb dX2_anyOf_39 rfl (lv_at hl 2 rfl) ?_
    exact q_retl (fun k : Int32 × Int32 => (wX2_anyOf cI cJ cZ cS a_t a_bytes v_length k.1 k.2 v_teller v_word v_bytes)) fx hf h dX2_anyOf_40
  have hf := it_f c1 hf
  refine lv_aload_n hx hb dX2_anyOf_16 rfl (lv_at hl 0 rfl) ?_
  refine lv_bipush (v := 124) hx hb dX2_anyOf_17 (by decide) ?_
  obtain ⟨r2, k2, hg, hf⟩ := bR_inv hf
  refine q_ci (rest := []) (ws' := (wX2_anyOf cI cJ cZ cS a_t a_bytes v_length k2 v_fault v_teller v_word v_bytes)) (w1 := (wX2_passes cI cJ cZ cS a_t a_bytes v_length k2 v_fault v_teller v_word v_bytes)) fx h [0, 1] rfl rfl rfl rfl (q_runV fx h hl.1 [0, 1] rfl rfl (tX2_passes l D cI cJ cZ cS tb a_t a_bytes H.size v_length v_place v_fault v_teller v_word v_bytes 124 r2 k2 hg) mvX2_passes k_304 ⟨rfl, rfl⟩ (room_X2_anyOf_X2_passes dd) rfl rfl rfl rfl (Nat.le_of_ble_eq_true rfl) dX2_anyOf_19 ⟨Nat.le_of_ble_eq_true rfl, Nat.le_of_ble_eq_true rfl⟩) (fun H locs h => ?_)
  refine lv_if_eq (tgt := 39) hx hb dX2_anyOf_22 (by decide) (fun c3 => ?_) (fun c3 => ?_)
  · have hf := it_t c3 hf
    refine lv_lload_n hx hb dX2_anyOf_39 rfl (lv_at hl 2 rfl) ?_
    exact q_retl (fun k : Int32 × Int32 => (wX2_anyOf cI cJ cZ cS a_t a_bytes v_length k.1 k.2 v_teller v_word v_bytes)) fx hf h dX2_anyOf_40
  have hf := it_f c3 hf
  refine lv_lload_n hx hb dX2_anyOf_25 rfl (lv_at hl 2 rfl) ?_
  refine lv_aload_n hx hb dX2_anyOf_26 rfl (lv_at hl 0 rfl) ?_
  refine lv_iload_n hx hb dX2_anyOf_27 rfl (lv_at hl 1 rfl) ?_
  obtain ⟨r4, k4, hg, hf⟩ := bR_inv hf
  refine q_cl (rest := [.long y2]) (ws' := (wX2_anyOf cI cJ cZ cS a_t a_bytes v_length k4.1 k4.2 v_teller v_word v_bytes)) (w1 := (wX2_allOf cI cJ cZ cS a_t a_bytes v_length k4.1 k4.2 v_teller v_word v_bytes)) fx h [0, 1] rfl rfl rfl rfl (q_runV fx h hl.1 [0, 1] rfl rfl (hgX2_allOf D cI cJ cZ cS tb a_t a_bytes H.size v_length k2 v_fault v_teller v_word v_bytes y1 r4 k4 hg) mvX2_allOf k_282 ⟨rfl, rfl⟩ (room_X2_anyOf_X2_allOf dd) rfl rfl rfl rfl (Nat.le_of_ble_eq_true rfl) dX2_anyOf_28 ⟨Nat.le_of_ble_eq_true rfl, Nat.le_of_ble_eq_true rfl⟩) (fun H locs h => ?_)
  refine lv_lor hx hb dX2_anyOf_31 ?_
  obtain ⟨u5, eu5, hf⟩ := nm_inv hf
  refine lv_eql eu5 ?_
  refine lv_lstore_n (lv' := [(2, .long u5), (0, .ref a_t), (1, .int y1), (4, .int y4)]) hx hb dX2_anyOf_32 rfl hl (by decide) rfl (fun ls hl => ?_)
  obtain ⟨u6, eu6, hf⟩ := nm_inv hf
  refine lv_iinc (v := u6) (lv' := [(4, .int u6), (2, .long u5), (0, .ref a_t), (1, .int y1)]) hx hb dX2_anyOf_33 hl (k := 3) rfl (by rw [eu6]; rfl) (by decide) rfl (fun ls hl => ?_)
  refine lv_goto (tgt := 9) hx hb dX2_anyOf_36 (by decide) ?_
  exact hag9 h (lv_sub hl [2, 3, 1, 0] rfl) hf
set_option maxRecDepth 100000 in
theorem EX2_anyOf_9 {p : Program} {l : Launch} {e : Env} {s : State} {m : MethodId} {args : Array Value} {below : List Frame} {meth : Method} {c : Code} {D : va_G} {cI cJ cZ cS : ClassId} {tb : Nat} {A : Nat → Prop} {a_t a_bytes : Nat} {v_length : Int32} {v_teller : Int32} {v_word : Int32} {v_bytes : Nat → Int32} {rr : Int64} {kk' : Int32 × Int32} {dd : Nat} {gX2_allOf : Int32 → Int32 → Int32 → Int32 → Int32 → (Nat → Int32) → Int32 → Option (Int64 × Int32 × Int32)} (hgX2_allOf : ∀ (D : va_G) (cI cJ cZ cS : ClassId) (tb : Nat) (a_t a_bytes : Nat) (sz : Nat) (v_length : Int32) (v_place : Int32) (v_fault : Int32) (v_teller : Int32) (v_word : Int32) (v_bytes : Nat → Int32) (x1 : Int32) (rr : Int64) (kk' : Int32 × Int32) (hf : gX2_allOf v_length v_place v_fault v_teller v_word v_bytes x1 = some (rr, kk')), Met l yX2_allOf (Cond.code yX2_allOf cX2_allOf 5 (some .long) :: wA) (rX2_allOf dd) (q_Pre D cI cJ cZ cS tb [.ref a_t, .int x1] sz (wX2_allOf cI cJ cZ cS a_t a_bytes v_length v_place v_fault v_teller v_word v_bytes)) (q_Rl D rr (va_A (wX2_allOf cI cJ cZ cS a_t a_bytes v_length v_place v_fault v_teller v_word v_bytes) sz) ((fun k : Int32 × Int32 => (wX2_allOf cI cJ cZ cS a_t a_bytes v_length k.1 k.2 v_teller v_word v_bytes)) kk')) 0 0 (va_A (wX2_allOf cI cJ cZ cS a_t a_bytes v_length v_place v_fault v_teller v_word v_bytes) sz)) (fx : q_Fx p s m args meth c cX2_anyOf 5 RX2 (some .long) D cI cJ cZ cS tb A) : ∀ (n : Nat), ∀ {v_place : Int32} {v_fault : Int32} {y1 : Int32} {y2 : Int64} {y4 : Int32} {H : Heap} {locs : List Loc} {ls : Array Slot}, q_H D A s (wX2_anyOf cI cJ cZ cS a_t a_bytes v_length v_place v_fault v_teller v_word v_bytes) H locs → lv_has ls 5 [(0, .ref a_t), (1, .int y1), (2, .long y2), (4, .int y4)] → ll5 (fX2_anyOf_9 gX2_allOf v_length v_teller v_word v_bytes) n v_place v_fault y1 y2 y4 = some (rr, kk') → W p l e (rX2_anyOf dd) s m args below meth c H locs 0 0 (MQ below (q_Rl D rr A ((fun k : Int32 × Int32 => (wX2_anyOf cI cJ cZ cS a_t a_bytes v_length k.1 k.2 v_teller v_word v_bytes)) kk')) args s 0 0 A) (F0 m 9 ls []) := by
  intro n
  induction n with
  | zero => intro v_place v_fault y1 y2 y4 H locs ls h hl hf; exact (ll5_z hf).elim
  | succ n ih => intro v_place v_fault y1 y2 y4 H locs ls h hl hf; exact LX2_anyOf_9 hgX2_allOf fx ih h hl (ll5_s hf)
def fX2_anyOf (gX2_allOf : Int32 → Int32 → Int32 → Int32 → Int32 → (Nat → Int32) → Int32 → Option (Int64 × Int32 × Int32)) (v_length : Int32) (v_place : Int32) (v_fault : Int32) (v_teller : Int32) (v_word : Int32) (v_bytes : Nat → Int32) (x1 : Int32) : Option (Int64 × Int32 × Int32) :=
  bR (gX2_allOf v_length v_place v_fault v_teller v_word v_bytes x1) (fun r7 k7 =>
  ll5 (fX2_anyOf_9 gX2_allOf v_length v_teller v_word v_bytes) qF k7.1 k7.2 x1 r7 0)
set_option maxRecDepth 100000 in
set_option maxHeartbeats 4000000 in
theorem uX2_anyOf (dd : Nat) (l : Launch) {gX2_allOf : Int32 → Int32 → Int32 → Int32 → Int32 → (Nat → Int32) → Int32 → Option (Int64 × Int32 × Int32)} (hgX2_allOf : ∀ (D : va_G) (cI cJ cZ cS : ClassId) (tb : Nat) (a_t a_bytes : Nat) (sz : Nat) (v_length : Int32) (v_place : Int32) (v_fault : Int32) (v_teller : Int32) (v_word : Int32) (v_bytes : Nat → Int32) (x1 : Int32) (rr : Int64) (kk' : Int32 × Int32) (hf : gX2_allOf v_length v_place v_fault v_teller v_word v_bytes x1 = some (rr, kk')), Met l yX2_allOf (Cond.code yX2_allOf cX2_allOf 5 (some .long) :: wA) (rX2_allOf dd) (q_Pre D cI cJ cZ cS tb [.ref a_t, .int x1] sz (wX2_allOf cI cJ cZ cS a_t a_bytes v_length v_place v_fault v_teller v_word v_bytes)) (q_Rl D rr (va_A (wX2_allOf cI cJ cZ cS a_t a_bytes v_length v_place v_fault v_teller v_word v_bytes) sz) ((fun k : Int32 × Int32 => (wX2_allOf cI cJ cZ cS a_t a_bytes v_length k.1 k.2 v_teller v_word v_bytes)) kk')) 0 0 (va_A (wX2_allOf cI cJ cZ cS a_t a_bytes v_length v_place v_fault v_teller v_word v_bytes) sz)) (D : va_G) (cI cJ cZ cS : ClassId) (tb : Nat) (a_t a_bytes : Nat) (sz : Nat) (v_length : Int32) (v_place : Int32) (v_fault : Int32) (v_teller : Int32) (v_word : Int32) (v_bytes : Nat → Int32) (x1 : Int32) (rr : Int64) (kk' : Int32 × Int32) (hf : fX2_anyOf gX2_allOf v_length v_place v_fault v_teller v_word v_bytes x1 = some (rr, kk')) : Met l yX2_anyOf (Cond.code yX2_anyOf cX2_anyOf 5 (some .long) :: wA) (rX2_anyOf dd) (q_Pre D cI cJ cZ cS tb [.ref a_t, .int x1] sz (wX2_anyOf cI cJ cZ cS a_t a_bytes v_length v_place v_fault v_teller v_word v_bytes)) (q_Rl D rr (va_A (wX2_anyOf cI cJ cZ cS a_t a_bytes v_length v_place v_fault v_teller v_word v_bytes) sz) ((fun k : Int32 × Int32 => (wX2_anyOf cI cJ cZ cS a_t a_bytes v_length k.1 k.2 v_teller v_word v_bytes)) kk')) 0 0 (va_A (wX2_anyOf cI cJ cZ cS a_t a_bytes v_length v_place v_fault v_teller v_word v_bytes) sz) := by
  refine q_enter (Qf := fun A => (q_Rl D rr A ((fun k : Int32 × Int32 => (wX2_anyOf cI cJ cZ cS a_t a_bytes v_length k.1 k.2 v_teller v_word v_bytes)) kk'))) (by decide) rfl (Nat.le_of_ble_eq_true rfl) ?_
  intro p e s m below meth c A ls fx hname h hl
  have hx := fx.1
  have hb := fx.2.1
  have hl : lv_has ls 5 [(0, .ref a_t), (1, .int x1)] := hl
  generalize h9 : s.heap = H at h ⊢
  clear h9
  generalize h9 : ([] : List Loc) = locs at h ⊢
  clear h9
  unfold fX2_anyOf at hf
  refine lv_aload_n hx hb dX2_anyOf_0 rfl (lv_at hl 0 rfl) ?_
  refine lv_iload_n hx hb dX2_anyOf_1 rfl (lv_at hl 1 rfl) ?_
  obtain ⟨r7, k7, hg, hf⟩ := bR_inv hf
  refine q_cl (rest := []) (ws' := (wX2_anyOf cI cJ cZ cS a_t a_bytes v_length k7.1 k7.2 v_teller v_word v_bytes)) (w1 := (wX2_allOf cI cJ cZ cS a_t a_bytes v_length k7.1 k7.2 v_teller v_word v_bytes)) fx h [0, 1] rfl rfl rfl rfl (q_runV fx h hl.1 [0, 1] rfl rfl (hgX2_allOf D cI cJ cZ cS tb a_t a_bytes H.size v_length v_place v_fault v_teller v_word v_bytes x1 r7 k7 hg) mvX2_allOf k_282 ⟨rfl, rfl⟩ (room_X2_anyOf_X2_allOf dd) rfl rfl rfl rfl (Nat.le_of_ble_eq_true rfl) dX2_anyOf_2 ⟨Nat.le_of_ble_eq_true rfl, Nat.le_of_ble_eq_true rfl⟩) (fun H locs h => ?_)
  refine lv_lstore_n (lv' := [(2, .long r7), (0, .ref a_t), (1, .int x1)]) hx hb dX2_anyOf_5 rfl hl (by decide) rfl (fun ls hl => ?_)
  refine lv_iconst (v := 0) hx hb dX2_anyOf_6 (by decide) ?_
  refine lv_istore (lv' := [(4, .int 0), (2, .long r7), (0, .ref a_t), (1, .int x1)]) hx hb dX2_anyOf_7 hl (by decide) rfl (fun ls hl => ?_)
  exact EX2_anyOf_9 hgX2_allOf fx qF h (lv_sub hl [2, 3, 1, 0] rfl) hf
def dX2_unit : Nat → Int32 → Int32 → Int32 → Int32 → Int32 → (Nat → Int32) → Int32 → Option (Int64 × Int32 × Int32)
  | 0 => fun _ _ _ _ _ _ _ => none
  | d + 1 => fX2_unit (fX2_anyOf (fX2_allOf (dX2_unit d))) (dX2_unit d)
def dX2_allOf (d : Nat) : Int32 → Int32 → Int32 → Int32 → Int32 → (Nat → Int32) → Int32 → Option (Int64 × Int32 × Int32) := fX2_allOf (dX2_unit d)
def dX2_anyOf (d : Nat) : Int32 → Int32 → Int32 → Int32 → Int32 → (Nat → Int32) → Int32 → Option (Int64 × Int32 × Int32) := fX2_anyOf (dX2_allOf d)
theorem tX2_unit (dd : Nat) (l : Launch) : ∀ (D : va_G) (cI cJ cZ cS : ClassId) (tb : Nat) (a_t a_bytes : Nat) (sz : Nat) (v_length : Int32) (v_place : Int32) (v_fault : Int32) (v_teller : Int32) (v_word : Int32) (v_bytes : Nat → Int32) (x1 : Int32) (rr : Int64) (kk' : Int32 × Int32) (hf : dX2_unit dd v_length v_place v_fault v_teller v_word v_bytes x1 = some (rr, kk')), Met l yX2_unit (Cond.code yX2_unit cX2_unit 3 (some .long) :: wA) (rX2_unit dd) (q_Pre D cI cJ cZ cS tb [.ref a_t, .int x1] sz (wX2_unit cI cJ cZ cS a_t a_bytes v_length v_place v_fault v_teller v_word v_bytes)) (q_Rl D rr (va_A (wX2_unit cI cJ cZ cS a_t a_bytes v_length v_place v_fault v_teller v_word v_bytes) sz) ((fun k : Int32 × Int32 => (wX2_unit cI cJ cZ cS a_t a_bytes v_length k.1 k.2 v_teller v_word v_bytes)) kk')) 0 0 (va_A (wX2_unit cI cJ cZ cS a_t a_bytes v_length v_place v_fault v_teller v_word v_bytes) sz) := by
  induction dd with
  | zero => intro D cI cJ cZ cS tb a_t a_bytes sz v_length v_place v_fault v_teller v_word v_bytes x1 rr kk' hf; have h2 : (none : Option (Int64 × Int32 × Int32)) = some (rr, kk') := hf; cases h2
  | succ dd ih => exact uX2_unit dd l (uX2_anyOf dd l (uX2_allOf dd l ih)) ih
theorem tX2_allOf (dd : Nat) (l : Launch) : ∀ (D : va_G) (cI cJ cZ cS : ClassId) (tb : Nat) (a_t a_bytes : Nat) (sz : Nat) (v_length : Int32) (v_place : Int32) (v_fault : Int32) (v_teller : Int32) (v_word : Int32) (v_bytes : Nat → Int32) (x1 : Int32) (rr : Int64) (kk' : Int32 × Int32) (hf : dX2_allOf dd v_length v_place v_fault v_teller v_word v_bytes x1 = some (rr, kk')), Met l yX2_allOf (Cond.code yX2_allOf cX2_allOf 5 (some .long) :: wA) (rX2_allOf dd) (q_Pre D cI cJ cZ cS tb [.ref a_t, .int x1] sz (wX2_allOf cI cJ cZ cS a_t a_bytes v_length v_place v_fault v_teller v_word v_bytes)) (q_Rl D rr (va_A (wX2_allOf cI cJ cZ cS a_t a_bytes v_length v_place v_fault v_teller v_word v_bytes) sz) ((fun k : Int32 × Int32 => (wX2_allOf cI cJ cZ cS a_t a_bytes v_length k.1 k.2 v_teller v_word v_bytes)) kk')) 0 0 (va_A (wX2_allOf cI cJ cZ cS a_t a_bytes v_length v_place v_fault v_teller v_word v_bytes) sz) := uX2_allOf dd l (tX2_unit dd l)
theorem tX2_anyOf (dd : Nat) (l : Launch) : ∀ (D : va_G) (cI cJ cZ cS : ClassId) (tb : Nat) (a_t a_bytes : Nat) (sz : Nat) (v_length : Int32) (v_place : Int32) (v_fault : Int32) (v_teller : Int32) (v_word : Int32) (v_bytes : Nat → Int32) (x1 : Int32) (rr : Int64) (kk' : Int32 × Int32) (hf : dX2_anyOf dd v_length v_place v_fault v_teller v_word v_bytes x1 = some (rr, kk')), Met l yX2_anyOf (Cond.code yX2_anyOf cX2_anyOf 5 (some .long) :: wA) (rX2_anyOf dd) (q_Pre D cI cJ cZ cS tb [.ref a_t, .int x1] sz (wX2_anyOf cI cJ cZ cS a_t a_bytes v_length v_place v_fault v_teller v_word v_bytes)) (q_Rl D rr (va_A (wX2_anyOf cI cJ cZ cS a_t a_bytes v_length v_place v_fault v_teller v_word v_bytes) sz) ((fun k : Int32 × Int32 => (wX2_anyOf cI cJ cZ cS a_t a_bytes v_length k.1 k.2 v_teller v_word v_bytes)) kk')) 0 0 (va_A (wX2_anyOf cI cJ cZ cS a_t a_bytes v_length v_place v_fault v_teller v_word v_bytes) sz) := uX2_anyOf dd l (tX2_allOf dd l)
/-! X2_holdsBy -/
abbrev wX2_holdsBy (cI cJ cZ cS : ClassId) (a_t a_bytes : Nat) (v_length : Int32) (v_place : Int32) (v_fault : Int32) (v_teller : Int32) (v_word : Int32) (v_bytes : Nat → Int32) : va_W := [(a_t, .inr (2, [.ref a_bytes, .int v_length, .int v_place, .int v_fault, .int v_teller, .int v_word])), (a_bytes, .inl (cI, 60, .inl v_bytes))]
abbrev rX2_holdsBy : Room := { frames := 30, cells := 0, slots := 0, locals := 874 }
def fX2_holdsBy (v_length : Int32) (v_place : Int32) (v_fault : Int32) (v_teller : Int32) (v_word : Int32) (v_bytes : Nat → Int32) (x1 : Int32) (x2 : Int32) : Option (Int64 × Int32 × Int32 × Int32 × Int32) :=
  bR (dX2_anyOf 8 v_length 0 (-1) x1 x2 v_bytes 0) (fun r1 k1 =>
  (if v_length ≤ k1.1 then (
  some (r1, (k1.1, k1.2, x1, x2)))
  else (
  bR (fX2_fail k1.1 k1.2) (fun r3 k3 =>
  some (r1, (k1.1, k3, x1, x2))))))
set_option maxRecDepth 100000 in
set_option maxHeartbeats 4000000 in
theorem tX2_holdsBy (l : Launch) (D : va_G) (cI cJ cZ cS : ClassId) (tb : Nat) (a_t a_bytes : Nat) (sz : Nat) (v_length : Int32) (v_place : Int32) (v_fault : Int32) (v_teller : Int32) (v_word : Int32) (v_bytes : Nat → Int32) (x1 : Int32) (x2 : Int32) (rr : Int64) (kk' : Int32 × Int32 × Int32 × Int32) (hf : fX2_holdsBy v_length v_place v_fault v_teller v_word v_bytes x1 x2 = some (rr, kk')) : Met l yX2_holdsBy (Cond.code yX2_holdsBy cX2_holdsBy 5 (some .long) :: wA) rX2_holdsBy (q_Pre D cI cJ cZ cS tb [.ref a_t, .int x1, .int x2] sz (wX2_holdsBy cI cJ cZ cS a_t a_bytes v_length v_place v_fault v_teller v_word v_bytes)) (q_Rl D rr (va_A (wX2_holdsBy cI cJ cZ cS a_t a_bytes v_length v_place v_fault v_teller v_word v_bytes) sz) ((fun k : Int32 × Int32 × Int32 × Int32 => (wX2_holdsBy cI cJ cZ cS a_t a_bytes v_length k.1 k.2.1 k.2.2.1 k.2.2.2 v_bytes)) kk')) 0 0 (va_A (wX2_holdsBy cI cJ cZ cS a_t a_bytes v_length v_place v_fault v_teller v_word v_bytes) sz) := by
  refine q_enter (Qf := fun A => (q_Rl D rr A ((fun k : Int32 × Int32 × Int32 × Int32 => (wX2_holdsBy cI cJ cZ cS a_t a_bytes v_length k.1 k.2.1 k.2.2.1 k.2.2.2 v_bytes)) kk'))) (by decide) rfl (Nat.le_of_ble_eq_true rfl) ?_
  intro p e s m below meth c A ls fx hname h hl
  have hx := fx.1
  have hb := fx.2.1
  have hl : lv_has ls 5 [(0, .ref a_t), (1, .int x1), (2, .int x2)] := hl
  generalize h9 : s.heap = H at h ⊢
  clear h9
  generalize h9 : ([] : List Loc) = locs at h ⊢
  clear h9
  unfold fX2_holdsBy at hf
  refine lv_aload_n hx hb dX2_holdsBy_0 rfl (lv_at hl 0 rfl) ?_
  refine lv_iload_n hx hb dX2_holdsBy_1 rfl (lv_at hl 1 rfl) ?_
  refine q_put (v := .int x1) (ws' := (wX2_holdsBy cI cJ cZ cS a_t a_bytes v_length v_place v_fault x1 v_word v_bytes)) fx inX2 tyX2 tyX2_ok nmX2 h 0 rfl rfl 4 (by decide) k_123 rfl rfl rfl (Nat.le_of_ble_eq_true rfl) rfl dX2_holdsBy_2 (fun H locs h => ?_)
  refine lv_aload_n hx hb dX2_holdsBy_5 rfl (lv_at hl 0 rfl) ?_
  refine lv_iload_n hx hb dX2_holdsBy_6 rfl (lv_at hl 2 rfl) ?_
  refine q_put (v := .int x2) (ws' := (wX2_holdsBy cI cJ cZ cS a_t a_bytes v_length v_place v_fault x1 x2 v_bytes)) fx inX2 tyX2 tyX2_ok nmX2 h 0 rfl rfl 5 (by decide) k_124 rfl rfl rfl (Nat.le_of_ble_eq_true rfl) rfl dX2_holdsBy_7 (fun H locs h => ?_)
  refine lv_aload_n hx hb dX2_holdsBy_10 rfl (lv_at hl 0 rfl) ?_
  refine lv_iconst (v := 0) hx hb dX2_holdsBy_11 (by decide) ?_
  refine q_put (v := .int 0) (ws' := (wX2_holdsBy cI cJ cZ cS a_t a_bytes v_length 0 v_fault x1 x2 v_bytes)) fx inX2 tyX2 tyX2_ok nmX2 h 0 rfl rfl 2 (by decide) k_120 rfl rfl rfl (Nat.le_of_ble_eq_true rfl) rfl dX2_holdsBy_12 (fun H locs h => ?_)
  refine lv_aload_n hx hb dX2_holdsBy_15 rfl (lv_at hl 0 rfl) ?_
  refine lv_iconst (v := -1) hx hb dX2_holdsBy_16 (by decide) ?_
  refine q_put (v := .int (-1)) (ws' := (wX2_holdsBy cI cJ cZ cS a_t a_bytes v_length 0 (-1) x1 x2 v_bytes)) fx inX2 tyX2 tyX2_ok nmX2 h 0 rfl rfl 3 (by decide) k_121 rfl rfl rfl (Nat.le_of_ble_eq_true rfl) rfl dX2_holdsBy_17 (fun H locs h => ?_)
  refine lv_aload_n hx hb dX2_holdsBy_20 rfl (lv_at hl 0 rfl) ?_
  refine lv_iconst (v := 0) hx hb dX2_holdsBy_21 (by decide) ?_
  obtain ⟨r1, k1, hg, hf⟩ := bR_inv hf
  refine q_cl (rest := []) (ws' := (wX2_holdsBy cI cJ cZ cS a_t a_bytes v_length k1.1 k1.2 x1 x2 v_bytes)) (w1 := (wX2_anyOf cI cJ cZ cS a_t a_bytes v_length k1.1 k1.2 x1 x2 v_bytes)) fx h [0, 1] rfl rfl rfl rfl (q_runV fx h hl.1 [0, 1] rfl rfl (tX2_anyOf 8 l D cI cJ cZ cS tb a_t a_bytes H.size v_length 0 (-1) x1 x2 v_bytes 0 r1 k1 hg) mvX2_anyOf k_278 ⟨rfl, rfl⟩ ⟨Nat.le_of_ble_eq_true rfl, Nat.le_of_ble_eq_true rfl⟩ rfl rfl rfl rfl (Nat.le_of_ble_eq_true rfl) dX2_holdsBy_22 ⟨Nat.le_of_ble_eq_true rfl, Nat.le_of_ble_eq_true rfl⟩) (fun H locs h => ?_)
  refine lv_lstore_n (lv' := [(3, .long r1), (0, .ref a_t), (1, .int x1), (2, .int x2)]) hx hb dX2_holdsBy_25 rfl hl (by decide) rfl (fun ls hl => ?_)
  refine lv_aload_n hx hb dX2_holdsBy_26 rfl (lv_at hl 1 rfl) ?_
  refine q_get (v := .int k1.1) fx inX2 h 0 rfl rfl 2 (by decide) k_120 rfl dX2_holdsBy_27 ?_
  refine lv_aload_n hx hb dX2_holdsBy_30 rfl (lv_at hl 1 rfl) ?_
  refine q_get (v := .int v_length) fx inX2 h 0 rfl rfl 1 (by decide) k_118 rfl dX2_holdsBy_31 ?_
  refine lv_icmp_ge (tgt := 42) hx hb dX2_holdsBy_34 (by decide) (fun c2 => ?_) (fun c2 => ?_)
  · have hf := it_t c2 hf
    refine lv_lload_n hx hb dX2_holdsBy_42 rfl (lv_at hl 0 rfl) ?_
    exact q_retl (fun k : Int32 × Int32 × Int32 × Int32 => (wX2_holdsBy cI cJ cZ cS a_t a_bytes v_length k.1 k.2.1 k.2.2.1 k.2.2.2 v_bytes)) fx hf h dX2_holdsBy_43
  have hf := it_f c2 hf
  refine lv_aload_n hx hb dX2_holdsBy_37 rfl (lv_at hl 1 rfl) ?_
  obtain ⟨r3, k3, hg, hf⟩ := bR_inv hf
  refine q_cl (rest := []) (ws' := (wX2_holdsBy cI cJ cZ cS a_t a_bytes v_length k1.1 k3 x1 x2 v_bytes)) (w1 := (wX2_fail cI cJ cZ cS a_t a_bytes v_length k1.1 k3 x1 x2)) fx h [0] rfl rfl rfl rfl (q_runV fx h hl.1 [0] rfl rfl (tX2_fail l D cI cJ cZ cS tb a_t a_bytes H.size v_length k1.1 k1.2 x1 x2 r3 k3 hg) mvX2_fail k_313 ⟨rfl, rfl⟩ ⟨Nat.le_of_ble_eq_true rfl, Nat.le_of_ble_eq_true rfl⟩ rfl rfl rfl rfl (Nat.le_of_ble_eq_true rfl) dX2_holdsBy_38 ⟨Nat.le_of_ble_eq_true rfl, Nat.le_of_ble_eq_true rfl⟩) (fun H locs h => ?_)
  refine lv_pop2_2 hx hb dX2_holdsBy_41 rfl ?_
  refine lv_lload_n hx hb dX2_holdsBy_42 rfl (lv_at hl 0 rfl) ?_
  exact q_retl (fun k : Int32 × Int32 × Int32 × Int32 => (wX2_holdsBy cI cJ cZ cS a_t a_bytes v_length k.1 k.2.1 k.2.2.1 k.2.2.2 v_bytes)) fx hf h dX2_holdsBy_43
/-! X0_tell -/
abbrev wX0_tell (cI cJ cZ cS : ClassId) (a_t a_kinds a_costs a_terms a_known : Nat) (v_size : Int32) (v_list : Int32) (v_told : Int32) (v_terms : Nat → Int64) (v_known : Nat → Int32) : va_W := [(a_t, .inr (0, [.int v_size, .int v_list, .int v_told, .ref a_kinds, .ref a_costs, .ref a_terms, .ref a_known])), (a_terms, .inl (cJ, 32, .inr (.inl v_terms))), (a_known, .inl (cI, 256, .inl v_known))]
abbrev rX0_tell : Room := { frames := 1, cells := 0, slots := 0, locals := 23 }
def fX0_tell (v_told : Int32) (v_terms : Nat → Int64) (v_known : Nat → Int32) (x1 : Int32) (x2 : Int32) (x3 : Int64) : Option (Int32 × (Nat → Int64) × (Nat → Int32)) :=
  gIn ((x1 * 4) + x2) 32 (
  nm (v_told ||| (jshl 1 x1)) (fun u2 =>
  bV (fJ7_fill_53178 256 v_known (-1)) (fun k3 =>
  some (u2, (vp_updL v_terms ((x1 * 4) + x2).toNatClampNeg x3), k3))))
set_option maxRecDepth 100000 in
set_option maxHeartbeats 4000000 in
theorem tX0_tell (l : Launch) (D : va_G) (cI cJ cZ cS : ClassId) (tb : Nat) (a_t a_kinds a_costs a_terms a_known : Nat) (sz : Nat) (v_size : Int32) (v_list : Int32) (v_told : Int32) (v_terms : Nat → Int64) (v_known : Nat → Int32) (x1 : Int32) (x2 : Int32) (x3 : Int64) (kk' : Int32 × (Nat → Int64) × (Nat → Int32)) (hf : fX0_tell v_told v_terms v_known x1 x2 x3 = some kk') : Met l yX0_tell (Cond.code yX0_tell cX0_tell 5 none :: wA) rX0_tell (q_Pre D cI cJ cZ cS tb [.ref a_t, .int x1, .int x2, .long x3] sz (wX0_tell cI cJ cZ cS a_t a_kinds a_costs a_terms a_known v_size v_list v_told v_terms v_known)) (q_Rv D (va_A (wX0_tell cI cJ cZ cS a_t a_kinds a_costs a_terms a_known v_size v_list v_told v_terms v_known) sz) ((fun k : Int32 × (Nat → Int64) × (Nat → Int32) => (wX0_tell cI cJ cZ cS a_t a_kinds a_costs a_terms a_known v_size v_list k.1 k.2.1 k.2.2)) kk')) 0 0 (va_A (wX0_tell cI cJ cZ cS a_t a_kinds a_costs a_terms a_known v_size v_list v_told v_terms v_known) sz) := by
  refine q_enter (Qf := fun A => (q_Rv D A ((fun k : Int32 × (Nat → Int64) × (Nat → Int32) => (wX0_tell cI cJ cZ cS a_t a_kinds a_costs a_terms a_known v_size v_list k.1 k.2.1 k.2.2)) kk'))) (by decide) rfl (Nat.le_of_ble_eq_true rfl) ?_
  intro p e s m below meth c A ls fx hname h hl
  have hx := fx.1
  have hb := fx.2.1
  have hl : lv_has ls 5 [(0, .ref a_t), (1, .int x1), (2, .int x2), (3, .long x3)] := hl
  generalize h9 : s.heap = H at h ⊢
  clear h9
  generalize h9 : ([] : List Loc) = locs at h ⊢
  clear h9
  unfold fX0_tell at hf
  refine lv_aload_n hx hb dX0_tell_0 rfl (lv_at hl 0 rfl) ?_
  refine q_get (v := .ref a_terms) fx inX0 h 0 rfl rfl 5 (by decide) k_92 rfl dX0_tell_1 ?_
  refine lv_iload_n hx hb dX0_tell_4 rfl (lv_at hl 1 rfl) ?_
  refine lv_iconst (v := 4) hx hb dX0_tell_5 (by decide) ?_
  refine lv_imul hx hb dX0_tell_6 ?_
  refine lv_iload_n hx hb dX0_tell_7 rfl (lv_at hl 2 rfl) ?_
  refine lv_iadd hx hb dX0_tell_8 ?_
  refine lv_lload_n hx hb dX0_tell_9 rfl (lv_at hl 3 rfl) ?_
  obtain ⟨i1, hf⟩ := gIn_inv hf
  refine q_last (ws' := (wX0_tell cI cJ cZ cS a_t a_kinds a_costs a_terms a_known v_size v_list v_told (vp_updL v_terms ((x1 * 4) + x2).toNatClampNeg x3) v_known)) fx h 1 rfl i1 rfl dX0_tell_10 (fun H locs h => ?_)
  refine lv_aload_n hx hb dX0_tell_11 rfl (lv_at hl 0 rfl) ?_
  refine lv_dup hx hb dX0_tell_12 rfl ?_
  refine q_get (v := .int v_told) fx inX0 h 0 rfl rfl 2 (by decide) k_86 rfl dX0_tell_13 ?_
  refine lv_iconst (v := 1) hx hb dX0_tell_16 (by decide) ?_
  refine lv_iload_n hx hb dX0_tell_17 rfl (lv_at hl 1 rfl) ?_
  refine lv_ishl hx hb dX0_tell_18 ?_
  refine lv_ior hx hb dX0_tell_19 ?_
  obtain ⟨u2, eu2, hf⟩ := nm_inv hf
  refine lv_eqi eu2 ?_
  refine q_put (v := .int u2) (ws' := (wX0_tell cI cJ cZ cS a_t a_kinds a_costs a_terms a_known v_size v_list u2 (vp_updL v_terms ((x1 * 4) + x2).toNatClampNeg x3) v_known)) fx inX0 tyX0 tyX0_ok nmX0 h 0 rfl rfl 2 (by decide) k_86 rfl rfl rfl (Nat.le_of_ble_eq_true rfl) rfl dX0_tell_20 (fun H locs h => ?_)
  refine lv_aload_n hx hb dX0_tell_23 rfl (lv_at hl 0 rfl) ?_
  refine q_get (v := .ref a_known) fx inX0 h 0 rfl rfl 6 (by decide) k_93 rfl dX0_tell_24 ?_
  refine lv_iconst (v := -1) hx hb dX0_tell_27 (by decide) ?_
  obtain ⟨k3, hg, hf⟩ := bV_inv hf
  refine q_cv (rest := []) (ws' := (wX0_tell cI cJ cZ cS a_t a_kinds a_costs a_terms a_known v_size v_list u2 (vp_updL v_terms ((x1 * 4) + x2).toNatClampNeg x3) k3)) (w1 := (wJ7_fill_53178 cI cJ cZ cS 256 a_known k3)) fx h [2] rfl rfl rfl rfl (q_runS fx h hl.1 [2] rfl rfl (tJ7_fill_53178 l D cI cJ cZ cS tb 256 a_known H.size v_known (-1) k3 hg) msJ7_fill_53178 k_77 ⟨rfl, rfl⟩ ⟨Nat.le_of_ble_eq_true rfl, Nat.le_of_ble_eq_true rfl⟩ rfl rfl (Nat.le_of_ble_eq_true rfl) dX0_tell_28 ⟨Nat.le_of_ble_eq_true rfl, Nat.le_of_ble_eq_true rfl⟩) (fun H locs h => ?_)
  exact q_retv (fun k : Int32 × (Nat → Int64) × (Nat → Int32) => (wX0_tell cI cJ cZ cS a_t a_kinds a_costs a_terms a_known v_size v_list k.1 k.2.1 k.2.2)) fx hf h dX0_tell_31
