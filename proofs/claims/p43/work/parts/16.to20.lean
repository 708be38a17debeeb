section
/-! J7_fill_d0a16 -/
abbrev wJ7_fill_d0a16 (cI cJ cZ cS : ClassId) (n_p0 : Nat) (a_p0 : Nat) (v_p0 : Nat → Int64) : va_W := [(a_p0, .inl (cJ, n_p0, .inr (.inl v_p0)))]
abbrev rJ7_fill_d0a16 : Room := { frames := 0, cells := 0, slots := 0, locals := 0 }
def fJ7_fill_d0a16_6 (n_p0 : Nat) (ag6 : (Nat → Int64) → Int64 → Int32 → Int32 → Option ((Nat → Int64))) (v_p0 : Nat → Int64) (y1 : Int64) (y3 : Int32) (y4 : Int32) : Option ((Nat → Int64)) :=
  (if y4 ≤ y3 then (
  some v_p0)
  else (
  gIn y3 n_p0 (
  nm (y3 + 1) (fun u3 =>
  ag6 (vp_updL v_p0 y3.toNatClampNeg y1) y1 u3 y4))))
set_option maxRecDepth 100000 in
set_option maxHeartbeats 4000000 in
theorem LJ7_fill_d0a16_6 {p : Program} {l : Launch} {e : Env} {s : State} {m : MethodId} {args : Array Value} {below : List Frame} {meth : Method} {c : Code} {D : va_G} {cI cJ cZ cS : ClassId} {tb : Nat} {A : Nat → Prop} {n_p0 : Nat} {a_p0 : Nat} {kk' : (Nat → Int64)} (fx : q_Fx p s m args meth c cJ7_fill_d0a16 5 RJ7 none D cI cJ cZ cS tb A) {ag6 : (Nat → Int64) → Int64 → Int32 → Int32 → Option ((Nat → Int64))} (hag6 : ∀ {v_p0 : Nat → Int64} {y1 : Int64} {y3 : Int32} {y4 : Int32} {H : Heap} {locs : List Loc} {ls : Array Slot}, q_H D A s (wJ7_fill_d0a16 cI cJ cZ cS n_p0 a_p0 v_p0) H locs → lv_has ls 5 [(0, .ref a_p0), (1, .long y1), (3, .int y3), (4, .int y4)] → ag6 v_p0 y1 y3 y4 = some kk' → W p l e rJ7_fill_d0a16 s m args below meth c H locs 0 0 (MQ below (q_Rv D A ((fun k : (Nat → Int64) => (wJ7_fill_d0a16 cI cJ cZ cS n_p0 a_p0 k)) kk')) args s 0 0 A) (F0 m 6 ls [])) : ∀ {v_p0 : Nat → Int64} {y1 : Int64} {y3 : Int32} {y4 : Int32} {H : Heap} {locs : List Loc} {ls : Array Slot}, q_H D A s (wJ7_fill_d0a16 cI cJ cZ cS n_p0 a_p0 v_p0) H locs → lv_has ls 5 [(0, .ref a_p0), (1, .long y1), (3, .int y3), (4, .int y4)] → fJ7_fill_d0a16_6 n_p0 ag6 v_p0 y1 y3 y4 = some kk' → W p l e rJ7_fill_d0a16 s m args below meth c H locs 0 0 (MQ below (q_Rv D A ((fun k : (Nat → Int64) => (wJ7_fill_d0a16 cI cJ cZ cS n_p0 a_p0 k)) kk')) args s 0 0 A) (F0 m 6 ls []) := by
  intro v_p0 y1 y3 y4 H locs ls h hl hf
  have hx := fx.1
  have hb := fx.2.1
  unfold fJ7_fill_d0a16_6 at hf
  refine lv_iload_n hx hb dJ7_fill_d0a16_6 rfl (lv_at hl 2 rfl) ?_
  refine lv_iload hx hb dJ7_fill_d0a16_7 (lv_at hl 3 rfl) ?_
  refine lv_icmp_ge (tgt := 22) hx hb dJ7_fill_d0a16_9 (by decide) (fun c1 => ?_) (fun c1 => ?_)
  · have hf := it_t c1 hf
    exact q_retv (fun k : (Nat → Int64) => (wJ7_fill_d0a16 cI cJ cZ cS n_p0 a_p0 k)) fx hf h dJ7_fill_d0a16_22
  have hf := it_f c1 hf
  refine lv_aload_n hx hb dJ7_fill_d0a16_12 rfl (lv_at hl 0 rfl) ?_
  refine lv_iload_n hx hb dJ7_fill_d0a16_13 rfl (lv_at hl 2 rfl) ?_
  refine lv_lload_n hx hb dJ7_fill_d0a16_14 rfl (lv_at hl 1 rfl) ?_
  obtain ⟨i2, hf⟩ := gIn_inv hf
  refine q_last (ws' := (wJ7_fill_d0a16 cI cJ cZ cS n_p0 a_p0 (vp_updL v_p0 y3.toNatClampNeg y1))) fx h 0 rfl i2 rfl dJ7_fill_d0a16_15 (fun H locs h => ?_)
  obtain ⟨u3, eu3, hf⟩ := nm_inv hf
  refine lv_iinc (v := u3) (lv' := [(3, .int u3), (0, .ref a_p0), (1, .long y1), (4, .int y4)]) hx hb dJ7_fill_d0a16_16 hl (k := 2) rfl (by rw [eu3]; rfl) (by decide) rfl (fun ls hl => ?_)
  refine lv_goto (tgt := 6) hx hb dJ7_fill_d0a16_19 (by decide) ?_
  exact hag6 h (lv_sub hl [1, 2, 0, 3] rfl) hf
set_option maxRecDepth 100000 in
theorem EJ7_fill_d0a16_6 {p : Program} {l : Launch} {e : Env} {s : State} {m : MethodId} {args : Array Value} {below : List Frame} {meth : Method} {c : Code} {D : va_G} {cI cJ cZ cS : ClassId} {tb : Nat} {A : Nat → Prop} {n_p0 : Nat} {a_p0 : Nat} {kk' : (Nat → Int64)} (fx : q_Fx p s m args meth c cJ7_fill_d0a16 5 RJ7 none D cI cJ cZ cS tb A) : ∀ (n : Nat), ∀ {v_p0 : Nat → Int64} {y1 : Int64} {y3 : Int32} {y4 : Int32} {H : Heap} {locs : List Loc} {ls : Array Slot}, q_H D A s (wJ7_fill_d0a16 cI cJ cZ cS n_p0 a_p0 v_p0) H locs → lv_has ls 5 [(0, .ref a_p0), (1, .long y1), (3, .int y3), (4, .int y4)] → ll4 (fJ7_fill_d0a16_6 n_p0) n v_p0 y1 y3 y4 = some kk' → W p l e rJ7_fill_d0a16 s m args below meth c H locs 0 0 (MQ below (q_Rv D A ((fun k : (Nat → Int64) => (wJ7_fill_d0a16 cI cJ cZ cS n_p0 a_p0 k)) kk')) args s 0 0 A) (F0 m 6 ls []) := by
  intro n
  induction n with
  | zero => intro v_p0 y1 y3 y4 H locs ls h hl hf; exact (ll4_z hf).elim
  | succ n ih => intro v_p0 y1 y3 y4 H locs ls h hl hf; exact LJ7_fill_d0a16_6 fx ih h hl (ll4_s hf)
def fJ7_fill_d0a16 (n_p0 : Nat) (v_p0 : Nat → Int64) (x1 : Int64) : Option ((Nat → Int64)) :=
  nm (Int32.ofNat n_p0) (fun u4 =>
  ll4 (fJ7_fill_d0a16_6 n_p0) qF v_p0 x1 0 u4)
set_option maxRecDepth 100000 in
set_option maxHeartbeats 4000000 in
theorem tJ7_fill_d0a16 (l : Launch) (D : va_G) (cI cJ cZ cS : ClassId) (tb : Nat) (n_p0 : Nat) (a_p0 : Nat) (sz : Nat) (v_p0 : Nat → Int64) (x1 : Int64) (kk' : (Nat → Int64)) (hf : fJ7_fill_d0a16 n_p0 v_p0 x1 = some kk') : Met l yJ7_fill_d0a16 (Cond.code yJ7_fill_d0a16 cJ7_fill_d0a16 5 none :: wA) rJ7_fill_d0a16 (q_Pre D cI cJ cZ cS tb [.ref a_p0, .long x1] sz (wJ7_fill_d0a16 cI cJ cZ cS n_p0 a_p0 v_p0)) (q_Rv D (va_A (wJ7_fill_d0a16 cI cJ cZ cS n_p0 a_p0 v_p0) sz) ((fun k : (Nat → Int64) => (wJ7_fill_d0a16 cI cJ cZ cS n_p0 a_p0 k)) kk')) 0 0 (va_A (wJ7_fill_d0a16 cI cJ cZ cS n_p0 a_p0 v_p0) sz) := by
  refine q_enter (Qf := fun A => (q_Rv D A ((fun k : (Nat → Int64) => (wJ7_fill_d0a16 cI cJ cZ cS n_p0 a_p0 k)) kk'))) (by decide) rfl (Nat.le_of_ble_eq_true rfl) ?_
  intro p e s m below meth c A ls fx hname h hl
  have hx := fx.1
  have hb := fx.2.1
  have hl : lv_has ls 5 [(0, .ref a_p0), (1, .long x1)] := hl
  generalize h9 : s.heap = H at h ⊢
  clear h9
  generalize h9 : ([] : List Loc) = locs at h ⊢
  clear h9
  unfold fJ7_fill_d0a16 at hf
  refine lv_iconst (v := 0) hx hb dJ7_fill_d0a16_0 (by decide) ?_
  refine lv_istore_n (lv' := [(3, .int 0), (0, .ref a_p0), (1, .long x1)]) hx hb dJ7_fill_d0a16_1 rfl hl (by decide) rfl (fun ls hl => ?_)
  refine lv_aload_n hx hb dJ7_fill_d0a16_2 rfl (lv_at hl 1 rfl) ?_
  refine q_alenL fx h 0 rfl dJ7_fill_d0a16_3 ?_
  obtain ⟨u4, eu4, hf⟩ := nm_inv hf
  refine lv_eqi eu4 ?_
  refine lv_istore (lv' := [(4, .int u4), (3, .int 0), (0, .ref a_p0), (1, .long x1)]) hx hb dJ7_fill_d0a16_4 hl (by decide) rfl (fun ls hl => ?_)
  exact EJ7_fill_d0a16_6 fx qF h (lv_sub hl [2, 3, 1, 0] rfl) hf
/-! J7_fill_53178 -/
abbrev wJ7_fill_53178 (cI cJ cZ cS : ClassId) (n_p0 : Nat) (a_p0 : Nat) (v_p0 : Nat → Int32) : va_W := [(a_p0, .inl (cI, n_p0, .inl v_p0))]
abbrev rJ7_fill_53178 : Room := { frames := 0, cells := 0, slots := 0, locals := 0 }
def fJ7_fill_53178_5 (n_p0 : Nat) (ag5 : (Nat → Int32) → Int32 → Int32 → Int32 → Option ((Nat → Int32))) (v_p0 : Nat → Int32) (y1 : Int32) (y2 : Int32) (y3 : Int32) : Option ((Nat → Int32)) :=
  (if y3 ≤ y2 then (
  some v_p0)
  else (
  gIn y2 n_p0 (
  nm (y2 + 1) (fun u3 =>
  ag5 (upd v_p0 y2.toNatClampNeg y1) y1 u3 y3))))
set_option maxRecDepth 100000 in
set_option maxHeartbeats 4000000 in
theorem LJ7_fill_53178_5 {p : Program} {l : Launch} {e : Env} {s : State} {m : MethodId} {args : Array Value} {below : List Frame} {meth : Method} {c : Code} {D : va_G} {cI cJ cZ cS : ClassId} {tb : Nat} {A : Nat → Prop} {n_p0 : Nat} {a_p0 : Nat} {kk' : (Nat → Int32)} (fx : q_Fx p s m args meth c cJ7_fill_53178 4 RJ7 none D cI cJ cZ cS tb A) {ag5 : (Nat → Int32) → Int32 → Int32 → Int32 → Option ((Nat → Int32))} (hag5 : ∀ {v_p0 : Nat → Int32} {y1 : Int32} {y2 : Int32} {y3 : Int32} {H : Heap} {locs : List Loc} {ls : Array Slot}, q_H D A s (wJ7_fill_53178 cI cJ cZ cS n_p0 a_p0 v_p0) H locs → lv_has ls 4 [(0, .ref a_p0), (1, .int y1), (2, .int y2), (3, .int y3)] → ag5 v_p0 y1 y2 y3 = some kk' → W p l e rJ7_fill_53178 s m args below meth c H locs 0 0 (MQ below (q_Rv D A ((fun k : (Nat → Int32) => (wJ7_fill_53178 cI cJ cZ cS n_p0 a_p0 k)) kk')) args s 0 0 A) (F0 m 5 ls [])) : ∀ {v_p0 : Nat → Int32} {y1 : Int32} {y2 : Int32} {y3 : Int32} {H : Heap} {locs : List Loc} {ls : Array Slot}, q_H D A s (wJ7_fill_53178 cI cJ cZ cS n_p0 a_p0 v_p0) H locs → lv_has ls 4 [(0, .ref a_p0), (1, .int y1), (2, .int y2), (3, .int y3)] → fJ7_fill_53178_5 n_p0 ag5 v_p0 y1 y2 y3 = some kk' → W p l e rJ7_fill_53178 s m args below meth c H locs 0 0 (MQ below (q_Rv D A ((fun k : (Nat → Int32) => (wJ7_fill_53178 cI cJ cZ cS n_p0 a_p0 k)) kk')) args s 0 0 A) (F0 m 5 ls []) := by
  intro v_p0 y1 y2 y3 H locs ls h hl hf
  have hx := fx.1
  have hb := fx.2.1
  unfold fJ7_fill_53178_5 at hf
  refine lv_iload_n hx hb dJ7_fill_53178_5 rfl (lv_at hl 2 rfl) ?_
  refine lv_iload_n hx hb dJ7_fill_53178_6 rfl (lv_at hl 3 rfl) ?_
  refine lv_icmp_ge (tgt := 20) hx hb dJ7_fill_53178_7 (by decide) (fun c1 => ?_) (fun c1 => ?_)
  · have hf := it_t c1 hf
    exact q_retv (fun k : (Nat → Int32) => (wJ7_fill_53178 cI cJ cZ cS n_p0 a_p0 k)) fx hf h dJ7_fill_53178_20
  have hf := it_f c1 hf
  refine lv_aload_n hx hb dJ7_fill_53178_10 rfl (lv_at hl 0 rfl) ?_
  refine lv_iload_n hx hb dJ7_fill_53178_11 rfl (lv_at hl 2 rfl) ?_
  refine lv_iload_n hx hb dJ7_fill_53178_12 rfl (lv_at hl 1 rfl) ?_
  obtain ⟨i2, hf⟩ := gIn_inv hf
  refine q_iast (ws' := (wJ7_fill_53178 cI cJ cZ cS n_p0 a_p0 (upd v_p0 y2.toNatClampNeg y1))) fx h 0 rfl i2 rfl dJ7_fill_53178_13 (fun H locs h => ?_)
  obtain ⟨u3, eu3, hf⟩ := nm_inv hf
  refine lv_iinc (v := u3) (lv' := [(2, .int u3), (0, .ref a_p0), (1, .int y1), (3, .int y3)]) hx hb dJ7_fill_53178_14 hl (k := 2) rfl (by rw [eu3]; rfl) (by decide) rfl (fun ls hl => ?_)
  refine lv_goto (tgt := 5) hx hb dJ7_fill_53178_17 (by decide) ?_
  exact hag5 h (lv_sub hl [1, 2, 0, 3] rfl) hf
set_option maxRecDepth 100000 in
theorem EJ7_fill_53178_5 {p : Program} {l : Launch} {e : Env} {s : State} {m : MethodId} {args : Array Value} {below : List Frame} {meth : Method} {c : Code} {D : va_G} {cI cJ cZ cS : ClassId} {tb : Nat} {A : Nat → Prop} {n_p0 : Nat} {a_p0 : Nat} {kk' : (Nat → Int32)} (fx : q_Fx p s m args meth c cJ7_fill_53178 4 RJ7 none D cI cJ cZ cS tb A) : ∀ (n : Nat), ∀ {v_p0 : Nat → Int32} {y1 : Int32} {y2 : Int32} {y3 : Int32} {H : Heap} {locs : List Loc} {ls : Array Slot}, q_H D A s (wJ7_fill_53178 cI cJ cZ cS n_p0 a_p0 v_p0) H locs → lv_has ls 4 [(0, .ref a_p0), (1, .int y1), (2, .int y2), (3, .int y3)] → ll4 (fJ7_fill_53178_5 n_p0) n v_p0 y1 y2 y3 = some kk' → W p l e rJ7_fill_53178 s m args below meth c H locs 0 0 (MQ below (q_Rv D A ((fun k : (Nat → Int32) => (wJ7_fill_53178 cI cJ cZ cS n_p0 a_p0 k)) kk')) args s 0 0 A) (F0 m 5 ls []) := by
  intro n
  induction n with
  | zero => intro v_p0 y1 y2 y3 H locs ls h hl hf; exact (ll4_z hf).elim
  | succ n ih => intro v_p0 y1 y2 y3 H locs ls h hl hf; exact LJ7_fill_53178_5 fx ih h hl (ll4_s hf)
def fJ7_fill_53178 (n_p0 : Nat) (v_p0 : Nat → Int32) (x1 : Int32) : Option ((Nat → Int32)) :=
  nm (Int32.ofNat n_p0) (fun u4 =>
  ll4 (fJ7_fill_53178_5 n_p0) qF v_p0 x1 0 u4)
set_option maxRecDepth 100000 in
set_option maxHeartbeats 4000000 in
theorem tJ7_fill_53178 (l : Launch) (D : va_G) (cI cJ cZ cS : ClassId) (tb : Nat) (n_p0 : Nat) (a_p0 : Nat) (sz : Nat) (v_p0 : Nat → Int32) (x1 : Int32) (kk' : (Nat → Int32)) (hf : fJ7_fill_53178 n_p0 v_p0 x1 = some kk') : Met l yJ7_fill_53178 (Cond.code yJ7_fill_53178 cJ7_fill_53178 4 none :: wA) rJ7_fill_53178 (q_Pre D cI cJ cZ cS tb [.ref a_p0, .int x1] sz (wJ7_fill_53178 cI cJ cZ cS n_p0 a_p0 v_p0)) (q_Rv D (va_A (wJ7_fill_53178 cI cJ cZ cS n_p0 a_p0 v_p0) sz) ((fun k : (Nat → Int32) => (wJ7_fill_53178 cI cJ cZ cS n_p0 a_p0 k)) kk')) 0 0 (va_A (wJ7_fill_53178 cI cJ cZ cS n_p0 a_p0 v_p0) sz) := by
  refine q_enter (Qf := fun A => (q_Rv D A ((fun k : (Nat → Int32) => (wJ7_fill_53178 cI cJ cZ cS n_p0 a_p0 k)) kk'))) (by decide) rfl (Nat.le_of_ble_eq_true rfl) ?_
  intro p e s m below meth c A ls fx hname h hl
  have hx := fx.1
  have hb := fx.2.1
  have hl : lv_has ls 4 [(0, .ref a_p0), (1, .int x1)] := hl
  generalize h9 : s.heap = H at h ⊢
  clear h9
  generalize h9 : ([] : List Loc) = locs at h ⊢
  clear h9
  unfold fJ7_fill_53178 at hf
  refine lv_iconst (v := 0) hx hb dJ7_fill_53178_0 (by decide) ?_
  refine lv_istore_n (lv' := [(2, .int 0), (0, .ref a_p0), (1, .int x1)]) hx hb dJ7_fill_53178_1 rfl hl (by decide) rfl (fun ls hl => ?_)
  refine lv_aload_n hx hb dJ7_fill_53178_2 rfl (lv_at hl 1 rfl) ?_
  refine q_alenI fx h 0 rfl dJ7_fill_53178_3 ?_
  obtain ⟨u4, eu4, hf⟩ := nm_inv hf
  refine lv_eqi eu4 ?_
  refine lv_istore_n (lv' := [(3, .int u4), (2, .int 0), (0, .ref a_p0), (1, .int x1)]) hx hb dJ7_fill_53178_4 rfl hl (by decide) rfl (fun ls hl => ?_)
  exact EJ7_fill_53178_5 fx qF h (lv_sub hl [2, 3, 1, 0] rfl) hf
/-! X4_isKind -/
abbrev wX4_isKind (cI cJ cZ cS : ClassId) : va_W := []
abbrev rX4_isKind : Room := { frames := 0, cells := 0, slots := 0, locals := 0 }
def fX4_isKind (x0 : Int32) : Option (Int32 × Unit) :=
  (if x0 < 0 then (
  some (0, ()))
  else (
  (if (6 : Int32) ≤ x0 then (
  some (0, ()))
  else (
  some (1, ())))))
set_option maxRecDepth 100000 in
set_option maxHeartbeats 4000000 in
theorem tX4_isKind (l : Launch) (D : va_G) (cI cJ cZ cS : ClassId) (tb : Nat) (sz : Nat) (x0 : Int32) (rr : Int32) (kk' : Unit) (hf : fX4_isKind x0 = some (rr, kk')) : Met l yX4_isKind (Cond.code yX4_isKind cX4_isKind 1 (some .boolean) :: wA) rX4_isKind (q_Pre D cI cJ cZ cS tb [.int x0] sz (wX4_isKind cI cJ cZ cS)) (q_Ri D rr (va_A (wX4_isKind cI cJ cZ cS) sz) ((fun k : Unit => (wX4_isKind cI cJ cZ cS)) kk')) 0 0 (va_A (wX4_isKind cI cJ cZ cS) sz) := by
  refine q_enter (Qf := fun A => (q_Ri D rr A ((fun k : Unit => (wX4_isKind cI cJ cZ cS)) kk'))) (by decide) rfl (Nat.le_of_ble_eq_true rfl) ?_
  intro p e s m below meth c A ls fx hname h hl
  have hx := fx.1
  have hb := fx.2.1
  have hl : lv_has ls 1 [(0, .int x0)] := hl
  generalize h9 : s.heap = H at h ⊢
  clear h9
  generalize h9 : ([] : List Loc) = locs at h ⊢
  clear h9
  unfold fX4_isKind at hf
  refine lv_iload_n hx hb dX4_isKind_0 rfl (lv_at hl 0 rfl) ?_
  refine lv_if_lt (tgt := 14) hx hb dX4_isKind_1 (by decide) (fun c1 => ?_) (fun c1 => ?_)
  · have hf := it_t c1 hf
    refine lv_iconst (v := 0) hx hb dX4_isKind_14 (by decide) ?_
    exact q_retz (fun k : Unit => (wX4_isKind cI cJ cZ cS)) fx rfl hf h dX4_isKind_15
  have hf := it_f c1 hf
  refine lv_iload_n hx hb dX4_isKind_4 rfl (lv_at hl 0 rfl) ?_
  refine lv_bipush (v := 6) hx hb dX4_isKind_5 (by decide) ?_
  refine lv_icmp_ge (tgt := 14) hx hb dX4_isKind_7 (by decide) (fun c2 => ?_) (fun c2 => ?_)
  · have hf := it_t c2 hf
    refine lv_iconst (v := 0) hx hb dX4_isKind_14 (by decide) ?_
    exact q_retz (fun k : Unit => (wX4_isKind cI cJ cZ cS)) fx rfl hf h dX4_isKind_15
  have hf := it_f c2 hf
  refine lv_iconst (v := 1) hx hb dX4_isKind_10 (by decide) ?_
  refine lv_goto (tgt := 15) hx hb dX4_isKind_11 (by decide) ?_
  exact q_retz (fun k : Unit => (wX4_isKind cI cJ cZ cS)) fx rfl hf h dX4_isKind_15
/-! X4_isCost -/
abbrev wX4_isCost (cI cJ cZ cS : ClassId) : va_W := []
abbrev rX4_isCost : Room := { frames := 0, cells := 0, slots := 0, locals := 0 }
def fX4_isCost (x0 : Int32) : Option (Int32 × Unit) :=
  (if x0 < 0 then (
  some (0, ()))
  else (
  (if (99 : Int32) < x0 then (
  some (0, ()))
  else (
  some (1, ())))))
set_option maxRecDepth 100000 in
set_option maxHeartbeats 4000000 in
theorem tX4_isCost (l : Launch) (D : va_G) (cI cJ cZ cS : ClassId) (tb : Nat) (sz : Nat) (x0 : Int32) (rr : Int32) (kk' : Unit) (hf : fX4_isCost x0 = some (rr, kk')) : Met l yX4_isCost (Cond.code yX4_isCost cX4_isCost 1 (some .boolean) :: wA) rX4_isCost (q_Pre D cI cJ cZ cS tb [.int x0] sz (wX4_isCost cI cJ cZ cS)) (q_Ri D rr (va_A (wX4_isCost cI cJ cZ cS) sz) ((fun k : Unit => (wX4_isCost cI cJ cZ cS)) kk')) 0 0 (va_A (wX4_isCost cI cJ cZ cS) sz) := by
  refine q_enter (Qf := fun A => (q_Ri D rr A ((fun k : Unit => (wX4_isCost cI cJ cZ cS)) kk'))) (by decide) rfl (Nat.le_of_ble_eq_true rfl) ?_
  intro p e s m below meth c A ls fx hname h hl
  have hx := fx.1
  have hb := fx.2.1
  have hl : lv_has ls 1 [(0, .int x0)] := hl
  generalize h9 : s.heap = H at h ⊢
  clear h9
  generalize h9 : ([] : List Loc) = locs at h ⊢
  clear h9
  unfold fX4_isCost at hf
  refine lv_iload_n hx hb dX4_isCost_0 rfl (lv_at hl 0 rfl) ?_
  refine lv_if_lt (tgt := 14) hx hb dX4_isCost_1 (by decide) (fun c1 => ?_) (fun c1 => ?_)
  · have hf := it_t c1 hf
    refine lv_iconst (v := 0) hx hb dX4_isCost_14 (by decide) ?_
    exact q_retz (fun k : Unit => (wX4_isCost cI cJ cZ cS)) fx rfl hf h dX4_isCost_15
  have hf := it_f c1 hf
  refine lv_iload_n hx hb dX4_isCost_4 rfl (lv_at hl 0 rfl) ?_
  refine lv_bipush (v := 99) hx hb dX4_isCost_5 (by decide) ?_
  refine lv_icmp_gt (tgt := 14) hx hb dX4_isCost_7 (by decide) (fun c2 => ?_) (fun c2 => ?_)
  · have hf := it_t c2 hf
    refine lv_iconst (v := 0) hx hb dX4_isCost_14 (by decide) ?_
    exact q_retz (fun k : Unit => (wX4_isCost cI cJ cZ cS)) fx rfl hf h dX4_isCost_15
  have hf := it_f c2 hf
  refine lv_iconst (v := 1) hx hb dX4_isCost_10 (by decide) ?_
  refine lv_goto (tgt := 15) hx hb dX4_isCost_11 (by decide) ?_
  exact q_retz (fun k : Unit => (wX4_isCost cI cJ cZ cS)) fx rfl hf h dX4_isCost_15
/-! X4_found -/
abbrev wX4_found (cI cJ cZ cS : ClassId) (a_t a_party a_kept a_tape a_telephone a_sheets a_findings : Nat) (v_isKept : Int32) (v_findings : Nat → Int32) : va_W := [(a_t, .inr (4, [.ref a_party, .ref a_kept, .int v_isKept, .ref a_tape, .ref a_telephone, .ref a_sheets, .ref a_findings])), (a_findings, .inl (cI, 7, .inl v_findings))]
abbrev rX4_found : Room := { frames := 0, cells := 0, slots := 0, locals := 0 }
def fX4_found (v_findings : Nat → Int32) (x1 : Int32) : Option (Int32 × (Nat → Int32)) :=
  nm ((-1000000001) - x1) (fun u1 =>
  (if u1 < 0 then (
  some (x1, v_findings))
  else (
  (if (7 : Int32) ≤ u1 then (
  some (x1, v_findings))
  else (
  gIn u1 7 (
  gIn u1 7 (
  some (x1, (upd v_findings u1.toNatClampNeg ((v_findings u1.toNatClampNeg) + 1))))))))))
set_option maxRecDepth 100000 in
set_option maxHeartbeats 4000000 in
theorem tX4_found (l : Launch) (D : va_G) (cI cJ cZ cS : ClassId) (tb : Nat) (a_t a_party a_kept a_tape a_telephone a_sheets a_findings : Nat) (sz : Nat) (v_isKept : Int32) (v_findings : Nat → Int32) (x1 : Int32) (rr : Int32) (kk' : (Nat → Int32)) (hf : fX4_found v_findings x1 = some (rr, kk')) : Met l yX4_found (Cond.code yX4_found cX4_found 3 (some .int) :: wA) rX4_found (q_Pre D cI cJ cZ cS tb [.ref a_t, .int x1] sz (wX4_found cI cJ cZ cS a_t a_party a_kept a_tape a_telephone a_sheets a_findings v_isKept v_findings)) (q_Ri D rr (va_A (wX4_found cI cJ cZ cS a_t a_party a_kept a_tape a_telephone a_sheets a_findings v_isKept v_findings) sz) ((fun k : (Nat → Int32) => (wX4_found cI cJ cZ cS a_t a_party a_kept a_tape a_telephone a_sheets a_findings v_isKept k)) kk')) 0 0 (va_A (wX4_found cI cJ cZ cS a_t a_party a_kept a_tape a_telephone a_sheets a_findings v_isKept v_findings) sz) := by
  refine q_enter (Qf := fun A => (q_Ri D rr A ((fun k : (Nat → Int32) => (wX4_found cI cJ cZ cS a_t a_party a_kept a_tape a_telephone a_sheets a_findings v_isKept k)) kk'))) (by decide) rfl (Nat.le_of_ble_eq_true rfl) ?_
  intro p e s m below meth c A ls fx hname h hl
  have hx := fx.1
  have hb := fx.2.1
  have hl : lv_has ls 3 [(0, .ref a_t), (1, .int x1)] := hl
  generalize h9 : s.heap = H at h ⊢
  clear h9
  generalize h9 : ([] : List Loc) = locs at h ⊢
  clear h9
  unfold fX4_found at hf
  refine q_ldc fx k_206 dX4_found_0 ?_
  refine lv_iload_n hx hb dX4_found_2 rfl (lv_at hl 1 rfl) ?_
  refine lv_isub hx hb dX4_found_3 ?_
  obtain ⟨u1, eu1, hf⟩ := nm_inv hf
  refine lv_eqi eu1 ?_
  refine lv_istore_n (lv' := [(2, .int u1), (0, .ref a_t), (1, .int x1)]) hx hb dX4_found_4 rfl hl (by decide) rfl (fun ls hl => ?_)
  refine lv_iload_n hx hb dX4_found_5 rfl (lv_at hl 0 rfl) ?_
  refine lv_if_lt (tgt := 25) hx hb dX4_found_6 (by decide) (fun c2 => ?_) (fun c2 => ?_)
  · have hf := it_t c2 hf
    refine lv_iload_n hx hb dX4_found_25 rfl (lv_at hl 2 rfl) ?_
    exact q_reti (fun k : (Nat → Int32) => (wX4_found cI cJ cZ cS a_t a_party a_kept a_tape a_telephone a_sheets a_findings v_isKept k)) fx hf h dX4_found_26
  have hf := it_f c2 hf
  refine lv_iload_n hx hb dX4_found_9 rfl (lv_at hl 0 rfl) ?_
  refine lv_bipush (v := 7) hx hb dX4_found_10 (by decide) ?_
  refine lv_icmp_ge (tgt := 25) hx hb dX4_found_12 (by decide) (fun c3 => ?_) (fun c3 => ?_)
  · have hf := it_t c3 hf
    refine lv_iload_n hx hb dX4_found_25 rfl (lv_at hl 2 rfl) ?_
    exact q_reti (fun k : (Nat → Int32) => (wX4_found cI cJ cZ cS a_t a_party a_kept a_tape a_telephone a_sheets a_findings v_isKept k)) fx hf h dX4_found_26
  have hf := it_f c3 hf
  refine lv_aload_n hx hb dX4_found_15 rfl (lv_at hl 1 rfl) ?_
  refine q_get (v := .ref a_findings) fx inX4 h 0 rfl rfl 6 (by decide) k_180 rfl dX4_found_16 ?_
  refine lv_iload_n hx hb dX4_found_19 rfl (lv_at hl 0 rfl) ?_
  refine lv_dup2_11 hx hb dX4_found_20 rfl rfl ?_
  obtain ⟨i4, hf⟩ := gIn_inv hf
  refine q_iald fx h 1 rfl i4 dX4_found_21 ?_
  refine lv_iconst (v := 1) hx hb dX4_found_22 (by decide) ?_
  refine lv_iadd hx hb dX4_found_23 ?_
  obtain ⟨i5, hf⟩ := gIn_inv hf
  refine q_iast (ws' := (wX4_found cI cJ cZ cS a_t a_party a_kept a_tape a_telephone a_sheets a_findings v_isKept (upd v_findings u1.toNatClampNeg ((v_findings u1.toNatClampNeg) + 1)))) fx h 1 rfl i5 rfl dX4_found_24 (fun H locs h => ?_)
  refine lv_iload_n hx hb dX4_found_25 rfl (lv_at hl 2 rfl) ?_
  exact q_reti (fun k : (Nat → Int32) => (wX4_found cI cJ cZ cS a_t a_party a_kept a_tape a_telephone a_sheets a_findings v_isKept k)) fx hf h dX4_found_26
/-! X0_welcome -/
abbrev wX0_welcome (cI cJ cZ cS : ClassId) (a_t a_kinds a_costs a_terms a_known : Nat) (v_size : Int32) (v_list : Int32) (v_told : Int32) (v_kinds : Nat → Int32) (v_costs : Nat → Int32) (v_known : Nat → Int32) : va_W := [(a_t, .inr (0, [.int v_size, .int v_list, .int v_told, .ref a_kinds, .ref a_costs, .ref a_terms, .ref a_known])), (a_kinds, .inl (cI, 8, .inl v_kinds)), (a_costs, .inl (cI, 8, .inl v_costs)), (a_known, .inl (cI, 256, .inl v_known))]
abbrev rX0_welcome : Room := { frames := 1, cells := 0, slots := 0, locals := 23 }
def fX0_welcome (v_size : Int32) (v_kinds : Nat → Int32) (v_costs : Nat → Int32) (v_known : Nat → Int32) (x1 : Int32) (x2 : Int32) : Option (Int32 × Int32 × (Nat → Int32) × (Nat → Int32) × (Nat → Int32)) :=
  gIn v_size 8 (
  gIn v_size 8 (
  nm (v_size + 1) (fun u3 =>
  bV (fJ7_fill_53178 256 v_known (-1)) (fun k4 =>
  some (v_size, (u3, (upd v_kinds v_size.toNatClampNeg x1), (upd v_costs v_size.toNatClampNeg x2), k4))))))
set_option maxRecDepth 100000 in
set_option maxHeartbeats 4000000 in
theorem tX0_welcome (l : Launch) (D : va_G) (cI cJ cZ cS : ClassId) (tb : Nat) (a_t a_kinds a_costs a_terms a_known : Nat) (sz : Nat) (v_size : Int32) (v_list : Int32) (v_told : Int32) (v_kinds : Nat → Int32) (v_costs : Nat → Int32) (v_known : Nat → Int32) (x1 : Int32) (x2 : Int32) (rr : Int32) (kk' : Int32 × (Nat → Int32) × (Nat → Int32) × (Nat → Int32)) (hf : fX0_welcome v_size v_kinds v_costs v_known x1 x2 = some (rr, kk')) : Met l yX0_welcome (Cond.code yX0_welcome cX0_welcome 4 (some .int) :: wA) rX0_welcome (q_Pre D cI cJ cZ cS tb [.ref a_t, .int x1, .int x2] sz (wX0_welcome cI cJ cZ cS a_t a_kinds a_costs a_terms a_known v_size v_list v_told v_kinds v_costs v_known)) (q_Ri D rr (va_A (wX0_welcome cI cJ cZ cS a_t a_kinds a_costs a_terms a_known v_size v_list v_told v_kinds v_costs v_known) sz) ((fun k : Int32 × (Nat → Int32) × (Nat → Int32) × (Nat → Int32) => (wX0_welcome cI cJ cZ cS a_t a_kinds a_costs a_terms a_known k.1 v_list v_told k.2.1 k.2.2.1 k.2.2.2)) kk')) 0 0 (va_A (wX0_welcome cI cJ cZ cS a_t a_kinds a_costs a_terms a_known v_size v_list v_told v_kinds v_costs v_known) sz) := by
  refine q_enter (Qf := fun A => (q_Ri D rr A ((fun k : Int32 × (Nat → Int32) × (Nat → Int32) × (Nat → Int32) => (wX0_welcome cI cJ cZ cS a_t a_kinds a_costs a_terms a_known k.1 v_list v_told k.2.1 k.2.2.1 k.2.2.2)) kk'))) (by decide) rfl (Nat.le_of_ble_eq_true rfl) ?_
  intro p e s m below meth c A ls fx hname h hl
  have hx := fx.1
  have hb := fx.2.1
  have hl : lv_has ls 4 [(0, .ref a_t), (1, .int x1), (2, .int x2)] := hl
  generalize h9 : s.heap = H at h ⊢
  clear h9
  generalize h9 : ([] : List Loc) = locs at h ⊢
  clear h9
  unfold fX0_welcome at hf
  refine lv_aload_n hx hb dX0_welcome_0 rfl (lv_at hl 0 rfl) ?_
  refine q_get (v := .int v_size) fx inX0 h 0 rfl rfl 0 (by decide) k_80 rfl dX0_welcome_1 ?_
  refine lv_istore_n (lv' := [(3, .int v_size), (0, .ref a_t), (1, .int x1), (2, .int x2)]) hx hb dX0_welcome_4 rfl hl (by decide) rfl (fun ls hl => ?_)
  refine lv_aload_n hx hb dX0_welcome_5 rfl (lv_at hl 1 rfl) ?_
  refine q_get (v := .ref a_kinds) fx inX0 h 0 rfl rfl 3 (by decide) k_88 rfl dX0_welcome_6 ?_
  refine lv_iload_n hx hb dX0_welcome_9 rfl (lv_at hl 0 rfl) ?_
  refine lv_iload_n hx hb dX0_welcome_10 rfl (lv_at hl 2 rfl) ?_
  obtain ⟨i1, hf⟩ := gIn_inv hf
  refine q_iast (ws' := (wX0_welcome cI cJ cZ cS a_t a_kinds a_costs a_terms a_known v_size v_list v_told (upd v_kinds v_size.toNatClampNeg x1) v_costs v_known)) fx h 1 rfl i1 rfl dX0_welcome_11 (fun H locs h => ?_)
  refine lv_aload_n hx hb dX0_welcome_12 rfl (lv_at hl 1 rfl) ?_
  refine q_get (v := .ref a_costs) fx inX0 h 0 rfl rfl 4 (by decide) k_90 rfl dX0_welcome_13 ?_
  refine lv_iload_n hx hb dX0_welcome_16 rfl (lv_at hl 0 rfl) ?_
  refine lv_iload_n hx hb dX0_welcome_17 rfl (lv_at hl 3 rfl) ?_
  obtain ⟨i2, hf⟩ := gIn_inv hf
  refine q_iast (ws' := (wX0_welcome cI cJ cZ cS a_t a_kinds a_costs a_terms a_known v_size v_list v_told (upd v_kinds v_size.toNatClampNeg x1) (upd v_costs v_size.toNatClampNeg x2) v_known)) fx h 2 rfl i2 rfl dX0_welcome_18 (fun H locs h => ?_)
  refine lv_aload_n hx hb dX0_welcome_19 rfl (lv_at hl 1 rfl) ?_
  refine lv_dup hx hb dX0_welcome_20 rfl ?_
  refine q_get (v := .int v_size) fx inX0 h 0 rfl rfl 0 (by decide) k_80 rfl dX0_welcome_21 ?_
  refine lv_iconst (v := 1) hx hb dX0_welcome_24 (by decide) ?_
  refine lv_iadd hx hb dX0_welcome_25 ?_
  obtain ⟨u3, eu3, hf⟩ := nm_inv hf
  refine lv_eqi eu3 ?_
  refine q_put (v := .int u3) (ws' := (wX0_welcome cI cJ cZ cS a_t a_kinds a_costs a_terms a_known u3 v_list v_told (upd v_kinds v_size.toNatClampNeg x1) (upd v_costs v_size.toNatClampNeg x2) v_known)) fx inX0 tyX0 tyX0_ok nmX0 h 0 rfl rfl 0 (by decide) k_80 rfl rfl rfl (Nat.le_of_ble_eq_true rfl) rfl dX0_welcome_26 (fun H locs h => ?_)
  refine lv_aload_n hx hb dX0_welcome_29 rfl (lv_at hl 1 rfl) ?_
  refine q_get (v := .ref a_known) fx inX0 h 0 rfl rfl 6 (by decide) k_93 rfl dX0_welcome_30 ?_
  refine lv_iconst (v := -1) hx hb dX0_welcome_33 (by decide) ?_
  obtain ⟨k4, hg, hf⟩ := bV_inv hf
  refine q_cv (rest := []) (ws' := (wX0_welcome cI cJ cZ cS a_t a_kinds a_costs a_terms a_known u3 v_list v_told (upd v_kinds v_size.toNatClampNeg x1) (upd v_costs v_size.toNatClampNeg x2) k4)) (w1 := (wJ7_fill_53178 cI cJ cZ cS 256 a_known k4)) fx h [3] rfl rfl rfl rfl (q_runS fx h hl.1 [3] rfl rfl (tJ7_fill_53178 l D cI cJ cZ cS tb 256 a_known H.size v_known (-1) k4 hg) msJ7_fill_53178 k_77 ⟨rfl, rfl⟩ ⟨Nat.le_of_ble_eq_true rfl, Nat.le_of_ble_eq_true rfl⟩ rfl rfl (Nat.le_of_ble_eq_true rfl) dX0_welcome_34 ⟨Nat.le_of_ble_eq_true rfl, Nat.le_of_ble_eq_true rfl⟩) (fun H locs h => ?_)
  refine lv_iload_n hx hb dX0_welcome_37 rfl (lv_at hl 0 rfl) ?_
  exact q_reti (fun k : Int32 × (Nat → Int32) × (Nat → Int32) × (Nat → Int32) => (wX0_welcome cI cJ cZ cS a_t a_kinds a_costs a_terms a_known k.1 v_list v_told k.2.1 k.2.2.1 k.2.2.2)) fx hf h dX0_welcome_38
/-! X4_guest -/
abbrev wX4_guest (cI cJ cZ cS : ClassId) (a_t a_party a_party_kinds a_party_costs a_party_terms a_party_known a_kept a_tape a_telephone a_sheets a_findings : Nat) (v_isKept : Int32) (v_party_size : Int32) (v_party_list : Int32) (v_party_told : Int32) (v_party_kinds : Nat → Int32) (v_party_costs : Nat → Int32) (v_party_known : Nat → Int32) (v_findings : Nat → Int32) : va_W := [(a_t, .inr (4, [.ref a_party, .ref a_kept, .int v_isKept, .ref a_tape, .ref a_telephone, .ref a_sheets, .ref a_findings])), (a_party, .inr (0, [.int v_party_size, .int v_party_list, .int v_party_told, .ref a_party_kinds, .ref a_party_costs, .ref a_party_terms, .ref a_party_known])), (a_party_kinds, .inl (cI, 8, .inl v_party_kinds)), (a_party_costs, .inl (cI, 8, .inl v_party_costs)), (a_party_known, .inl (cI, 256, .inl v_party_known)), (a_findings, .inl (cI, 7, .inl v_findings))]
abbrev rX4_guest : Room := { frames := 2, cells := 0, slots := 0, locals := 46 }
def fX4_guest_14 (v_party_size : Int32) (v_party_kinds : Nat → Int32) (v_party_costs : Nat → Int32) (v_party_known : Nat → Int32) (v_findings : Nat → Int32) : Option (Int32 × Int32 × (Nat → Int32) × (Nat → Int32) × (Nat → Int32) × (Nat → Int32)) :=
  bR (fX4_found v_findings (-1000000001)) (fun r1 k1 =>
  some (r1, (v_party_size, v_party_kinds, v_party_costs, v_party_known, k1)))
set_option maxRecDepth 100000 in
set_option maxHeartbeats 4000000 in
theorem LX4_guest_14 {p : Program} {l : Launch} {e : Env} {s : State} {m : MethodId} {args : Array Value} {below : List Frame} {meth : Method} {c : Code} {D : va_G} {cI cJ cZ cS : ClassId} {tb : Nat} {A : Nat → Prop} {a_t a_party a_party_kinds a_party_costs a_party_terms a_party_known a_kept a_tape a_telephone a_sheets a_findings : Nat} {v_isKept : Int32} {v_party_list : Int32} {v_party_told : Int32} {rr : Int32} {kk' : Int32 × (Nat → Int32) × (Nat → Int32) × (Nat → Int32) × (Nat → Int32)} (fx : q_Fx p s m args meth c cX4_guest 3 RX4 (some .int) D cI cJ cZ cS tb A) : ∀ {v_party_size : Int32} {v_party_kinds : Nat → Int32} {v_party_costs : Nat → Int32} {v_party_known : Nat → Int32} {v_findings : Nat → Int32} {H : Heap} {locs : List Loc} {ls : Array Slot}, q_H D A s (wX4_guest cI cJ cZ cS a_t a_party a_party_kinds a_party_costs a_party_terms a_party_known a_kept a_tape a_telephone a_sheets a_findings v_isKept v_party_size v_party_list v_party_told v_party_kinds v_party_costs v_party_known v_findings) H locs → lv_has ls 3 [(0, .ref a_t)] → fX4_guest_14 v_party_size v_party_kinds v_party_costs v_party_known v_findings = some (rr, kk') → W p l e rX4_guest s m args below meth c H locs 0 0 (MQ below (q_Ri D rr A ((fun k : Int32 × (Nat → Int32) × (Nat → Int32) × (Nat → Int32) × (Nat → Int32) => (wX4_guest cI cJ cZ cS a_t a_party a_party_kinds a_party_costs a_party_terms a_party_known a_kept a_tape a_telephone a_sheets a_findings v_isKept k.1 v_party_list v_party_told k.2.1 k.2.2.1 k.2.2.2.1 k.2.2.2.2)) kk')) args s 0 0 A) (F0 m 14 ls []) := by
  intro v_party_size v_party_kinds v_party_costs v_party_known v_findings H locs ls h hl hf
  have hx := fx.1
  have hb := fx.2.1
  unfold fX4_guest_14 at hf
  refine lv_aload_n hx hb dX4_guest_14 rfl (lv_at hl 0 rfl) ?_
  refine q_ldc fx k_206 dX4_guest_15 ?_
  obtain ⟨r1, k1, hg, hf⟩ := bR_inv hf
  refine q_ci (rest := []) (ws' := (wX4_guest cI cJ cZ cS a_t a_party a_party_kinds a_party_costs a_party_terms a_party_known a_kept a_tape a_telephone a_sheets a_findings v_isKept v_party_size v_party_list v_party_told v_party_kinds v_party_costs v_party_known k1)) (w1 := (wX4_found cI cJ cZ cS a_t a_party a_kept a_tape a_telephone a_sheets a_findings v_isKept k1)) fx h [0, 5] rfl rfl rfl rfl (q_runV fx h hl.1 [0, 5] rfl rfl (tX4_found l D cI cJ cZ cS tb a_t a_party a_kept a_tape a_telephone a_sheets a_findings H.size v_isKept v_findings (-1000000001) r1 k1 hg) mvX4_found k_207 ⟨rfl, rfl⟩ ⟨Nat.le_of_ble_eq_true rfl, Nat.le_of_ble_eq_true rfl⟩ rfl rfl rfl rfl (Nat.le_of_ble_eq_true rfl) dX4_guest_17 ⟨Nat.le_of_ble_eq_true rfl, Nat.le_of_ble_eq_true rfl⟩) (fun H locs h => ?_)
  exact q_reti (fun k : Int32 × (Nat → Int32) × (Nat → Int32) × (Nat → Int32) × (Nat → Int32) => (wX4_guest cI cJ cZ cS a_t a_party a_party_kinds a_party_costs a_party_terms a_party_known a_kept a_tape a_telephone a_sheets a_findings v_isKept k.1 v_party_list v_party_told k.2.1 k.2.2.1 k.2.2.2.1 k.2.2.2.2)) fx hf h dX4_guest_20
def fX4_guest (v_party_size : Int32) (v_party_kinds : Nat → Int32) (v_party_costs : Nat → Int32) (v_party_known : Nat → Int32) (v_findings : Nat → Int32) (x1 : Int32) (x2 : Int32) : Option (Int32 × Int32 × (Nat → Int32) × (Nat → Int32) × (Nat → Int32) × (Nat → Int32)) :=
  bR (fX4_isKind x1) (fun r2 k2 =>
  (if r2 = 0 then (
  fX4_guest_14  v_party_size v_party_kinds v_party_costs v_party_known v_findings)
  else (
  bR (fX4_isCost x2) (fun r4 k4 =>
  (if r4 = 0 then (
  fX4_guest_14  v_party_size v_party_kinds v_party_costs v_party_known v_findings)
  else (
  (if (8 : Int32) ≤ v_party_size then (
  bR (fX4_found v_findings (-1000000002)) (fun r7 k7 =>
  some (r7, (v_party_size, v_party_kinds, v_party_costs, v_party_known, k7))))
  else (
  bR (fX0_welcome v_party_size v_party_kinds v_party_costs v_party_known x1 x2) (fun r8 k8 =>
  some (r8, (k8.1, k8.2.1, k8.2.2.1, k8.2.2.2, v_findings)))))))))))
set_option maxRecDepth 100000 in
set_option maxHeartbeats 4000000 in
theorem tX4_guest (l : Launch) (D : va_G) (cI cJ cZ cS : ClassId) (tb : Nat) (a_t a_party a_party_kinds a_party_costs a_party_terms a_party_known a_kept a_tape a_telephone a_sheets a_findings : Nat) (sz : Nat) (v_isKept : Int32) (v_party_size : Int32) (v_party_list : Int32) (v_party_told : Int32) (v_party_kinds : Nat → Int32) (v_party_costs : Nat → Int32) (v_party_known : Nat → Int32) (v_findings : Nat → Int32) (x1 : Int32) (x2 : Int32) (rr : Int32) (kk' : Int32 × (Nat → Int32) × (Nat → Int32) × (Nat → Int32) × (Nat → Int32)) (hf : fX4_guest v_party_size v_party_kinds v_party_costs v_party_known v_findings x1 x2 = some (rr, kk')) : Met l yX4_guest (Cond.code yX4_guest cX4_guest 3 (some .int) :: wA) rX4_guest (q_Pre D cI cJ cZ cS tb [.ref a_t, .int x1, .int x2] sz (wX4_guest cI cJ cZ cS a_t a_party a_party_kinds a_party_costs a_party_terms a_party_known a_kept a_tape a_telephone a_sheets a_findings v_isKept v_party_size v_party_list v_party_told v_party_kinds v_party_costs v_party_known v_findings)) (q_Ri D rr (va_A (wX4_guest cI cJ cZ cS a_t a_party a_party_kinds a_party_costs a_party_terms a_party_known a_kept a_tape a_telephone a_sheets a_findings v_isKept v_party_size v_party_list v_party_told v_party_kinds v_party_costs v_party_known v_findings) sz) ((fun k : Int32 × (Nat → Int32) × (Nat → Int32) × (Nat → Int32) × (Nat → Int32) => (wX4_guest cI cJ cZ cS a_t a_party a_party_kinds a_party_costs a_party_terms a_party_known a_kept a_tape a_telephone a_sheets a_findings v_isKept k.1 v_party_list v_party_told k.2.1 k.2.2.1 k.2.2.2.1 k.2.2.2.2)) kk')) 0 0 (va_A (wX4_guest cI cJ cZ cS a_t a_party a_party_kinds a_party_costs a_party_terms a_party_known a_kept a_tape a_telephone a_sheets a_findings v_isKept v_party_size v_party_list v_party_told v_party_kinds v_party_costs v_party_known v_findings) sz) := by
  refine q_enter (Qf := fun A => (q_Ri D rr A ((fun k : Int32 × (Nat → Int32) × (Nat → Int32) × (Nat → Int32) × (Nat → Int32) => (wX4_guest cI cJ cZ cS a_t a_party a_party_kinds a_party_costs a_party_terms a_party_known a_kept a_tape a_telephone a_sheets a_findings v_isKept k.1 v_party_list v_party_told k.2.1 k.2.2.1 k.2.2.2.1 k.2.2.2.2)) kk'))) (by decide) rfl (Nat.le_of_ble_eq_true rfl) ?_
  intro p e s m below meth c A ls fx hname h hl
  have hx := fx.1
  have hb := fx.2.1
  have hl : lv_has ls 3 [(0, .ref a_t), (1, .int x1), (2, .int x2)] := hl
  generalize h9 : s.heap = H at h ⊢
  clear h9
  generalize h9 : ([] : List Loc) = locs at h ⊢
  clear h9
  unfold fX4_guest at hf
  refine lv_iload_n hx hb dX4_guest_0 rfl (lv_at hl 1 rfl) ?_
  obtain ⟨r2, k2, hg, hf⟩ := bR_inv hf
  refine q_ci (rest := []) (ws' := (wX4_guest cI cJ cZ cS a_t a_party a_party_kinds a_party_costs a_party_terms a_party_known a_kept a_tape a_telephone a_sheets a_findings v_isKept v_party_size v_party_list v_party_told v_party_kinds v_party_costs v_party_known v_findings)) (w1 := (wX4_isKind cI cJ cZ cS)) fx h [] rfl rfl rfl rfl (q_runS fx h hl.1 [] rfl rfl (tX4_isKind l D cI cJ cZ cS tb H.size x1 r2 k2 hg) msX4_isKind k_200 ⟨rfl, rfl⟩ ⟨Nat.le_of_ble_eq_true rfl, Nat.le_of_ble_eq_true rfl⟩ rfl rfl (Nat.le_of_ble_eq_true rfl) dX4_guest_1 ⟨Nat.le_of_ble_eq_true rfl, Nat.le_of_ble_eq_true rfl⟩) (fun H locs h => ?_)
  refine lv_if_eq (tgt := 14) hx hb dX4_guest_4 (by decide) (fun c3 => ?_) (fun c3 => ?_)
  · have hf := it_t c3 hf
    exact LX4_guest_14 fx h (lv_sub hl [0] rfl) hf
  have hf := it_f c3 hf
  refine lv_iload_n hx hb dX4_guest_7 rfl (lv_at hl 2 rfl) ?_
  obtain ⟨r4, k4, hg, hf⟩ := bR_inv hf
  refine q_ci (rest := []) (ws' := (wX4_guest cI cJ cZ cS a_t a_party a_party_kinds a_party_costs a_party_terms a_party_known a_kept a_tape a_telephone a_sheets a_findings v_isKept v_party_size v_party_list v_party_told v_party_kinds v_party_costs v_party_known v_findings)) (w1 := (wX4_isCost cI cJ cZ cS)) fx h [] rfl rfl rfl rfl (q_runS fx h hl.1 [] rfl rfl (tX4_isCost l D cI cJ cZ cS tb H.size x2 r4 k4 hg) msX4_isCost k_203 ⟨rfl, rfl⟩ ⟨Nat.le_of_ble_eq_true rfl, Nat.le_of_ble_eq_true rfl⟩ rfl rfl (Nat.le_of_ble_eq_true rfl) dX4_guest_8 ⟨Nat.le_of_ble_eq_true rfl, Nat.le_of_ble_eq_true rfl⟩) (fun H locs h => ?_)
  refine lv_if_ne (tgt := 21) hx hb dX4_guest_11 (by decide) (fun c5 => ?_) (fun c5 => ?_)
  · have hf := it_f c5 hf
    refine lv_aload_n hx hb dX4_guest_21 rfl (lv_at hl 0 rfl) ?_
    refine q_get (v := .ref a_party) fx inX4 h 0 rfl rfl 0 (by decide) k_174 rfl dX4_guest_22 ?_
    refine q_getN (v := .int v_party_size) fx inX0 h 1 rfl rfl 0 (by decide) nf_0 rfl dX4_guest_25 ?_
    refine lv_bipush (v := 8) hx hb dX4_guest_28 (by decide) ?_
    refine lv_icmp_ge (tgt := 45) hx hb dX4_guest_30 (by decide) (fun c6 => ?_) (fun c6 => ?_)
    · have hf := it_t c6 hf
      refine lv_aload_n hx hb dX4_guest_45 rfl (lv_at hl 0 rfl) ?_
      refine q_ldc fx k_215 dX4_guest_46 ?_
      obtain ⟨r7, k7, hg, hf⟩ := bR_inv hf
      refine q_ci (rest := []) (ws' := (wX4_guest cI cJ cZ cS a_t a_party a_party_kinds a_party_costs a_party_terms a_party_known a_kept a_tape a_telephone a_sheets a_findings v_isKept v_party_size v_party_list v_party_told v_party_kinds v_party_costs v_party_known k7)) (w1 := (wX4_found cI cJ cZ cS a_t a_party a_kept a_tape a_telephone a_sheets a_findings v_isKept k7)) fx h [0, 5] rfl rfl rfl rfl (q_runV fx h hl.1 [0, 5] rfl rfl (tX4_found l D cI cJ cZ cS tb a_t a_party a_kept a_tape a_telephone a_sheets a_findings H.size v_isKept v_findings (-1000000002) r7 k7 hg) mvX4_found k_207 ⟨rfl, rfl⟩ ⟨Nat.le_of_ble_eq_true rfl, Nat.le_of_ble_eq_true rfl⟩ rfl rfl rfl rfl (Nat.le_of_ble_eq_true rfl) dX4_guest_48 ⟨Nat.le_of_ble_eq_true rfl, Nat.le_of_ble_eq_true rfl⟩) (fun H locs h => ?_)
      exact q_reti (fun k : Int32 × (Nat → Int32) × (Nat → Int32) × (Nat → Int32) × (Nat → Int32) => (wX4_guest cI cJ cZ cS a_t a_party a_party_kinds a_party_costs a_party_terms a_party_known a_kept a_tape a_telephone a_sheets a_findings v_isKept k.1 v_party_list v_party_told k.2.1 k.2.2.1 k.2.2.2.1 k.2.2.2.2)) fx hf h dX4_guest_51
    have hf := it_f c6 hf
    refine lv_aload_n hx hb dX4_guest_33 rfl (lv_at hl 0 rfl) ?_
    refine q_get (v := .ref a_party) fx inX4 h 0 rfl rfl 0 (by decide) k_174 rfl dX4_guest_34 ?_
    refine lv_iload_n hx hb dX4_guest_37 rfl (lv_at hl 1 rfl) ?_
    refine lv_iload_n hx hb dX4_guest_38 rfl (lv_at hl 2 rfl) ?_
    obtain ⟨r8, k8, hg, hf⟩ := bR_inv hf
    refine q_ci (rest := []) (ws' := (wX4_guest cI cJ cZ cS a_t a_party a_party_kinds a_party_costs a_party_terms a_party_known a_kept a_tape a_telephone a_sheets a_findings v_isKept k8.1 v_party_list v_party_told k8.2.1 k8.2.2.1 k8.2.2.2 v_findings)) (w1 := (wX0_welcome cI cJ cZ cS a_party a_party_kinds a_party_costs a_party_terms a_party_known k8.1 v_party_list v_party_told k8.2.1 k8.2.2.1 k8.2.2.2)) fx h [1, 2, 3, 4] rfl rfl rfl rfl (q_runV fx h hl.1 [1, 2, 3, 4] rfl rfl (tX0_welcome l D cI cJ cZ cS tb a_party a_party_kinds a_party_costs a_party_terms a_party_known H.size v_party_size v_party_list v_party_told v_party_kinds v_party_costs v_party_known x1 x2 r8 k8 hg) mvX0_welcome k_211 ⟨rfl, rfl⟩ ⟨Nat.le_of_ble_eq_true rfl, Nat.le_of_ble_eq_true rfl⟩ rfl rfl rfl rfl (Nat.le_of_ble_eq_true rfl) dX4_guest_39 ⟨Nat.le_of_ble_eq_true rfl, Nat.le_of_ble_eq_true rfl⟩) (fun H locs h => ?_)
    refine lv_goto (tgt := 51) hx hb dX4_guest_42 (by decide) ?_
    exact q_reti (fun k : Int32 × (Nat → Int32) × (Nat → Int32) × (Nat → Int32) × (Nat → Int32) => (wX4_guest cI cJ cZ cS a_t a_party a_party_kinds a_party_costs a_party_terms a_party_known a_kept a_tape a_telephone a_sheets a_findings v_isKept k.1 v_party_list v_party_told k.2.1 k.2.2.1 k.2.2.2.1 k.2.2.2.2)) fx hf h dX4_guest_51
  have hf := it_t c5 hf
  exact LX4_guest_14 fx h (lv_sub hl [0] rfl) hf
/-! X0_has -/
abbrev wX0_has (cI cJ cZ cS : ClassId) (a_t a_kinds a_costs a_terms a_known : Nat) (v_size : Int32) (v_list : Int32) (v_told : Int32) : va_W := [(a_t, .inr (0, [.int v_size, .int v_list, .int v_told, .ref a_kinds, .ref a_costs, .ref a_terms, .ref a_known]))]
abbrev rX0_has : Room := { frames := 0, cells := 0, slots := 0, locals := 0 }
def fX0_has (v_size : Int32) (x1 : Int32) : Option (Int32 × Unit) :=
  (if x1 < 0 then (
  some (0, ()))
  else (
  (if v_size ≤ x1 then (
  some (0, ()))
  else (
  some (1, ())))))
set_option maxRecDepth 100000 in
set_option maxHeartbeats 4000000 in
theorem tX0_has (l : Launch) (D : va_G) (cI cJ cZ cS : ClassId) (tb : Nat) (a_t a_kinds a_costs a_terms a_known : Nat) (sz : Nat) (v_size : Int32) (v_list : Int32) (v_told : Int32) (x1 : Int32) (rr : Int32) (kk' : Unit) (hf : fX0_has v_size x1 = some (rr, kk')) : Met l yX0_has (Cond.code yX0_has cX0_has 2 (some .boolean) :: wA) rX0_has (q_Pre D cI cJ cZ cS tb [.ref a_t, .int x1] sz (wX0_has cI cJ cZ cS a_t a_kinds a_costs a_terms a_known v_size v_list v_told)) (q_Ri D rr (va_A (wX0_has cI cJ cZ cS a_t a_kinds a_costs a_terms a_known v_size v_list v_told) sz) ((fun k : Unit => (wX0_has cI cJ cZ cS a_t a_kinds a_costs a_terms a_known v_size v_list v_told)) kk')) 0 0 (va_A (wX0_has cI cJ cZ cS a_t a_kinds a_costs a_terms a_known v_size v_list v_told) sz) := by
  refine q_enter (Qf := fun A => (q_Ri D rr A ((fun k : Unit => (wX0_has cI cJ cZ cS a_t a_kinds a_costs a_terms a_known v_size v_list v_told)) kk'))) (by decide) rfl (Nat.le_of_ble_eq_true rfl) ?_
  intro p e s m below meth c A ls fx hname h hl
  have hx := fx.1
  have hb := fx.2.1
  have hl : lv_has ls 2 [(0, .ref a_t), (1, .int x1)] := hl
  generalize h9 : s.heap = H at h ⊢
  clear h9
  generalize h9 : ([] : List Loc) = locs at h ⊢
  clear h9
  unfold fX0_has at hf
  refine lv_iload_n hx hb dX0_has_0 rfl (lv_at hl 1 rfl) ?_
  refine lv_if_lt (tgt := 16) hx hb dX0_has_1 (by decide) (fun c1 => ?_) (fun c1 => ?_)
  · have hf := it_t c1 hf
    refine lv_iconst (v := 0) hx hb dX0_has_16 (by decide) ?_
    exact q_retz (fun k : Unit => (wX0_has cI cJ cZ cS a_t a_kinds a_costs a_terms a_known v_size v_list v_told)) fx rfl hf h dX0_has_17
  have hf := it_f c1 hf
  refine lv_iload_n hx hb dX0_has_4 rfl (lv_at hl 1 rfl) ?_
  refine lv_aload_n hx hb dX0_has_5 rfl (lv_at hl 0 rfl) ?_
  refine q_get (v := .int v_size) fx inX0 h 0 rfl rfl 0 (by decide) k_80 rfl dX0_has_6 ?_
  refine lv_icmp_ge (tgt := 16) hx hb dX0_has_9 (by decide) (fun c2 => ?_) (fun c2 => ?_)
  · have hf := it_t c2 hf
    refine lv_iconst (v := 0) hx hb dX0_has_16 (by decide) ?_
    exact q_retz (fun k : Unit => (wX0_has cI cJ cZ cS a_t a_kinds a_costs a_terms a_known v_size v_list v_told)) fx rfl hf h dX0_has_17
  have hf := it_f c2 hf
  refine lv_iconst (v := 1) hx hb dX0_has_12 (by decide) ?_
  refine lv_goto (tgt := 17) hx hb dX0_has_13 (by decide) ?_
  exact q_retz (fun k : Unit => (wX0_has cI cJ cZ cS a_t a_kinds a_costs a_terms a_known v_size v_list v_told)) fx rfl hf h dX0_has_17
/-! X0_termHolds -/
abbrev wX0_termHolds (cI cJ cZ cS : ClassId) (a_t a_kinds a_costs a_terms a_known : Nat) (v_size : Int32) (v_list : Int32) (v_told : Int32) (v_terms : Nat → Int64) : va_W := [(a_t, .inr (0, [.int v_size, .int v_list, .int v_told, .ref a_kinds, .ref a_costs, .ref a_terms, .ref a_known])), (a_terms, .inl (cJ, 32, .inr (.inl v_terms)))]
abbrev rX0_termHolds : Room := { frames := 0, cells := 0, slots := 0, locals := 0 }
def fX0_termHolds (v_terms : Nat → Int64) (x1 : Int32) (x2 : Int32) : Option (Int32 × Unit) :=
  nm ((x2 &&& 255) / 64) (fun u1 =>
  gIn ((x1 * 4) + u1) 32 (
  (if (lg_cmp ((jlushr (v_terms ((x1 * 4) + u1).toNatClampNeg) (jrem x2 64)) &&& 1) 0) = 0 then (
  some (0, ()))
  else (
  some (1, ())))))
set_option maxRecDepth 100000 in
set_option maxHeartbeats 4000000 in
theorem tX0_termHolds (l : Launch) (D : va_G) (cI cJ cZ cS : ClassId) (tb : Nat) (a_t a_kinds a_costs a_terms a_known : Nat) (sz : Nat) (v_size : Int32) (v_list : Int32) (v_told : Int32) (v_terms : Nat → Int64) (x1 : Int32) (x2 : Int32) (rr : Int32) (kk' : Unit) (hf : fX0_termHolds v_terms x1 x2 = some (rr, kk')) : Met l yX0_termHolds (Cond.code yX0_termHolds cX0_termHolds 4 (some .boolean) :: wA) rX0_termHolds (q_Pre D cI cJ cZ cS tb [.ref a_t, .int x1, .int x2] sz (wX0_termHolds cI cJ cZ cS a_t a_kinds a_costs a_terms a_known v_size v_list v_told v_terms)) (q_Ri D rr (va_A (wX0_termHolds cI cJ cZ cS a_t a_kinds a_costs a_terms a_known v_size v_list v_told v_terms) sz) ((fun k : Unit => (wX0_termHolds cI cJ cZ cS a_t a_kinds a_costs a_terms a_known v_size v_list v_told v_terms)) kk')) 0 0 (va_A (wX0_termHolds cI cJ cZ cS a_t a_kinds a_costs a_terms a_known v_size v_list v_told v_terms) sz) := by
  refine q_enter (Qf := fun A => (q_Ri D rr A ((fun k : Unit => (wX0_termHolds cI cJ cZ cS a_t a_kinds a_costs a_terms a_known v_size v_list v_told v_terms)) kk'))) (by decide) rfl (Nat.le_of_ble_eq_true rfl) ?_
  intro p e s m below meth c A ls fx hname h hl
  have hx := fx.1
  have hb := fx.2.1
  have hl : lv_has ls 4 [(0, .ref a_t), (1, .int x1), (2, .int x2)] := hl
  generalize h9 : s.heap = H at h ⊢
  clear h9
  generalize h9 : ([] : List Loc) = locs at h ⊢
  clear h9
  unfold fX0_termHolds at hf
  refine lv_iload_n hx hb dX0_termHolds_0 rfl (lv_at hl 2 rfl) ?_
  refine lv_sipush (v := 255) hx hb dX0_termHolds_1 (by decide) ?_
  refine lv_iand hx hb dX0_termHolds_4 ?_
  refine lv_bipush (v := 64) hx hb dX0_termHolds_5 (by decide) ?_
  refine lv_idiv hx hb dX0_termHolds_7 (by decide) ?_
  obtain ⟨u1, eu1, hf⟩ := nm_inv hf
  refine lv_eqi eu1 ?_
  refine lv_istore_n (lv' := [(3, .int u1), (0, .ref a_t), (1, .int x1), (2, .int x2)]) hx hb dX0_termHolds_8 rfl hl (by decide) rfl (fun ls hl => ?_)
  refine lv_aload_n hx hb dX0_termHolds_9 rfl (lv_at hl 1 rfl) ?_
  refine q_get (v := .ref a_terms) fx inX0 h 0 rfl rfl 5 (by decide) k_92 rfl dX0_termHolds_10 ?_
  refine lv_iload_n hx hb dX0_termHolds_13 rfl (lv_at hl 2 rfl) ?_
  refine lv_iconst (v := 4) hx hb dX0_termHolds_14 (by decide) ?_
  refine lv_imul hx hb dX0_termHolds_15 ?_
  refine lv_iload_n hx hb dX0_termHolds_16 rfl (lv_at hl 0 rfl) ?_
  refine lv_iadd hx hb dX0_termHolds_17 ?_
  obtain ⟨i2, hf⟩ := gIn_inv hf
  refine q_lald fx h 1 rfl i2 dX0_termHolds_18 ?_
  refine lv_iload_n hx hb dX0_termHolds_19 rfl (lv_at hl 3 rfl) ?_
  refine lv_bipush (v := 64) hx hb dX0_termHolds_20 (by decide) ?_
  refine lv_irem hx hb dX0_termHolds_22 (by decide) ?_
  refine lv_lushr hx hb dX0_termHolds_23 rfl ?_
  refine lv_lconst (v := 1) hx hb dX0_termHolds_24 (by decide) ?_
  refine lv_land hx hb dX0_termHolds_25 ?_
  refine lv_lconst (v := 0) hx hb dX0_termHolds_26 (by decide) ?_
  refine W.lcmp hx hb dX0_termHolds_27 ?_
  refine lv_if_eq (tgt := 35) hx hb dX0_termHolds_28 (by decide) (fun c3 => ?_) (fun c3 => ?_)
  · have hf := it_t c3 hf
    refine lv_iconst (v := 0) hx hb dX0_termHolds_35 (by decide) ?_
    exact q_retz (fun k : Unit => (wX0_termHolds cI cJ cZ cS a_t a_kinds a_costs a_terms a_known v_size v_list v_told v_terms)) fx rfl hf h dX0_termHolds_36
  have hf := it_f c3 hf
  refine lv_iconst (v := 1) hx hb dX0_termHolds_31 (by decide) ?_
  refine lv_goto (tgt := 36) hx hb dX0_termHolds_32 (by decide) ?_
  exact q_retz (fun k : Unit => (wX0_termHolds cI cJ cZ cS a_t a_kinds a_costs a_terms a_known v_size v_list v_told v_terms)) fx rfl hf h dX0_termHolds_36
/-! J6_bitCount_0f7a4 -/
abbrev wJ6_bitCount_0f7a4 (cI cJ cZ cS : ClassId) : va_W := []
abbrev rJ6_bitCount_0f7a4 : Room := { frames := 0, cells := 0, slots := 0, locals := 0 }
def fJ6_bitCount_0f7a4 (x0 : Int32) : Option (Int32 × Unit) :=
  nm (x0 - ((jushr x0 1) &&& 1431655765)) (fun u1 =>
  nm ((u1 &&& 858993459) + ((jushr u1 2) &&& 858993459)) (fun u2 =>
  nm ((u2 + (jushr u2 4)) &&& 252645135) (fun u3 =>
  nm (u3 + (jushr u3 8)) (fun u4 =>
  nm (u4 + (jushr u4 16)) (fun u5 =>
  some (u5 &&& 63, ()))))))
set_option maxRecDepth 100000 in
set_option maxHeartbeats 4000000 in
theorem tJ6_bitCount_0f7a4 (l : Launch) (D : va_G) (cI cJ cZ cS : ClassId) (tb : Nat) (sz : Nat) (x0 : Int32) (rr : Int32) (kk' : Unit) (hf : fJ6_bitCount_0f7a4 x0 = some (rr, kk')) : Met l yJ6_bitCount_0f7a4 (Cond.code yJ6_bitCount_0f7a4 cJ6_bitCount_0f7a4 1 (some .int) :: wA) rJ6_bitCount_0f7a4 (q_Pre D cI cJ cZ cS tb [.int x0] sz (wJ6_bitCount_0f7a4 cI cJ cZ cS)) (q_Ri D rr (va_A (wJ6_bitCount_0f7a4 cI cJ cZ cS) sz) ((fun k : Unit => (wJ6_bitCount_0f7a4 cI cJ cZ cS)) kk')) 0 0 (va_A (wJ6_bitCount_0f7a4 cI cJ cZ cS) sz) := by
  refine q_enter (Qf := fun A => (q_Ri D rr A ((fun k : Unit => (wJ6_bitCount_0f7a4 cI cJ cZ cS)) kk'))) (by decide) rfl (Nat.le_of_ble_eq_true rfl) ?_
  intro p e s m below meth c A ls fx hname h hl
  have hx := fx.1
  have hb := fx.2.1
  have hl : lv_has ls 1 [(0, .int x0)] := hl
  generalize h9 : s.heap = H at h ⊢
  clear h9
  generalize h9 : ([] : List Loc) = locs at h ⊢
  clear h9
  unfold fJ6_bitCount_0f7a4 at hf
  refine lv_iload_n hx hb dJ6_bitCount_0f7a4_0 rfl (lv_at hl 0 rfl) ?_
  refine lv_iload_n hx hb dJ6_bitCount_0f7a4_1 rfl (lv_at hl 0 rfl) ?_
  refine lv_iconst (v := 1) hx hb dJ6_bitCount_0f7a4_2 (by decide) ?_
  refine lv_iushr hx hb dJ6_bitCount_0f7a4_3 rfl ?_
  refine q_ldcw fx k_242 dJ6_bitCount_0f7a4_4 ?_
  refine lv_iand hx hb dJ6_bitCount_0f7a4_7 ?_
  refine lv_isub hx hb dJ6_bitCount_0f7a4_8 ?_
  obtain ⟨u1, eu1, hf⟩ := nm_inv hf
  refine lv_eqi eu1 ?_
  refine lv_istore_n (lv' := [(0, .int u1)]) hx hb dJ6_bitCount_0f7a4_9 rfl hl (by decide) rfl (fun ls hl => ?_)
  refine lv_iload_n hx hb dJ6_bitCount_0f7a4_10 rfl (lv_at hl 0 rfl) ?_
  refine q_ldcw fx k_243 dJ6_bitCount_0f7a4_11 ?_
  refine lv_iand hx hb dJ6_bitCount_0f7a4_14 ?_
  refine lv_iload_n hx hb dJ6_bitCount_0f7a4_15 rfl (lv_at hl 0 rfl) ?_
  refine lv_iconst (v := 2) hx hb dJ6_bitCount_0f7a4_16 (by decide) ?_
  refine lv_iushr hx hb dJ6_bitCount_0f7a4_17 rfl ?_
  refine q_ldcw fx k_243 dJ6_bitCount_0f7a4_18 ?_
  refine lv_iand hx hb dJ6_bitCount_0f7a4_21 ?_
  refine lv_iadd hx hb dJ6_bitCount_0f7a4_22 ?_
  obtain ⟨u2, eu2, hf⟩ := nm_inv hf
  refine lv_eqi eu2 ?_
  refine lv_istore_n (lv' := [(0, .int u2)]) hx hb dJ6_bitCount_0f7a4_23 rfl hl (by decide) rfl (fun ls hl => ?_)
  refine lv_iload_n hx hb dJ6_bitCount_0f7a4_24 rfl (lv_at hl 0 rfl) ?_
  refine lv_iload_n hx hb dJ6_bitCount_0f7a4_25 rfl (lv_at hl 0 rfl) ?_
  refine lv_iconst (v := 4) hx hb dJ6_bitCount_0f7a4_26 (by decide) ?_
  refine lv_iushr hx hb dJ6_bitCount_0f7a4_27 rfl ?_
  refine lv_iadd hx hb dJ6_bitCount_0f7a4_28 ?_
  refine q_ldcw fx k_244 dJ6_bitCount_0f7a4_29 ?_
  refine lv_iand hx hb dJ6_bitCount_0f7a4_32 ?_
  obtain ⟨u3, eu3, hf⟩ := nm_inv hf
  refine lv_eqi eu3 ?_
  refine lv_istore_n (lv' := [(0, .int u3)]) hx hb dJ6_bitCount_0f7a4_33 rfl hl (by decide) rfl (fun ls hl => ?_)
  refine lv_iload_n hx hb dJ6_bitCount_0f7a4_34 rfl (lv_at hl 0 rfl) ?_
  refine lv_iload_n hx hb dJ6_bitCount_0f7a4_35 rfl (lv_at hl 0 rfl) ?_
  refine lv_bipush (v := 8) hx hb dJ6_bitCount_0f7a4_36 (by decide) ?_
  refine lv_iushr hx hb dJ6_bitCount_0f7a4_38 rfl ?_
  refine lv_iadd hx hb dJ6_bitCount_0f7a4_39 ?_
  obtain ⟨u4, eu4, hf⟩ := nm_inv hf
  refine lv_eqi eu4 ?_
  refine lv_istore_n (lv' := [(0, .int u4)]) hx hb dJ6_bitCount_0f7a4_40 rfl hl (by decide) rfl (fun ls hl => ?_)
  refine lv_iload_n hx hb dJ6_bitCount_0f7a4_41 rfl (lv_at hl 0 rfl) ?_
  refine lv_iload_n hx hb dJ6_bitCount_0f7a4_42 rfl (lv_at hl 0 rfl) ?_
  refine lv_bipush (v := 16) hx hb dJ6_bitCount_0f7a4_43 (by decide) ?_
  refine lv_iushr hx hb dJ6_bitCount_0f7a4_45 rfl ?_
  refine lv_iadd hx hb dJ6_bitCount_0f7a4_46 ?_
  obtain ⟨u5, eu5, hf⟩ := nm_inv hf
  refine lv_eqi eu5 ?_
  refine lv_istore_n (lv' := [(0, .int u5)]) hx hb dJ6_bitCount_0f7a4_47 rfl hl (by decide) rfl (fun ls hl => ?_)
  refine lv_iload_n hx hb dJ6_bitCount_0f7a4_48 rfl (lv_at hl 0 rfl) ?_
  refine lv_bipush (v := 63) hx hb dJ6_bitCount_0f7a4_49 (by decide) ?_
  refine lv_iand hx hb dJ6_bitCount_0f7a4_51 ?_
  exact q_reti (fun k : Unit => (wJ6_bitCount_0f7a4 cI cJ cZ cS)) fx hf h dJ6_bitCount_0f7a4_52
/-! X4_othersOn -/
abbrev wX4_othersOn (cI cJ cZ cS : ClassId) : va_W := []
abbrev rX4_othersOn : Room := { frames := 1, cells := 0, slots := 0, locals := 20 }
def fX4_othersOn (x0 : Int32) (x1 : Int32) : Option (Int32 × Unit) :=
  bR (fJ6_bitCount_0f7a4 (x1 &&& ((jshl 1 x0) ^^^ (-1)))) (fun r1 k1 =>
  some (r1, ()))
set_option maxRecDepth 100000 in
set_option maxHeartbeats 4000000 in
theorem tX4_othersOn (l : Launch) (D : va_G) (cI cJ cZ cS : ClassId) (tb : Nat) (sz : Nat) (x0 : Int32) (x1 : Int32) (rr : Int32) (kk' : Unit) (hf : fX4_othersOn x0 x1 = some (rr, kk')) : Met l yX4_othersOn (Cond.code yX4_othersOn cX4_othersOn 2 (some .int) :: wA) rX4_othersOn (q_Pre D cI cJ cZ cS tb [.int x0, .int x1] sz (wX4_othersOn cI cJ cZ cS)) (q_Ri D rr (va_A (wX4_othersOn cI cJ cZ cS) sz) ((fun k : Unit => (wX4_othersOn cI cJ cZ cS)) kk')) 0 0 (va_A (wX4_othersOn cI cJ cZ cS) sz) := by
  refine q_enter (Qf := fun A => (q_Ri D rr A ((fun k : Unit => (wX4_othersOn cI cJ cZ cS)) kk'))) (by decide) rfl (Nat.le_of_ble_eq_true rfl) ?_
  intro p e s m below meth c A ls fx hname h hl
  have hx := fx.1
  have hb := fx.2.1
  have hl : lv_has ls 2 [(0, .int x0), (1, .int x1)] := hl
  generalize h9 : s.heap = H at h ⊢
  clear h9
  generalize h9 : ([] : List Loc) = locs at h ⊢
  clear h9
  unfold fX4_othersOn at hf
  refine lv_iload_n hx hb dX4_othersOn_0 rfl (lv_at hl 1 rfl) ?_
  refine lv_iconst (v := 1) hx hb dX4_othersOn_1 (by decide) ?_
  refine lv_iload_n hx hb dX4_othersOn_2 rfl (lv_at hl 0 rfl) ?_
  refine lv_ishl hx hb dX4_othersOn_3 ?_
  refine lv_iconst (v := -1) hx hb dX4_othersOn_4 (by decide) ?_
  refine lv_ixor hx hb dX4_othersOn_5 ?_
  refine lv_iand hx hb dX4_othersOn_6 ?_
  obtain ⟨r1, k1, hg, hf⟩ := bR_inv hf
  refine q_ci (rest := []) (ws' := (wX4_othersOn cI cJ cZ cS)) (w1 := (wJ6_bitCount_0f7a4 cI cJ cZ cS)) fx h [] rfl rfl rfl rfl (q_runS fx h hl.1 [] rfl rfl (tJ6_bitCount_0f7a4 l D cI cJ cZ cS tb H.size (x1 &&& ((jshl 1 x0) ^^^ (-1))) r1 k1 hg) msJ6_bitCount_0f7a4 k_239 ⟨rfl, rfl⟩ ⟨Nat.le_of_ble_eq_true rfl, Nat.le_of_ble_eq_true rfl⟩ rfl rfl (Nat.le_of_ble_eq_true rfl) dX4_othersOn_7 ⟨Nat.le_of_ble_eq_true rfl, Nat.le_of_ble_eq_true rfl⟩) (fun H locs h => ?_)
  exact q_reti (fun k : Unit => (wX4_othersOn cI cJ cZ cS)) fx hf h dX4_othersOn_10
/-! X0_wouldComeAs -/
abbrev wX0_wouldComeAs (cI cJ cZ cS : ClassId) (a_t a_kinds a_costs a_terms a_known : Nat) (v_size : Int32) (v_list : Int32) (v_told : Int32) (v_terms : Nat → Int64) : va_W := [(a_t, .inr (0, [.int v_size, .int v_list, .int v_told, .ref a_kinds, .ref a_costs, .ref a_terms, .ref a_known])), (a_terms, .inl (cJ, 32, .inr (.inl v_terms)))]
abbrev rX0_wouldComeAs : Room := { frames := 2, cells := 0, slots := 0, locals := 41 }
def fX0_wouldComeAs (v_terms : Nat → Int64) (x1 : Int32) (x2 : Int32) (x3 : Int32) : Option (Int32 × Unit) :=
  bR (fX0_termHolds v_terms x2 x3) (fun r1 k1 =>
  bR (fX4_othersOn x2 x3) (fun r2 k2 =>
  (if (x1).toInt < 0 ∨ 5 < (x1).toInt then (
  some (0, ()))
  else (if x1 = 0 then (
  gB r1 (some (r1, ())))
  else (if x1 = 1 then (
  (if r1 = 0 then (
  (if r2 < 4 then (
  some (0, ()))
  else (
  some (1, ()))))
  else (
  some (1, ()))))
  else (if x1 = 2 then (
  (if r1 = 0 then (
  some (0, ()))
  else (
  (if (4 : Int32) < r2 then (
  some (0, ()))
  else (
  some (1, ()))))))
  else (if x1 = 3 then (
  some (0, ()))
  else (if x1 = 4 then (
  (if r1 = 0 then (
  (if (4 : Int32) ≤ r2 then (
  some (1, ()))
  else (
  (if r2 = 0 then (
  some (1, ()))
  else (
  some (0, ()))))))
  else (
  some (1, ()))))
  else (if x1 = 5 then (
  (if r1 = 0 then (
  some (1, ()))
  else (
  (if r2 ≤ 4 then (
  some (0, ()))
  else (
  some (1, ()))))))
  else none)))))))))
set_option maxRecDepth 100000 in
set_option maxHeartbeats 4000000 in
theorem tX0_wouldComeAs (l : Launch) (D : va_G) (cI cJ cZ cS : ClassId) (tb : Nat) (a_t a_kinds a_costs a_terms a_known : Nat) (sz : Nat) (v_size : Int32) (v_list : Int32) (v_told : Int32) (v_terms : Nat → Int64) (x1 : Int32) (x2 : Int32) (x3 : Int32) (rr : Int32) (kk' : Unit) (hf : fX0_wouldComeAs v_terms x1 x2 x3 = some (rr, kk')) : Met l yX0_wouldComeAs (Cond.code yX0_wouldComeAs cX0_wouldComeAs 6 (some .boolean) :: wA) rX0_wouldComeAs (q_Pre D cI cJ cZ cS tb [.ref a_t, .int x1, .int x2, .int x3] sz (wX0_wouldComeAs cI cJ cZ cS a_t a_kinds a_costs a_terms a_known v_size v_list v_told v_terms)) (q_Ri D rr (va_A (wX0_wouldComeAs cI cJ cZ cS a_t a_kinds a_costs a_terms a_known v_size v_list v_told v_terms) sz) ((fun k : Unit => (wX0_wouldComeAs cI cJ cZ cS a_t a_kinds a_costs a_terms a_known v_size v_list v_told v_terms)) kk')) 0 0 (va_A (wX0_wouldComeAs cI cJ cZ cS a_t a_kinds a_costs a_terms a_known v_size v_list v_told v_terms) sz) := by
  refine q_enter (Qf := fun A => (q_Ri D rr A ((fun k : Unit => (wX0_wouldComeAs cI cJ cZ cS a_t a_kinds a_costs a_terms a_known v_size v_list v_told v_terms)) kk'))) (by decide) rfl (Nat.le_of_ble_eq_true rfl) ?_
  intro p e s m below meth c A ls fx hname h hl
  have hx := fx.1
  have hb := fx.2.1
  have hl : lv_has ls 6 [(0, .ref a_t), (1, .int x1), (2, .int x2), (3, .int x3)] := hl
  generalize h9 : s.heap = H at h ⊢
  clear h9
  generalize h9 : ([] : List Loc) = locs at h ⊢
  clear h9
  unfold fX0_wouldComeAs at hf
  refine lv_aload_n hx hb dX0_wouldComeAs_0 rfl (lv_at hl 0 rfl) ?_
  refine lv_iload_n hx hb dX0_wouldComeAs_1 rfl (lv_at hl 2 rfl) ?_
  refine lv_iload_n hx hb dX0_wouldComeAs_2 rfl (lv_at hl 3 rfl) ?_
  obtain ⟨r1, k1, hg, hf⟩ := bR_inv hf
  refine q_ci (rest := []) (ws' := (wX0_wouldComeAs cI cJ cZ cS a_t a_kinds a_costs a_terms a_known v_size v_list v_told v_terms)) (w1 := (wX0_termHolds cI cJ cZ cS a_t a_kinds a_costs a_terms a_known v_size v_list v_told v_terms)) fx h [0, 1] rfl rfl rfl rfl (q_runV fx h hl.1 [0, 1] rfl rfl (tX0_termHolds l D cI cJ cZ cS tb a_t a_kinds a_costs a_terms a_known H.size v_size v_list v_told v_terms x2 x3 r1 k1 hg) mvX0_termHolds k_232 ⟨rfl, rfl⟩ ⟨Nat.le_of_ble_eq_true rfl, Nat.le_of_ble_eq_true rfl⟩ rfl rfl rfl rfl (Nat.le_of_ble_eq_true rfl) dX0_wouldComeAs_3 ⟨Nat.le_of_ble_eq_true rfl, Nat.le_of_ble_eq_true rfl⟩) (fun H locs h => ?_)
  refine lv_istore (lv' := [(4, .int r1), (0, .ref a_t), (1, .int x1), (2, .int x2), (3, .int x3)]) hx hb dX0_wouldComeAs_6 hl (by decide) rfl (fun ls hl => ?_)
  refine lv_iload_n hx hb dX0_wouldComeAs_8 rfl (lv_at hl 3 rfl) ?_
  refine lv_iload_n hx hb dX0_wouldComeAs_9 rfl (lv_at hl 4 rfl) ?_
  obtain ⟨r2, k2, hg, hf⟩ := bR_inv hf
  refine q_ci (rest := []) (ws' := (wX0_wouldComeAs cI cJ cZ cS a_t a_kinds a_costs a_terms a_known v_size v_list v_told v_terms)) (w1 := (wX4_othersOn cI cJ cZ cS)) fx h [] rfl rfl rfl rfl (q_runSN fx h hl.1 [] rfl rfl (tX4_othersOn l D cI cJ cZ cS tb H.size x2 x3 r2 k2 hg) msX4_othersOn nm_0 ⟨rfl, rfl⟩ ⟨Nat.le_of_ble_eq_true rfl, Nat.le_of_ble_eq_true rfl⟩ rfl rfl (Nat.le_of_ble_eq_true rfl) dX0_wouldComeAs_10 ⟨Nat.le_of_ble_eq_true rfl, Nat.le_of_ble_eq_true rfl⟩) (fun H locs h => ?_)
  refine lv_istore (lv' := [(5, .int r2), (4, .int r1), (0, .ref a_t), (1, .int x1), (2, .int x2), (3, .int x3)]) hx hb dX0_wouldComeAs_13 hl (by decide) rfl (fun ls hl => ?_)
  refine lv_iload_n hx hb dX0_wouldComeAs_15 rfl (lv_at hl 3 rfl) ?_
  rcases it_or hf with ⟨c3, hf⟩ | ⟨c3, hf⟩
  · refine lv_tableOut (tgt := 132) hx hb dX0_wouldComeAs_16 c3 (by decide) ?_
    refine lv_iconst (v := 0) hx hb dX0_wouldComeAs_132 (by decide) ?_
    exact q_retz (fun k : Unit => (wX0_wouldComeAs cI cJ cZ cS a_t a_kinds a_costs a_terms a_known v_size v_list v_told v_terms)) fx rfl hf h dX0_wouldComeAs_133
  have c3 := not_or.mp c3
  rcases it_or hf with ⟨c4, hf⟩ | ⟨c4, hf⟩
  · refine lv_tableIn (off := 40) (tgt := 56) hx hb dX0_wouldComeAs_16 c3.1 c3.2 (by rw [c4]; rfl) (by decide) ?_
    refine lv_iload hx hb dX0_wouldComeAs_56 (lv_at hl 1 rfl) ?_
    obtain ⟨b5, hf⟩ := gB_inv hf
    exact q_retz (fun k : Unit => (wX0_wouldComeAs cI cJ cZ cS a_t a_kinds a_costs a_terms a_known v_size v_list v_told v_terms)) fx b5 hf h dX0_wouldComeAs_58
  rcases it_or hf with ⟨c6, hf⟩ | ⟨c6, hf⟩
  · refine lv_tableIn (off := 43) (tgt := 59) hx hb dX0_wouldComeAs_16 c3.1 c3.2 (by rw [c6]; rfl) (by decide) ?_
    refine lv_iload hx hb dX0_wouldComeAs_59 (lv_at hl 1 rfl) ?_
    refine lv_if_ne (tgt := 70) hx hb dX0_wouldComeAs_61 (by decide) (fun c7 => ?_) (fun c7 => ?_)
    · have hf := it_f c7 hf
      refine lv_iconst (v := 1) hx hb dX0_wouldComeAs_70 (by decide) ?_
      refine lv_goto (tgt := 75) hx hb dX0_wouldComeAs_71 (by decide) ?_
      exact q_retz (fun k : Unit => (wX0_wouldComeAs cI cJ cZ cS a_t a_kinds a_costs a_terms a_known v_size v_list v_told v_terms)) fx rfl hf h dX0_wouldComeAs_75
    have hf := it_t c7 hf
    refine lv_iload hx hb dX0_wouldComeAs_64 (lv_at hl 0 rfl) ?_
    refine lv_iconst (v := 4) hx hb dX0_wouldComeAs_66 (by decide) ?_
    refine lv_icmp_lt (tgt := 74) hx hb dX0_wouldComeAs_67 (by decide) (fun c8 => ?_) (fun c8 => ?_)
    · have hf := it_t c8 hf
      refine lv_iconst (v := 0) hx hb dX0_wouldComeAs_74 (by decide) ?_
      exact q_retz (fun k : Unit => (wX0_wouldComeAs cI cJ cZ cS a_t a_kinds a_costs a_terms a_known v_size v_list v_told v_terms)) fx rfl hf h dX0_wouldComeAs_75
    have hf := it_f c8 hf
    refine lv_iconst (v := 1) hx hb dX0_wouldComeAs_70 (by decide) ?_
    refine lv_goto (tgt := 75) hx hb dX0_wouldComeAs_71 (by decide) ?_
    exact q_retz (fun k : Unit => (wX0_wouldComeAs cI cJ cZ cS a_t a_kinds a_costs a_terms a_known v_size v_list v_told v_terms)) fx rfl hf h dX0_wouldComeAs_75
  rcases it_or hf with ⟨c9, hf⟩ | ⟨c9, hf⟩
  · refine lv_tableIn (off := 60) (tgt := 76) hx hb dX0_wouldComeAs_16 c3.1 c3.2 (by rw [c9]; rfl) (by decide) ?_
    refine lv_iload hx hb dX0_wouldComeAs_76 (lv_at hl 1 rfl) ?_
    refine lv_if_eq (tgt := 91) hx hb dX0_wouldComeAs_78 (by decide) (fun c10 => ?_) (fun c10 => ?_)
    · have hf := it_t c10 hf
      refine lv_iconst (v := 0) hx hb dX0_wouldComeAs_91 (by decide) ?_
      exact q_retz (fun k : Unit => (wX0_wouldComeAs cI cJ cZ cS a_t a_kinds a_costs a_terms a_known v_size v_list v_told v_terms)) fx rfl hf h dX0_wouldComeAs_92
    have hf := it_f c10 hf
    refine lv_iload hx hb dX0_wouldComeAs_81 (lv_at hl 0 rfl) ?_
    refine lv_iconst (v := 4) hx hb dX0_wouldComeAs_83 (by decide) ?_
    refine lv_icmp_gt (tgt := 91) hx hb dX0_wouldComeAs_84 (by decide) (fun c11 => ?_) (fun c11 => ?_)
    · have hf := it_t c11 hf
      refine lv_iconst (v := 0) hx hb dX0_wouldComeAs_91 (by decide) ?_
      exact q_retz (fun k : Unit => (wX0_wouldComeAs cI cJ cZ cS a_t a_kinds a_costs a_terms a_known v_size v_list v_told v_terms)) fx rfl hf h dX0_wouldComeAs_92
    have hf := it_f c11 hf
    refine lv_iconst (v := 1) hx hb dX0_wouldComeAs_87 (by decide) ?_
    refine lv_goto (tgt := 92) hx hb dX0_wouldComeAs_88 (by decide) ?_
    exact q_retz (fun k : Unit => (wX0_wouldComeAs cI cJ cZ cS a_t a_kinds a_costs a_terms a_known v_size v_list v_told v_terms)) fx rfl hf h dX0_wouldComeAs_92
  rcases it_or hf with ⟨c12, hf⟩ | ⟨c12, hf⟩
  · refine lv_tableIn (off := 116) (tgt := 132) hx hb dX0_wouldComeAs_16 c3.1 c3.2 (by rw [c12]; rfl) (by decide) ?_
    refine lv_iconst (v := 0) hx hb dX0_wouldComeAs_132 (by decide) ?_
    exact q_retz (fun k : Unit => (wX0_wouldComeAs cI cJ cZ cS a_t a_kinds a_costs a_terms a_known v_size v_list v_told v_terms)) fx rfl hf h dX0_wouldComeAs_133
  rcases it_or hf with ⟨c13, hf⟩ | ⟨c13, hf⟩
  · refine lv_tableIn (off := 77) (tgt := 93) hx hb dX0_wouldComeAs_16 c3.1 c3.2 (by rw [c13]; rfl) (by decide) ?_
    refine lv_iload hx hb dX0_wouldComeAs_93 (lv_at hl 1 rfl) ?_
    refine lv_if_ne (tgt := 109) hx hb dX0_wouldComeAs_95 (by decide) (fun c14 => ?_) (fun c14 => ?_)
    · have hf := it_f c14 hf
      refine lv_iconst (v := 1) hx hb dX0_wouldComeAs_109 (by decide) ?_
      refine lv_goto (tgt := 114) hx hb dX0_wouldComeAs_110 (by decide) ?_
      exact q_retz (fun k : Unit => (wX0_wouldComeAs cI cJ cZ cS a_t a_kinds a_costs a_terms a_known v_size v_list v_told v_terms)) fx rfl hf h dX0_wouldComeAs_114
    have hf := it_t c14 hf
    refine lv_iload hx hb dX0_wouldComeAs_98 (lv_at hl 0 rfl) ?_
    refine lv_iconst (v := 4) hx hb dX0_wouldComeAs_100 (by decide) ?_
    refine lv_icmp_ge (tgt := 109) hx hb dX0_wouldComeAs_101 (by decide) (fun c15 => ?_) (fun c15 => ?_)
    · have hf := it_t c15 hf
      refine lv_iconst (v := 1) hx hb dX0_wouldComeAs_109 (by decide) ?_
      refine lv_goto (tgt := 114) hx hb dX0_wouldComeAs_110 (by decide) ?_
      exact q_retz (fun k : Unit => (wX0_wouldComeAs cI cJ cZ cS a_t a_kinds a_costs a_terms a_known v_size v_list v_told v_terms)) fx rfl hf h dX0_wouldComeAs_114
    have hf := it_f c15 hf
    refine lv_iload hx hb dX0_wouldComeAs_104 (lv_at hl 0 rfl) ?_
    refine lv_if_ne (tgt := 113) hx hb dX0_wouldComeAs_106 (by decide) (fun c16 => ?_) (fun c16 => ?_)
    · have hf := it_f c16 hf
      refine lv_iconst (v := 0) hx hb dX0_wouldComeAs_113 (by decide) ?_
      exact q_retz (fun k : Unit => (wX0_wouldComeAs cI cJ cZ cS a_t a_kinds a_costs a_terms a_known v_size v_list v_told v_terms)) fx rfl hf h dX0_wouldComeAs_114
    have hf := it_t c16 hf
    refine lv_iconst (v := 1) hx hb dX0_wouldComeAs_109 (by decide) ?_
    refine lv_goto (tgt := 114) hx hb dX0_wouldComeAs_110 (by decide) ?_
    exact q_retz (fun k : Unit => (wX0_wouldComeAs cI cJ cZ cS a_t a_kinds a_costs a_terms a_known v_size v_list v_told v_terms)) fx rfl hf h dX0_wouldComeAs_114
  rcases it_or hf with ⟨c17, hf⟩ | ⟨c17, hf⟩
  · refine lv_tableIn (off := 99) (tgt := 115) hx hb dX0_wouldComeAs_16 c3.1 c3.2 (by rw [c17]; rfl) (by decide) ?_
    refine lv_iload hx hb dX0_wouldComeAs_115 (lv_at hl 1 rfl) ?_
    refine lv_if_eq (tgt := 126) hx hb dX0_wouldComeAs_117 (by decide) (fun c18 => ?_) (fun c18 => ?_)
    · have hf := it_t c18 hf
      refine lv_iconst (v := 1) hx hb dX0_wouldComeAs_126 (by decide) ?_
      refine lv_goto (tgt := 131) hx hb dX0_wouldComeAs_127 (by decide) ?_
      exact q_retz (fun k : Unit => (wX0_wouldComeAs cI cJ cZ cS a_t a_kinds a_costs a_terms a_known v_size v_list v_told v_terms)) fx rfl hf h dX0_wouldComeAs_131
    have hf := it_f c18 hf
    refine lv_iload hx hb dX0_wouldComeAs_120 (lv_at hl 0 rfl) ?_
    refine lv_iconst (v := 4) hx hb dX0_wouldComeAs_122 (by decide) ?_
    refine lv_icmp_le (tgt := 130) hx hb dX0_wouldComeAs_123 (by decide) (fun c19 => ?_) (fun c19 => ?_)
    · have hf := it_t c19 hf
      refine lv_iconst (v := 0) hx hb dX0_wouldComeAs_130 (by decide) ?_
      exact q_retz (fun k : Unit => (wX0_wouldComeAs cI cJ cZ cS a_t a_kinds a_costs a_terms a_known v_size v_list v_told v_terms)) fx rfl hf h dX0_wouldComeAs_131
    have hf := it_f c19 hf
    refine lv_iconst (v := 1) hx hb dX0_wouldComeAs_126 (by decide) ?_
    refine lv_goto (tgt := 131) hx hb dX0_wouldComeAs_127 (by decide) ?_
    exact q_retz (fun k : Unit => (wX0_wouldComeAs cI cJ cZ cS a_t a_kinds a_costs a_terms a_known v_size v_list v_told v_terms)) fx rfl hf h dX0_wouldComeAs_131
  cases hf
/-! X0_comers -/
abbrev wX0_comers (cI cJ cZ cS : ClassId) (a_t a_kinds a_costs a_terms a_known : Nat) (v_size : Int32) (v_list : Int32) (v_told : Int32) (v_kinds : Nat → Int32) (v_terms : Nat → Int64) (v_known : Nat → Int32) : va_W := [(a_t, .inr (0, [.int v_size, .int v_list, .int v_told, .ref a_kinds, .ref a_costs, .ref a_terms, .ref a_known])), (a_kinds, .inl (cI, 8, .inl v_kinds)), (a_terms, .inl (cJ, 32, .inr (.inl v_terms))), (a_known, .inl (cI, 256, .inl v_known))]
abbrev rX0_comers : Room := { frames := 3, cells := 0, slots := 0, locals := 66 }
def fX0_comers_71 (v_size : Int32) (v_kinds : Nat → Int32) (v_terms : Nat → Int64) (v_known : Nat → Int32) (y2 : Int32) : Option (Int32 × (Nat → Int32)) :=
  gIn y2 256 (
  some (v_known y2.toNatClampNeg, v_known))
set_option maxRecDepth 100000 in
set_option maxHeartbeats 4000000 in
theorem LX0_comers_71 {p : Program} {l : Launch} {e : Env} {s : State} {m : MethodId} {args : Array Value} {below : List Frame} {meth : Method} {c : Code} {D : va_G} {cI cJ cZ cS : ClassId} {tb : Nat} {A : Nat → Prop} {a_t a_kinds a_costs a_terms a_known : Nat} {v_size : Int32} {v_list : Int32} {v_told : Int32} {v_kinds : Nat → Int32} {v_terms : Nat → Int64} {rr : Int32} {kk' : (Nat → Int32)} (fx : q_Fx p s m args meth c cX0_comers 5 RX0 (some .int) D cI cJ cZ cS tb A) : ∀ {v_known : Nat → Int32} {y2 : Int32} {H : Heap} {locs : List Loc} {ls : Array Slot}, q_H D A s (wX0_comers cI cJ cZ cS a_t a_kinds a_costs a_terms a_known v_size v_list v_told v_kinds v_terms v_known) H locs → lv_has ls 5 [(0, .ref a_t), (2, .int y2)] → fX0_comers_71 v_size v_kinds v_terms v_known y2 = some (rr, kk') → W p l e rX0_comers s m args below meth c H locs 0 0 (MQ below (q_Ri D rr A ((fun k : (Nat → Int32) => (wX0_comers cI cJ cZ cS a_t a_kinds a_costs a_terms a_known v_size v_list v_told v_kinds v_terms k)) kk')) args s 0 0 A) (F0 m 71 ls []) := by
  intro v_known y2 H locs ls h hl hf
  have hx := fx.1
  have hb := fx.2.1
  unfold fX0_comers_71 at hf
  refine lv_aload_n hx hb dX0_comers_71 rfl (lv_at hl 0 rfl) ?_
  refine q_get (v := .ref a_known) fx inX0 h 0 rfl rfl 6 (by decide) k_93 rfl dX0_comers_72 ?_
  refine lv_iload_n hx hb dX0_comers_75 rfl (lv_at hl 1 rfl) ?_
  obtain ⟨i1, hf⟩ := gIn_inv hf
  refine q_iald fx h 3 rfl i1 dX0_comers_76 ?_
  exact q_reti (fun k : (Nat → Int32) => (wX0_comers cI cJ cZ cS a_t a_kinds a_costs a_terms a_known v_size v_list v_told v_kinds v_terms k)) fx hf h dX0_comers_77
def fX0_comers_56 (v_size : Int32) (v_kinds : Nat → Int32) (v_terms : Nat → Int64) (ag21 : (Nat → Int32) → Int32 → Int32 → Int32 → Option (Int32 × (Nat → Int32))) (v_known : Nat → Int32) (s0 : Int32) (s1 : Int32) (y2 : Int32) (y4 : Int32) : Option (Int32 × (Nat → Int32)) :=
  nm (s0 ||| s1) (fun u2 =>
  nm (y4 + 1) (fun u3 =>
  ag21 v_known y2 u2 u3))
set_option maxRecDepth 100000 in
set_option maxHeartbeats 4000000 in
theorem LX0_comers_56 {p : Program} {l : Launch} {e : Env} {s : State} {m : MethodId} {args : Array Value} {below : List Frame} {meth : Method} {c : Code} {D : va_G} {cI cJ cZ cS : ClassId} {tb : Nat} {A : Nat → Prop} {a_t a_kinds a_costs a_terms a_known : Nat} {v_size : Int32} {v_list : Int32} {v_told : Int32} {v_kinds : Nat → Int32} {v_terms : Nat → Int64} {rr : Int32} {kk' : (Nat → Int32)} (fx : q_Fx p s m args meth c cX0_comers 5 RX0 (some .int) D cI cJ cZ cS tb A) {ag21 : (Nat → Int32) → Int32 → Int32 → Int32 → Option (Int32 × (Nat → Int32))} (hag21 : ∀ {v_known : Nat → Int32} {y2 : Int32} {y3 : Int32} {y4 : Int32} {H : Heap} {locs : List Loc} {ls : Array Slot}, q_H D A s (wX0_comers cI cJ cZ cS a_t a_kinds a_costs a_terms a_known v_size v_list v_told v_kinds v_terms v_known) H locs → lv_has ls 5 [(0, .ref a_t), (2, .int y2), (3, .int y3), (4, .int y4)] → ag21 v_known y2 y3 y4 = some (rr, kk') → W p l e rX0_comers s m args below meth c H locs 0 0 (MQ below (q_Ri D rr A ((fun k : (Nat → Int32) => (wX0_comers cI cJ cZ cS a_t a_kinds a_costs a_terms a_known v_size v_list v_told v_kinds v_terms k)) kk')) args s 0 0 A) (F0 m 21 ls [])) : ∀ {v_known : Nat → Int32} {s0 : Int32} {s1 : Int32} {y2 : Int32} {y4 : Int32} {H : Heap} {locs : List Loc} {ls : Array Slot}, q_H D A s (wX0_comers cI cJ cZ cS a_t a_kinds a_costs a_terms a_known v_size v_list v_told v_kinds v_terms v_known) H locs → lv_has ls 5 [(0, .ref a_t), (2, .int y2), (4, .int y4)] → fX0_comers_56 v_size v_kinds v_terms ag21 v_known s0 s1 y2 y4 = some (rr, kk') → W p l e rX0_comers s m args below meth c H locs 0 0 (MQ below (q_Ri D rr A ((fun k : (Nat → Int32) => (wX0_comers cI cJ cZ cS a_t a_kinds a_costs a_terms a_known v_size v_list v_told v_kinds v_terms k)) kk')) args s 0 0 A) (F0 m 56 ls [.int s1, .int s0]) := by
  intro v_known s0 s1 y2 y4 H locs ls h hl hf
  have hx := fx.1
  have hb := fx.2.1
  unfold fX0_comers_56 at hf
  refine lv_ior hx hb dX0_comers_56 ?_
  obtain ⟨u2, eu2, hf⟩ := nm_inv hf
  refine lv_eqi eu2 ?_
  refine lv_istore_n (lv' := [(3, .int u2), (0, .ref a_t), (2, .int y2), (4, .int y4)]) hx hb dX0_comers_57 rfl hl (by decide) rfl (fun ls hl => ?_)
  obtain ⟨u3, eu3, hf⟩ := nm_inv hf
  refine lv_iinc (v := u3) (lv' := [(4, .int u3), (3, .int u2), (0, .ref a_t), (2, .int y2)]) hx hb dX0_comers_58 hl (k := 3) rfl (by rw [eu3]; rfl) (by decide) rfl (fun ls hl => ?_)
  refine lv_goto (tgt := 21) hx hb dX0_comers_61 (by decide) ?_
  exact hag21 h (lv_sub hl [2, 3, 1, 0] rfl) hf
def fX0_comers_21 (v_size : Int32) (v_kinds : Nat → Int32) (v_terms : Nat → Int64) (ag21 : (Nat → Int32) → Int32 → Int32 → Int32 → Option (Int32 × (Nat → Int32))) (v_known : Nat → Int32) (y2 : Int32) (y3 : Int32) (y4 : Int32) : Option (Int32 × (Nat → Int32)) :=
  (if v_size ≤ y4 then (
  gIn y2 256 (
  fX0_comers_71 v_size v_kinds v_terms (upd v_known y2.toNatClampNeg y3) y2))
  else (
  gIn y4 8 (
  bR (fX0_wouldComeAs v_terms (v_kinds y4.toNatClampNeg) y4 y2) (fun r7 k7 =>
  (if r7 = 0 then (
  fX0_comers_56 v_size v_kinds v_terms ag21 v_known y3 0 y2 y4)
  else (
  fX0_comers_56 v_size v_kinds v_terms ag21 v_known y3 (jshl 1 y4) y2 y4))))))
set_option maxRecDepth 100000 in
set_option maxHeartbeats 4000000 in
theorem LX0_comers_21 {p : Program} {l : Launch} {e : Env} {s : State} {m : MethodId} {args : Array Value} {below : List Frame} {meth : Method} {c : Code} {D : va_G} {cI cJ cZ cS : ClassId} {tb : Nat} {A : Nat → Prop} {a_t a_kinds a_costs a_terms a_known : Nat} {v_size : Int32} {v_list : Int32} {v_told : Int32} {v_kinds : Nat → Int32} {v_terms : Nat → Int64} {rr : Int32} {kk' : (Nat → Int32)} (fx : q_Fx p s m args meth c cX0_comers 5 RX0 (some .int) D cI cJ cZ cS tb A) {ag21 : (Nat → Int32) → Int32 → Int32 → Int32 → Option (Int32 × (Nat → Int32))} (hag21 : ∀ {v_known : Nat → Int32} {y2 : Int32} {y3 : Int32} {y4 : Int32} {H : Heap} {locs : List Loc} {ls : Array Slot}, q_H D A s (wX0_comers cI cJ cZ cS a_t a_kinds a_costs a_terms a_known v_size v_list v_told v_kinds v_terms v_known) H locs → lv_has ls 5 [(0, .ref a_t), (2, .int y2), (3, .int y3), (4, .int y4)] → ag21 v_known y2 y3 y4 = some (rr, kk') → W p l e rX0_comers s m args below meth c H locs 0 0 (MQ below (q_Ri D rr A ((fun k : (Nat → Int32) => (wX0_comers cI cJ cZ cS a_t a_kinds a_costs a_terms a_known v_size v_list v_told v_kinds v_terms k)) kk')) args s 0 0 A) (F0 m 21 ls [])) : ∀ {v_known : Nat → Int32} {y2 : Int32} {y3 : Int32} {y4 : Int32} {H : Heap} {locs : List Loc} {ls : Array Slot}, q_H D A s (wX0_comers cI cJ cZ cS a_t a_kinds a_costs a_terms a_known v_size v_list v_told v_kinds v_terms v_known) H locs → lv_has ls 5 [(0, .ref a_t), (2, .int y2), (3, .int y3), (4, .int y4)] → fX0_comers_21 v_size v_kinds v_terms ag21 v_known y2 y3 y4 = some (rr, kk') → W p l e rX0_comers s m args below meth c H locs 0 0 (MQ below (q_Ri D rr A ((fun k : (Nat → Int32) => (wX0_comers cI cJ cZ cS a_t a_kinds a_costs a_terms a_known v_size v_list v_told v_kinds v_terms k)) kk')) args s 0 0 A) (F0 m 21 ls []) := by
  intro v_known y2 y3 y4 H locs ls h hl hf
  have hx := fx.1
  have hb := fx.2.1
  unfold fX0_comers_21 at hf
  refine lv_iload hx hb dX0_comers_21 (lv_at hl 3 rfl) ?_
  refine lv_aload_n hx hb dX0_comers_23 rfl (lv_at hl 0 rfl) ?_
  refine q_get (v := .int v_size) fx inX0 h 0 rfl rfl 0 (by decide) k_80 rfl dX0_comers_24 ?_
  refine lv_icmp_ge (tgt := 64) hx hb dX0_comers_27 (by decide) (fun c4 => ?_) (fun c4 => ?_)
  · have hf := it_t c4 hf
    refine lv_aload_n hx hb dX0_comers_64 rfl (lv_at hl 0 rfl) ?_
    refine q_get (v := .ref a_known) fx inX0 h 0 rfl rfl 6 (by decide) k_93 rfl dX0_comers_65 ?_
    refine lv_iload_n hx hb dX0_comers_68 rfl (lv_at hl 1 rfl) ?_
    refine lv_iload_n hx hb dX0_comers_69 rfl (lv_at hl 2 rfl) ?_
    obtain ⟨i5, hf⟩ := gIn_inv hf
    refine q_iast (ws' := (wX0_comers cI cJ cZ cS a_t a_kinds a_costs a_terms a_known v_size v_list v_told v_kinds v_terms (upd v_known y2.toNatClampNeg y3))) fx h 3 rfl i5 rfl dX0_comers_70 (fun H locs h => ?_)
    exact LX0_comers_71 fx h (lv_sub hl [0, 1] rfl) hf
  have hf := it_f c4 hf
  refine lv_iload_n hx hb dX0_comers_30 rfl (lv_at hl 2 rfl) ?_
  refine lv_aload_n hx hb dX0_comers_31 rfl (lv_at hl 0 rfl) ?_
  refine lv_aload_n hx hb dX0_comers_32 rfl (lv_at hl 0 rfl) ?_
  refine q_get (v := .ref a_kinds) fx inX0 h 0 rfl rfl 3 (by decide) k_88 rfl dX0_comers_33 ?_
  refine lv_iload hx hb dX0_comers_36 (lv_at hl 3 rfl) ?_
  obtain ⟨i6, hf⟩ := gIn_inv hf
  refine q_iald fx h 1 rfl i6 dX0_comers_38 ?_
  refine lv_iload hx hb dX0_comers_39 (lv_at hl 3 rfl) ?_
  refine lv_iload_n hx hb dX0_comers_41 rfl (lv_at hl 1 rfl) ?_
  obtain ⟨r7, k7, hg, hf⟩ := bR_inv hf
  refine q_ci (rest := [.int y3]) (ws' := (wX0_comers cI cJ cZ cS a_t a_kinds a_costs a_terms a_known v_size v_list v_told v_kinds v_terms v_known)) (w1 := (wX0_wouldComeAs cI cJ cZ cS a_t a_kinds a_costs a_terms a_known v_size v_list v_told v_terms)) fx h [0, 2] rfl rfl rfl rfl (q_runV fx h hl.1 [0, 2] rfl rfl (tX0_wouldComeAs l D cI cJ cZ cS tb a_t a_kinds a_costs a_terms a_known H.size v_size v_list v_told v_terms (v_kinds y4.toNatClampNeg) y4 y2 r7 k7 hg) mvX0_wouldComeAs k_228 ⟨rfl, rfl⟩ ⟨Nat.le_of_ble_eq_true rfl, Nat.le_of_ble_eq_true rfl⟩ rfl rfl rfl rfl (Nat.le_of_ble_eq_true rfl) dX0_comers_42 ⟨Nat.le_of_ble_eq_true rfl, Nat.le_of_ble_eq_true rfl⟩) (fun H locs h => ?_)
  refine lv_if_eq (tgt := 55) hx hb dX0_comers_45 (by decide) (fun c8 => ?_) (fun c8 => ?_)
  · have hf := it_t c8 hf
    refine lv_iconst (v := 0) hx hb dX0_comers_55 (by decide) ?_
    exact LX0_comers_56 fx hag21 h (lv_sub hl [0, 1, 3] rfl) hf
  have hf := it_f c8 hf
  refine lv_iconst (v := 1) hx hb dX0_comers_48 (by decide) ?_
  refine lv_iload hx hb dX0_comers_49 (lv_at hl 3 rfl) ?_
  refine lv_ishl hx hb dX0_comers_51 ?_
  refine lv_goto (tgt := 56) hx hb dX0_comers_52 (by decide) ?_
  exact LX0_comers_56 fx hag21 h (lv_sub hl [0, 1, 3] rfl) hf
set_option maxRecDepth 100000 in
theorem EX0_comers_21 {p : Program} {l : Launch} {e : Env} {s : State} {m : MethodId} {args : Array Value} {below : List Frame} {meth : Method} {c : Code} {D : va_G} {cI cJ cZ cS : ClassId} {tb : Nat} {A : Nat → Prop} {a_t a_kinds a_costs a_terms a_known : Nat} {v_size : Int32} {v_list : Int32} {v_told : Int32} {v_kinds : Nat → Int32} {v_terms : Nat → Int64} {rr : Int32} {kk' : (Nat → Int32)} (fx : q_Fx p s m args meth c cX0_comers 5 RX0 (some .int) D cI cJ cZ cS tb A) : ∀ (n : Nat), ∀ {v_known : Nat → Int32} {y2 : Int32} {y3 : Int32} {y4 : Int32} {H : Heap} {locs : List Loc} {ls : Array Slot}, q_H D A s (wX0_comers cI cJ cZ cS a_t a_kinds a_costs a_terms a_known v_size v_list v_told v_kinds v_terms v_known) H locs → lv_has ls 5 [(0, .ref a_t), (2, .int y2), (3, .int y3), (4, .int y4)] → ll4 (fX0_comers_21 v_size v_kinds v_terms) n v_known y2 y3 y4 = some (rr, kk') → W p l e rX0_comers s m args below meth c H locs 0 0 (MQ below (q_Ri D rr A ((fun k : (Nat → Int32) => (wX0_comers cI cJ cZ cS a_t a_kinds a_costs a_terms a_known v_size v_list v_told v_kinds v_terms k)) kk')) args s 0 0 A) (F0 m 21 ls []) := by
  intro n
  induction n with
  | zero => intro v_known y2 y3 y4 H locs ls h hl hf; exact (ll4_z hf).elim
  | succ n ih => intro v_known y2 y3 y4 H locs ls h hl hf; exact LX0_comers_21 fx ih h hl (ll4_s hf)
def fX0_comers (v_size : Int32) (v_kinds : Nat → Int32) (v_terms : Nat → Int64) (v_known : Nat → Int32) (x1 : Int32) : Option (Int32 × (Nat → Int32)) :=
  nm (x1 &&& 255) (fun u9 =>
  gIn u9 256 (
  (if (v_known u9.toNatClampNeg) = (-1) then (
  ll4 (fX0_comers_21 v_size v_kinds v_terms) qF v_known u9 0 0)
  else (
  fX0_comers_71 v_size v_kinds v_terms v_known u9))))
set_option maxRecDepth 100000 in
set_option maxHeartbeats 4000000 in
theorem tX0_comers (l : Launch) (D : va_G) (cI cJ cZ cS : ClassId) (tb : Nat) (a_t a_kinds a_costs a_terms a_known : Nat) (sz : Nat) (v_size : Int32) (v_list : Int32) (v_told : Int32) (v_kinds : Nat → Int32) (v_terms : Nat → Int64) (v_known : Nat → Int32) (x1 : Int32) (rr : Int32) (kk' : (Nat → Int32)) (hf : fX0_comers v_size v_kinds v_terms v_known x1 = some (rr, kk')) : Met l yX0_comers (Cond.code yX0_comers cX0_comers 5 (some .int) :: wA) rX0_comers (q_Pre D cI cJ cZ cS tb [.ref a_t, .int x1] sz (wX0_comers cI cJ cZ cS a_t a_kinds a_costs a_terms a_known v_size v_list v_told v_kinds v_terms v_known)) (q_Ri D rr (va_A (wX0_comers cI cJ cZ cS a_t a_kinds a_costs a_terms a_known v_size v_list v_told v_kinds v_terms v_known) sz) ((fun k : (Nat → Int32) => (wX0_comers cI cJ cZ cS a_t a_kinds a_costs a_terms a_known v_size v_list v_told v_kinds v_terms k)) kk')) 0 0 (va_A (wX0_comers cI cJ cZ cS a_t a_kinds a_costs a_terms a_known v_size v_list v_told v_kinds v_terms v_known) sz) := by
  refine q_enter (Qf := fun A => (q_Ri D rr A ((fun k : (Nat → Int32) => (wX0_comers cI cJ cZ cS a_t a_kinds a_costs a_terms a_known v_size v_list v_told v_kinds v_terms k)) kk'))) (by decide) rfl (Nat.le_of_ble_eq_true rfl) ?_
  intro p e s m below meth c A ls fx hname h hl
  have hx := fx.1
  have hb := fx.2.1
  have hl : lv_has ls 5 [(0, .ref a_t), (1, .int x1)] := hl
  generalize h9 : s.heap = H at h ⊢
  clear h9
  generalize h9 : ([] : List Loc) = locs at h ⊢
  clear h9
  unfold fX0_comers at hf
  refine lv_iload_n hx hb dX0_comers_0 rfl (lv_at hl 1 rfl) ?_
  refine lv_sipush (v := 255) hx hb dX0_comers_1 (by decide) ?_
  refine lv_iand hx hb dX0_comers_4 ?_
  obtain ⟨u9, eu9, hf⟩ := nm_inv hf
  refine lv_eqi eu9 ?_
  refine lv_istore_n (lv' := [(2, .int u9), (0, .ref a_t), (1, .int x1)]) hx hb dX0_comers_5 rfl hl (by decide) rfl (fun ls hl => ?_)
  refine lv_aload_n hx hb dX0_comers_6 rfl (lv_at hl 1 rfl) ?_
  refine q_get (v := .ref a_known) fx inX0 h 0 rfl rfl 6 (by decide) k_93 rfl dX0_comers_7 ?_
  refine lv_iload_n hx hb dX0_comers_10 rfl (lv_at hl 0 rfl) ?_
  obtain ⟨i10, hf⟩ := gIn_inv hf
  refine q_iald fx h 3 rfl i10 dX0_comers_11 ?_
  refine lv_iconst (v := -1) hx hb dX0_comers_12 (by decide) ?_
  refine lv_icmp_ne (tgt := 71) hx hb dX0_comers_13 (by decide) (fun c11 => ?_) (fun c11 => ?_)
  · have hf := it_f c11 hf
    exact LX0_comers_71 fx h (lv_sub hl [1, 0] rfl) hf
  have hf := it_t c11 hf
  refine lv_iconst (v := 0) hx hb dX0_comers_16 (by decide) ?_
  refine lv_istore_n (lv' := [(3, .int 0), (2, .int u9), (0, .ref a_t), (1, .int x1)]) hx hb dX0_comers_17 rfl hl (by decide) rfl (fun ls hl => ?_)
  refine lv_iconst (v := 0) hx hb dX0_comers_18 (by decide) ?_
  refine lv_istore (lv' := [(4, .int 0), (3, .int 0), (2, .int u9), (0, .ref a_t), (1, .int x1)]) hx hb dX0_comers_19 hl (by decide) rfl (fun ls hl => ?_)
  exact EX0_comers_21 fx qF h (lv_sub hl [3, 2, 1, 0] rfl) hf
/-! X4_oneIf -/
abbrev wX4_oneIf (cI cJ cZ cS : ClassId) : va_W := []
abbrev rX4_oneIf : Room := { frames := 0, cells := 0, slots := 0, locals := 0 }
def fX4_oneIf (x0 : Int32) : Option (Int32 × Unit) :=
  (if x0 = 0 then (
  some (0, ()))
  else (
  some (1, ())))
set_option maxRecDepth 100000 in
set_option maxHeartbeats 4000000 in
theorem tX4_oneIf (l : Launch) (D : va_G) (cI cJ cZ cS : ClassId) (tb : Nat) (sz : Nat) (x0 : Int32) (rr : Int32) (kk' : Unit) (hf : fX4_oneIf x0 = some (rr, kk')) : Met l yX4_oneIf (Cond.code yX4_oneIf cX4_oneIf 1 (some .int) :: wA) rX4_oneIf (q_Pre D cI cJ cZ cS tb [.int x0] sz (wX4_oneIf cI cJ cZ cS)) (q_Ri D rr (va_A (wX4_oneIf cI cJ cZ cS) sz) ((fun k : Unit => (wX4_oneIf cI cJ cZ cS)) kk')) 0 0 (va_A (wX4_oneIf cI cJ cZ cS) sz) := by
  refine q_enter (Qf := fun A => (q_Ri D rr A ((fun k : Unit => (wX4_oneIf cI cJ cZ cS)) kk'))) (by decide) rfl (Nat.le_of_ble_eq_true rfl) ?_
  intro p e s m below meth c A ls fx hname h hl
  have hx := fx.1
  have hb := fx.2.1
  have hl : lv_has ls 1 [(0, .int x0)] := hl
  generalize h9 : s.heap = H at h ⊢
  clear h9
  generalize h9 : ([] : List Loc) = locs at h ⊢
  clear h9
  unfold fX4_oneIf at hf
  refine lv_iload_n hx hb dX4_oneIf_0 rfl (lv_at hl 0 rfl) ?_
  refine lv_if_eq (tgt := 8) hx hb dX4_oneIf_1 (by decide) (fun c1 => ?_) (fun c1 => ?_)
  · have hf := it_t c1 hf
    refine lv_iconst (v := 0) hx hb dX4_oneIf_8 (by decide) ?_
    exact q_reti (fun k : Unit => (wX4_oneIf cI cJ cZ cS)) fx hf h dX4_oneIf_9
  have hf := it_f c1 hf
  refine lv_iconst (v := 1) hx hb dX4_oneIf_4 (by decide) ?_
  refine lv_goto (tgt := 9) hx hb dX4_oneIf_5 (by decide) ?_
  exact q_reti (fun k : Unit => (wX4_oneIf cI cJ cZ cS)) fx hf h dX4_oneIf_9
/-! X4_of -/
abbrev wX4_of (cI cJ cZ cS : ClassId) (a_t a_party a_party_kinds a_party_costs a_party_terms a_party_known a_kept a_tape a_telephone a_sheets a_findings : Nat) (v_isKept : Int32) (v_party_size : Int32) (v_party_list : Int32) (v_party_told : Int32) (v_party_kinds : Nat → Int32) (v_party_costs : Nat → Int32) (v_party_terms : Nat → Int64) (v_party_known : Nat → Int32) (v_findings : Nat → Int32) : va_W := [(a_t, .inr (4, [.ref a_party, .ref a_kept, .int v_isKept, .ref a_tape, .ref a_telephone, .ref a_sheets, .ref a_findings])), (a_party, .inr (0, [.int v_party_size, .int v_party_list, .int v_party_told, .ref a_party_kinds, .ref a_party_costs, .ref a_party_terms, .ref a_party_known])), (a_party_kinds, .inl (cI, 8, .inl v_party_kinds)), (a_party_costs, .inl (cI, 8, .inl v_party_costs)), (a_party_terms, .inl (cJ, 32, .inr (.inl v_party_terms))), (a_party_known, .inl (cI, 256, .inl v_party_known)), (a_findings, .inl (cI, 7, .inl v_findings))]
abbrev rX4_of : Room := { frames := 4, cells := 0, slots := 0, locals := 90 }
def fX4_of (v_party_size : Int32) (v_party_list : Int32) (v_party_kinds : Nat → Int32) (v_party_costs : Nat → Int32) (v_party_terms : Nat → Int64) (v_party_known : Nat → Int32) (v_findings : Nat → Int32) (x1 : Int32) (x2 : Int32) : Option (Int32 × (Nat → Int32) × (Nat → Int32)) :=
  bR (fX0_has v_party_size x1) (fun r1 k1 =>
  (if r1 = 0 then (
  bR (fX4_found v_findings (-1000000001)) (fun r17 k17 =>
  some (r17, (v_party_known, k17))))
  else (
  (if (x2).toInt < 0 ∨ 5 < (x2).toInt then (
  bR (fX4_found v_findings (-1000000001)) (fun r4 k4 =>
  some (r4, (v_party_known, k4))))
  else (if x2 = 0 then (
  gIn x1 8 (
  some (v_party_kinds x1.toNatClampNeg, (v_party_known, v_findings))))
  else (if x2 = 1 then (
  gIn x1 8 (
  some (v_party_costs x1.toNatClampNeg, (v_party_known, v_findings))))
  else (if x2 = 2 then (
  some ((jshr v_party_list x1) &&& 1, (v_party_known, v_findings)))
  else (if x2 = 3 then (
  bR (fX0_comers v_party_size v_party_kinds v_party_terms v_party_known v_party_list) (fun r11 k11 =>
  some ((jshr r11 x1) &&& 1, (k11, v_findings))))
  else (if x2 = 4 then (
  bR (fX0_termHolds v_party_terms x1 v_party_list) (fun r13 k13 =>
  bR (fX4_oneIf r13) (fun r14 k14 =>
  some (r14, (v_party_known, v_findings)))))
  else (if x2 = 5 then (
  bR (fX4_othersOn x1 v_party_list) (fun r16 k16 =>
  some (r16, (v_party_known, v_findings))))
  else none))))))))))
set_option maxRecDepth 100000 in
set_option maxHeartbeats 4000000 in
theorem tX4_of (l : Launch) (D : va_G) (cI cJ cZ cS : ClassId) (tb : Nat) (a_t a_party a_party_kinds a_party_costs a_party_terms a_party_known a_kept a_tape a_telephone a_sheets a_findings : Nat) (sz : Nat) (v_isKept : Int32) (v_party_size : Int32) (v_party_list : Int32) (v_party_told : Int32) (v_party_kinds : Nat → Int32) (v_party_costs : Nat → Int32) (v_party_terms : Nat → Int64) (v_party_known : Nat → Int32) (v_findings : Nat → Int32) (x1 : Int32) (x2 : Int32) (rr : Int32) (kk' : (Nat → Int32) × (Nat → Int32)) (hf : fX4_of v_party_size v_party_list v_party_kinds v_party_costs v_party_terms v_party_known v_findings x1 x2 = some (rr, kk')) : Met l yX4_of (Cond.code yX4_of cX4_of 3 (some .int) :: wA) rX4_of (q_Pre D cI cJ cZ cS tb [.ref a_t, .int x1, .int x2] sz (wX4_of cI cJ cZ cS a_t a_party a_party_kinds a_party_costs a_party_terms a_party_known a_kept a_tape a_telephone a_sheets a_findings v_isKept v_party_size v_party_list v_party_told v_party_kinds v_party_costs v_party_terms v_party_known v_findings)) (q_Ri D rr (va_A (wX4_of cI cJ cZ cS a_t a_party a_party_kinds a_party_costs a_party_terms a_party_known a_kept a_tape a_telephone a_sheets a_findings v_isKept v_party_size v_party_list v_party_told v_party_kinds v_party_costs v_party_terms v_party_known v_findings) sz) ((fun k : (Nat → Int32) × (Nat → Int32) => (wX4_of cI cJ cZ cS a_t a_party a_party_kinds a_party_costs a_party_terms a_party_known a_kept a_tape a_telephone a_sheets a_findings v_isKept v_party_size v_party_list v_party_told v_party_kinds v_party_costs v_party_terms k.1 k.2)) kk')) 0 0 (va_A (wX4_of cI cJ cZ cS a_t a_party a_party_kinds a_party_costs a_party_terms a_party_known a_kept a_tape a_telephone a_sheets a_findings v_isKept v_party_size v_party_list v_party_told v_party_kinds v_party_costs v_party_terms v_party_known v_findings) sz) := by
  refine q_enter (Qf := fun A => (q_Ri D rr A ((fun k : (Nat → Int32) × (Nat → Int32) => (wX4_of cI cJ cZ cS a_t a_party a_party_kinds a_party_costs a_party_terms a_party_known a_kept a_tape a_telephone a_sheets a_findings v_isKept v_party_size v_party_list v_party_told v_party_kinds v_party_costs v_party_terms k.1 k.2)) kk'))) (by decide) rfl (Nat.le_of_ble_eq_true rfl) ?_
  intro p e s m below meth c A ls fx hname h hl
  have hx := fx.1
  have hb := fx.2.1
  have hl : lv_has ls 3 [(0, .ref a_t), (1, .int x1), (2, .int x2)] := hl
  generalize h9 : s.heap = H at h ⊢
  clear h9
  generalize h9 : ([] : List Loc) = locs at h ⊢
  clear h9
  unfold fX4_of at hf
  refine lv_aload_n hx hb dX4_of_0 rfl (lv_at hl 0 rfl) ?_
  refine q_get (v := .ref a_party) fx inX4 h 0 rfl rfl 0 (by decide) k_174 rfl dX4_of_1 ?_
  refine lv_iload_n hx hb dX4_of_4 rfl (lv_at hl 1 rfl) ?_
  obtain ⟨r1, k1, hg, hf⟩ := bR_inv hf
  refine q_ci (rest := []) (ws' := (wX4_of cI cJ cZ cS a_t a_party a_party_kinds a_party_costs a_party_terms a_party_known a_kept a_tape a_telephone a_sheets a_findings v_isKept v_party_size v_party_list v_party_told v_party_kinds v_party_costs v_party_terms v_party_known v_findings)) (w1 := (wX0_has cI cJ cZ cS a_party a_party_kinds a_party_costs a_party_terms a_party_known v_party_size v_party_list v_party_told)) fx h [1] rfl rfl rfl rfl (q_runV fx h hl.1 [1] rfl rfl (tX0_has l D cI cJ cZ cS tb a_party a_party_kinds a_party_costs a_party_terms a_party_known H.size v_party_size v_party_list v_party_told x1 r1 k1 hg) mvX0_has k_220 ⟨rfl, rfl⟩ ⟨Nat.le_of_ble_eq_true rfl, Nat.le_of_ble_eq_true rfl⟩ rfl rfl rfl rfl (Nat.le_of_ble_eq_true rfl) dX4_of_5 ⟨Nat.le_of_ble_eq_true rfl, Nat.le_of_ble_eq_true rfl⟩) (fun H locs h => ?_)
  refine lv_if_ne (tgt := 18) hx hb dX4_of_8 (by decide) (fun c2 => ?_) (fun c2 => ?_)
  · have hf := it_f c2 hf
    refine lv_iload_n hx hb dX4_of_18 rfl (lv_at hl 2 rfl) ?_
    rcases it_or hf with ⟨c3, hf⟩ | ⟨c3, hf⟩
    · refine lv_tableOut (tgt := 138) hx hb dX4_of_19 c3 (by decide) ?_
      refine lv_aload_n hx hb dX4_of_138 rfl (lv_at hl 0 rfl) ?_
      refine q_ldc fx k_206 dX4_of_139 ?_
      obtain ⟨r4, k4, hg, hf⟩ := bR_inv hf
      refine q_ci (rest := []) (ws' := (wX4_of cI cJ cZ cS a_t a_party a_party_kinds a_party_costs a_party_terms a_party_known a_kept a_tape a_telephone a_sheets a_findings v_isKept v_party_size v_party_list v_party_told v_party_kinds v_party_costs v_party_terms v_party_known k4)) (w1 := (wX4_found cI cJ cZ cS a_t a_party a_kept a_tape a_telephone a_sheets a_findings v_isKept k4)) fx h [0, 6] rfl rfl rfl rfl (q_runV fx h hl.1 [0, 6] rfl rfl (tX4_found l D cI cJ cZ cS tb a_t a_party a_kept a_tape a_telephone a_sheets a_findings H.size v_isKept v_findings (-1000000001) r4 k4 hg) mvX4_found k_207 ⟨rfl, rfl⟩ ⟨Nat.le_of_ble_eq_true rfl, Nat.le_of_ble_eq_true rfl⟩ rfl rfl rfl rfl (Nat.le_of_ble_eq_true rfl) dX4_of_141 ⟨Nat.le_of_ble_eq_true rfl, Nat.le_of_ble_eq_true rfl⟩) (fun H locs h => ?_)
      exact q_reti (fun k : (Nat → Int32) × (Nat → Int32) => (wX4_of cI cJ cZ cS a_t a_party a_party_kinds a_party_costs a_party_terms a_party_known a_kept a_tape a_telephone a_sheets a_findings v_isKept v_party_size v_party_list v_party_told v_party_kinds v_party_costs v_party_terms k.1 k.2)) fx hf h dX4_of_144
    have c3 := not_or.mp c3
    rcases it_or hf with ⟨c5, hf⟩ | ⟨c5, hf⟩
    · refine lv_tableIn (off := 37) (tgt := 56) hx hb dX4_of_19 c3.1 c3.2 (by rw [c5]; rfl) (by decide) ?_
      refine lv_aload_n hx hb dX4_of_56 rfl (lv_at hl 0 rfl) ?_
      refine q_get (v := .ref a_party) fx inX4 h 0 rfl rfl 0 (by decide) k_174 rfl dX4_of_57 ?_
      refine q_getN (v := .ref a_party_kinds) fx inX0 h 1 rfl rfl 3 (by decide) nf_5 rfl dX4_of_60 ?_
      refine lv_iload_n hx hb dX4_of_63 rfl (lv_at hl 1 rfl) ?_
      obtain ⟨i6, hf⟩ := gIn_inv hf
      refine q_iald fx h 2 rfl i6 dX4_of_64 ?_
      exact q_reti (fun k : (Nat → Int32) × (Nat → Int32) => (wX4_of cI cJ cZ cS a_t a_party a_party_kinds a_party_costs a_party_terms a_party_known a_kept a_tape a_telephone a_sheets a_findings v_isKept v_party_size v_party_list v_party_told v_party_kinds v_party_costs v_party_terms k.1 k.2)) fx hf h dX4_of_65
    rcases it_or hf with ⟨c7, hf⟩ | ⟨c7, hf⟩
    · refine lv_tableIn (off := 47) (tgt := 66) hx hb dX4_of_19 c3.1 c3.2 (by rw [c7]; rfl) (by decide) ?_
      refine lv_aload_n hx hb dX4_of_66 rfl (lv_at hl 0 rfl) ?_
      refine q_get (v := .ref a_party) fx inX4 h 0 rfl rfl 0 (by decide) k_174 rfl dX4_of_67 ?_
      refine q_getN (v := .ref a_party_costs) fx inX0 h 1 rfl rfl 4 (by decide) nf_6 rfl dX4_of_70 ?_
      refine lv_iload_n hx hb dX4_of_73 rfl (lv_at hl 1 rfl) ?_
      obtain ⟨i8, hf⟩ := gIn_inv hf
      refine q_iald fx h 3 rfl i8 dX4_of_74 ?_
      exact q_reti (fun k : (Nat → Int32) × (Nat → Int32) => (wX4_of cI cJ cZ cS a_t a_party a_party_kinds a_party_costs a_party_terms a_party_known a_kept a_tape a_telephone a_sheets a_findings v_isKept v_party_size v_party_list v_party_told v_party_kinds v_party_costs v_party_terms k.1 k.2)) fx hf h dX4_of_75
    rcases it_or hf with ⟨c9, hf⟩ | ⟨c9, hf⟩
    · refine lv_tableIn (off := 57) (tgt := 76) hx hb dX4_of_19 c3.1 c3.2 (by rw [c9]; rfl) (by decide) ?_
      refine lv_aload_n hx hb dX4_of_76 rfl (lv_at hl 0 rfl) ?_
      refine q_get (v := .ref a_party) fx inX4 h 0 rfl rfl 0 (by decide) k_174 rfl dX4_of_77 ?_
      refine q_getN (v := .int v_party_list) fx inX0 h 1 rfl rfl 1 (by decide) nf_3 rfl dX4_of_80 ?_
      refine lv_iload_n hx hb dX4_of_83 rfl (lv_at hl 1 rfl) ?_
      refine lv_ishr hx hb dX4_of_84 ?_
      refine lv_iconst (v := 1) hx hb dX4_of_85 (by decide) ?_
      refine lv_iand hx hb dX4_of_86 ?_
      exact q_reti (fun k : (Nat → Int32) × (Nat → Int32) => (wX4_of cI cJ cZ cS a_t a_party a_party_kinds a_party_costs a_party_terms a_party_known a_kept a_tape a_telephone a_sheets a_findings v_isKept v_party_size v_party_list v_party_told v_party_kinds v_party_costs v_party_terms k.1 k.2)) fx hf h dX4_of_87
    rcases it_or hf with ⟨c10, hf⟩ | ⟨c10, hf⟩
    · refine lv_tableIn (off := 69) (tgt := 88) hx hb dX4_of_19 c3.1 c3.2 (by rw [c10]; rfl) (by decide) ?_
      refine lv_aload_n hx hb dX4_of_88 rfl (lv_at hl 0 rfl) ?_
      refine q_get (v := .ref a_party) fx inX4 h 0 rfl rfl 0 (by decide) k_174 rfl dX4_of_89 ?_
      refine lv_aload_n hx hb dX4_of_92 rfl (lv_at hl 0 rfl) ?_
      refine q_get (v := .ref a_party) fx inX4 h 0 rfl rfl 0 (by decide) k_174 rfl dX4_of_93 ?_
      refine q_getN (v := .int v_party_list) fx inX0 h 1 rfl rfl 1 (by decide) nf_3 rfl dX4_of_96 ?_
      obtain ⟨r11, k11, hg, hf⟩ := bR_inv hf
      refine q_ci (rest := []) (ws' := (wX4_of cI cJ cZ cS a_t a_party a_party_kinds a_party_costs a_party_terms a_party_known a_kept a_tape a_telephone a_sheets a_findings v_isKept v_party_size v_party_list v_party_told v_party_kinds v_party_costs v_party_terms k11 v_findings)) (w1 := (wX0_comers cI cJ cZ cS a_party a_party_kinds a_party_costs a_party_terms a_party_known v_party_size v_party_list v_party_told v_party_kinds v_party_terms k11)) fx h [1, 2, 4, 5] rfl rfl rfl rfl (q_runV fx h hl.1 [1, 2, 4, 5] rfl rfl (tX0_comers l D cI cJ cZ cS tb a_party a_party_kinds a_party_costs a_party_terms a_party_known H.size v_party_size v_party_list v_party_told v_party_kinds v_party_terms v_party_known v_party_list r11 k11 hg) mvX0_comers k_224 ⟨rfl, rfl⟩ ⟨Nat.le_of_ble_eq_true rfl, Nat.le_of_ble_eq_true rfl⟩ rfl rfl rfl rfl (Nat.le_of_ble_eq_true rfl) dX4_of_99 ⟨Nat.le_of_ble_eq_true rfl, Nat.le_of_ble_eq_true rfl⟩) (fun H locs h => ?_)
      refine lv_iload_n hx hb dX4_of_102 rfl (lv_at hl 1 rfl) ?_
      refine lv_ishr hx hb dX4_of_103 ?_
      refine lv_iconst (v := 1) hx hb dX4_of_104 (by decide) ?_
      refine lv_iand hx hb dX4_of_105 ?_
      exact q_reti (fun k : (Nat → Int32) × (Nat → Int32) => (wX4_of cI cJ cZ cS a_t a_party a_party_kinds a_party_costs a_party_terms a_party_known a_kept a_tape a_telephone a_sheets a_findings v_isKept v_party_size v_party_list v_party_told v_party_kinds v_party_costs v_party_terms k.1 k.2)) fx hf h dX4_of_106
    rcases it_or hf with ⟨c12, hf⟩ | ⟨c12, hf⟩
    · refine lv_tableIn (off := 88) (tgt := 107) hx hb dX4_of_19 c3.1 c3.2 (by rw [c12]; rfl) (by decide) ?_
      refine lv_aload_n hx hb dX4_of_107 rfl (lv_at hl 0 rfl) ?_
      refine q_get (v := .ref a_party) fx inX4 h 0 rfl rfl 0 (by decide) k_174 rfl dX4_of_108 ?_
      refine lv_iload_n hx hb dX4_of_111 rfl (lv_at hl 1 rfl) ?_
      refine lv_aload_n hx hb dX4_of_112 rfl (lv_at hl 0 rfl) ?_
      refine q_get (v := .ref a_party) fx inX4 h 0 rfl rfl 0 (by decide) k_174 rfl dX4_of_113 ?_
      refine q_getN (v := .int v_party_list) fx inX0 h 1 rfl rfl 1 (by decide) nf_3 rfl dX4_of_116 ?_
      obtain ⟨r13, k13, hg, hf⟩ := bR_inv hf
      refine q_ci (rest := []) (ws' := (wX4_of cI cJ cZ cS a_t a_party a_party_kinds a_party_costs a_party_terms a_party_known a_kept a_tape a_telephone a_sheets a_findings v_isKept v_party_size v_party_list v_party_told v_party_kinds v_party_costs v_party_terms v_party_known v_findings)) (w1 := (wX0_termHolds cI cJ cZ cS a_party a_party_kinds a_party_costs a_party_terms a_party_known v_party_size v_party_list v_party_told v_party_terms)) fx h [1, 4] rfl rfl rfl rfl (q_runV fx h hl.1 [1, 4] rfl rfl (tX0_termHolds l D cI cJ cZ cS tb a_party a_party_kinds a_party_costs a_party_terms a_party_known H.size v_party_size v_party_list v_party_told v_party_terms x1 v_party_list r13 k13 hg) mvX0_termHolds k_245 ⟨rfl, rfl⟩ ⟨Nat.le_of_ble_eq_true rfl, Nat.le_of_ble_eq_true rfl⟩ rfl rfl rfl rfl (Nat.le_of_ble_eq_true rfl) dX4_of_119 ⟨Nat.le_of_ble_eq_true rfl, Nat.le_of_ble_eq_true rfl⟩) (fun H locs h => ?_)
      obtain ⟨r14, k14, hg, hf⟩ := bR_inv hf
      refine q_ci (rest := []) (ws' := (wX4_of cI cJ cZ cS a_t a_party a_party_kinds a_party_costs a_party_terms a_party_known a_kept a_tape a_telephone a_sheets a_findings v_isKept v_party_size v_party_list v_party_told v_party_kinds v_party_costs v_party_terms v_party_known v_findings)) (w1 := (wX4_oneIf cI cJ cZ cS)) fx h [] rfl rfl rfl rfl (q_runS fx h hl.1 [] rfl rfl (tX4_oneIf l D cI cJ cZ cS tb H.size r13 r14 k14 hg) msX4_oneIf k_246 ⟨rfl, rfl⟩ ⟨Nat.le_of_ble_eq_true rfl, Nat.le_of_ble_eq_true rfl⟩ rfl rfl (Nat.le_of_ble_eq_true rfl) dX4_of_122 ⟨Nat.le_of_ble_eq_true rfl, Nat.le_of_ble_eq_true rfl⟩) (fun H locs h => ?_)
      exact q_reti (fun k : (Nat → Int32) × (Nat → Int32) => (wX4_of cI cJ cZ cS a_t a_party a_party_kinds a_party_costs a_party_terms a_party_known a_kept a_tape a_telephone a_sheets a_findings v_isKept v_party_size v_party_list v_party_told v_party_kinds v_party_costs v_party_terms k.1 k.2)) fx hf h dX4_of_125
    rcases it_or hf with ⟨c15, hf⟩ | ⟨c15, hf⟩
    · refine lv_tableIn (off := 107) (tgt := 126) hx hb dX4_of_19 c3.1 c3.2 (by rw [c15]; rfl) (by decide) ?_
      refine lv_iload_n hx hb dX4_of_126 rfl (lv_at hl 1 rfl) ?_
      refine lv_aload_n hx hb dX4_of_127 rfl (lv_at hl 0 rfl) ?_
      refine q_get (v := .ref a_party) fx inX4 h 0 rfl rfl 0 (by decide) k_174 rfl dX4_of_128 ?_
      refine q_getN (v := .int v_party_list) fx inX0 h 1 rfl rfl 1 (by decide) nf_3 rfl dX4_of_131 ?_
      obtain ⟨r16, k16, hg, hf⟩ := bR_inv hf
      refine q_ci (rest := []) (ws' := (wX4_of cI cJ cZ cS a_t a_party a_party_kinds a_party_costs a_party_terms a_party_known a_kept a_tape a_telephone a_sheets a_findings v_isKept v_party_size v_party_list v_party_told v_party_kinds v_party_costs v_party_terms v_party_known v_findings)) (w1 := (wX4_othersOn cI cJ cZ cS)) fx h [] rfl rfl rfl rfl (q_runS fx h hl.1 [] rfl rfl (tX4_othersOn l D cI cJ cZ cS tb H.size x1 v_party_list r16 k16 hg) msX4_othersOn k_249 ⟨rfl, rfl⟩ ⟨Nat.le_of_ble_eq_true rfl, Nat.le_of_ble_eq_true rfl⟩ rfl rfl (Nat.le_of_ble_eq_true rfl) dX4_of_134 ⟨Nat.le_of_ble_eq_true rfl, Nat.le_of_ble_eq_true rfl⟩) (fun H locs h => ?_)
      exact q_reti (fun k : (Nat → Int32) × (Nat → Int32) => (wX4_of cI cJ cZ cS a_t a_party a_party_kinds a_party_costs a_party_terms a_party_known a_kept a_tape a_telephone a_sheets a_findings v_isKept v_party_size v_party_list v_party_told v_party_kinds v_party_costs v_party_terms k.1 k.2)) fx hf h dX4_of_137
    cases hf
  have hf := it_t c2 hf
  refine lv_aload_n hx hb dX4_of_11 rfl (lv_at hl 0 rfl) ?_
  refine q_ldc fx k_206 dX4_of_12 ?_
  obtain ⟨r17, k17, hg, hf⟩ := bR_inv hf
  refine q_ci (rest := []) (ws' := (wX4_of cI cJ cZ cS a_t a_party a_party_kinds a_party_costs a_party_terms a_party_known a_kept a_tape a_telephone a_sheets a_findings v_isKept v_party_size v_party_list v_party_told v_party_kinds v_party_costs v_party_terms v_party_known k17)) (w1 := (wX4_found cI cJ cZ cS a_t a_party a_kept a_tape a_telephone a_sheets a_findings v_isKept k17)) fx h [0, 6] rfl rfl rfl rfl (q_runV fx h hl.1 [0, 6] rfl rfl (tX4_found l D cI cJ cZ cS tb a_t a_party a_kept a_tape a_telephone a_sheets a_findings H.size v_isKept v_findings (-1000000001) r17 k17 hg) mvX4_found k_207 ⟨rfl, rfl⟩ ⟨Nat.le_of_ble_eq_true rfl, Nat.le_of_ble_eq_true rfl⟩ rfl rfl rfl rfl (Nat.le_of_ble_eq_true rfl) dX4_of_14 ⟨Nat.le_of_ble_eq_true rfl, Nat.le_of_ble_eq_true rfl⟩) (fun H locs h => ?_)
  exact q_reti (fun k : (Nat → Int32) × (Nat → Int32) => (wX4_of cI cJ cZ cS a_t a_party a_party_kinds a_party_costs a_party_terms a_party_known a_kept a_tape a_telephone a_sheets a_findings v_isKept v_party_size v_party_list v_party_told v_party_kinds v_party_costs v_party_terms k.1 k.2)) fx hf h dX4_of_17
/-! X4_cost -/
abbrev wX4_cost (cI cJ cZ cS : ClassId) (a_t a_party a_party_kinds a_party_costs a_party_terms a_party_known a_kept a_tape a_telephone a_sheets a_findings : Nat) (v_isKept : Int32) (v_party_size : Int32) (v_party_list : Int32) (v_party_told : Int32) (v_party_costs : Nat → Int32) (v_findings : Nat → Int32) : va_W := [(a_t, .inr (4, [.ref a_party, .ref a_kept, .int v_isKept, .ref a_tape, .ref a_telephone, .ref a_sheets, .ref a_findings])), (a_party, .inr (0, [.int v_party_size, .int v_party_list, .int v_party_told, .ref a_party_kinds, .ref a_party_costs, .ref a_party_terms, .ref a_party_known])), (a_party_costs, .inl (cI, 8, .inl v_party_costs)), (a_findings, .inl (cI, 7, .inl v_findings))]
abbrev rX4_cost : Room := { frames := 1, cells := 0, slots := 0, locals := 22 }
def fX4_cost_18 (v_party_size : Int32) (v_party_costs : Nat → Int32) (v_findings : Nat → Int32) : Option (Int32 × (Nat → Int32) × (Nat → Int32)) :=
  bR (fX4_found v_findings (-1000000001)) (fun r1 k1 =>
  some (r1, (v_party_costs, k1)))
set_option maxRecDepth 100000 in
set_option maxHeartbeats 4000000 in
theorem LX4_cost_18 {p : Program} {l : Launch} {e : Env} {s : State} {m : MethodId} {args : Array Value} {below : List Frame} {meth : Method} {c : Code} {D : va_G} {cI cJ cZ cS : ClassId} {tb : Nat} {A : Nat → Prop} {a_t a_party a_party_kinds a_party_costs a_party_terms a_party_known a_kept a_tape a_telephone a_sheets a_findings : Nat} {v_isKept : Int32} {v_party_size : Int32} {v_party_list : Int32} {v_party_told : Int32} {rr : Int32} {kk' : (Nat → Int32) × (Nat → Int32)} (fx : q_Fx p s m args meth c cX4_cost 4 RX4 (some .int) D cI cJ cZ cS tb A) : ∀ {v_party_costs : Nat → Int32} {v_findings : Nat → Int32} {H : Heap} {locs : List Loc} {ls : Array Slot}, q_H D A s (wX4_cost cI cJ cZ cS a_t a_party a_party_kinds a_party_costs a_party_terms a_party_known a_kept a_tape a_telephone a_sheets a_findings v_isKept v_party_size v_party_list v_party_told v_party_costs v_findings) H locs → lv_has ls 4 [(0, .ref a_t)] → fX4_cost_18 v_party_size v_party_costs v_findings = some (rr, kk') → W p l e rX4_cost s m args below meth c H locs 0 0 (MQ below (q_Ri D rr A ((fun k : (Nat → Int32) × (Nat → Int32) => (wX4_cost cI cJ cZ cS a_t a_party a_party_kinds a_party_costs a_party_terms a_party_known a_kept a_tape a_telephone a_sheets a_findings v_isKept v_party_size v_party_list v_party_told k.1 k.2)) kk')) args s 0 0 A) (F0 m 18 ls []) := by
  intro v_party_costs v_findings H locs ls h hl hf
  have hx := fx.1
  have hb := fx.2.1
  unfold fX4_cost_18 at hf
  refine lv_aload_n hx hb dX4_cost_18 rfl (lv_at hl 0 rfl) ?_
  refine q_ldc fx k_206 dX4_cost_19 ?_
  obtain ⟨r1, k1, hg, hf⟩ := bR_inv hf
  refine q_ci (rest := []) (ws' := (wX4_cost cI cJ cZ cS a_t a_party a_party_kinds a_party_costs a_party_terms a_party_known a_kept a_tape a_telephone a_sheets a_findings v_isKept v_party_size v_party_list v_party_told v_party_costs k1)) (w1 := (wX4_found cI cJ cZ cS a_t a_party a_kept a_tape a_telephone a_sheets a_findings v_isKept k1)) fx h [0, 3] rfl rfl rfl rfl (q_runV fx h hl.1 [0, 3] rfl rfl (tX4_found l D cI cJ cZ cS tb a_t a_party a_kept a_tape a_telephone a_sheets a_findings H.size v_isKept v_findings (-1000000001) r1 k1 hg) mvX4_found k_207 ⟨rfl, rfl⟩ ⟨Nat.le_of_ble_eq_true rfl, Nat.le_of_ble_eq_true rfl⟩ rfl rfl rfl rfl (Nat.le_of_ble_eq_true rfl) dX4_cost_21 ⟨Nat.le_of_ble_eq_true rfl, Nat.le_of_ble_eq_true rfl⟩) (fun H locs h => ?_)
  exact q_reti (fun k : (Nat → Int32) × (Nat → Int32) => (wX4_cost cI cJ cZ cS a_t a_party a_party_kinds a_party_costs a_party_terms a_party_known a_kept a_tape a_telephone a_sheets a_findings v_isKept v_party_size v_party_list v_party_told k.1 k.2)) fx hf h dX4_cost_24
def fX4_cost (v_party_size : Int32) (v_party_costs : Nat → Int32) (v_findings : Nat → Int32) (x1 : Int32) (x2 : Int32) : Option (Int32 × (Nat → Int32) × (Nat → Int32)) :=
  bR (fX0_has v_party_size x1) (fun r2 k2 =>
  (if r2 = 0 then (
  fX4_cost_18 v_party_size v_party_costs v_findings)
  else (
  bR (fX4_isCost x2) (fun r4 k4 =>
  (if r4 = 0 then (
  fX4_cost_18 v_party_size v_party_costs v_findings)
  else (
  gIn x1 8 (
  nm (v_party_costs x1.toNatClampNeg) (fun u7 =>
  gIn x1 8 (
  some (u7, ((upd v_party_costs x1.toNatClampNeg x2), v_findings)))))))))))
set_option maxRecDepth 100000 in
set_option maxHeartbeats 4000000 in
theorem tX4_cost (l : Launch) (D : va_G) (cI cJ cZ cS : ClassId) (tb : Nat) (a_t a_party a_party_kinds a_party_costs a_party_terms a_party_known a_kept a_tape a_telephone a_sheets a_findings : Nat) (sz : Nat) (v_isKept : Int32) (v_party_size : Int32) (v_party_list : Int32) (v_party_told : Int32) (v_party_costs : Nat → Int32) (v_findings : Nat → Int32) (x1 : Int32) (x2 : Int32) (rr : Int32) (kk' : (Nat → Int32) × (Nat → Int32)) (hf : fX4_cost v_party_size v_party_costs v_findings x1 x2 = some (rr, kk')) : Met l yX4_cost (Cond.code yX4_cost cX4_cost 4 (some .int) :: wA) rX4_cost (q_Pre D cI cJ cZ cS tb [.ref a_t, .int x1, .int x2] sz (wX4_cost cI cJ cZ cS a_t a_party a_party_kinds a_party_costs a_party_terms a_party_known a_kept a_tape a_telephone a_sheets a_findings v_isKept v_party_size v_party_list v_party_told v_party_costs v_findings)) (q_Ri D rr (va_A (wX4_cost cI cJ cZ cS a_t a_party a_party_kinds a_party_costs a_party_terms a_party_known a_kept a_tape a_telephone a_sheets a_findings v_isKept v_party_size v_party_list v_party_told v_party_costs v_findings) sz) ((fun k : (Nat → Int32) × (Nat → Int32) => (wX4_cost cI cJ cZ cS a_t a_party a_party_kinds a_party_costs a_party_terms a_party_known a_kept a_tape a_telephone a_sheets a_findings v_isKept v_party_size v_party_list v_party_told k.1 k.2)) kk')) 0 0 (va_A (wX4_cost cI cJ cZ cS a_t a_party a_party_kinds a_party_costs a_party_terms a_party_known a_kept a_tape a_telephone a_sheets a_findings v_isKept v_party_size v_party_list v_party_told v_party_costs v_findings) sz) := by
  refine q_enter (Qf := fun A => (q_Ri D rr A ((fun k : (Nat → Int32) × (Nat → Int32) => (wX4_cost cI cJ cZ cS a_t a_party a_party_kinds a_party_costs a_party_terms a_party_known a_kept a_tape a_telephone a_sheets a_findings v_isKept v_party_size v_party_list v_party_told k.1 k.2)) kk'))) (by decide) rfl (Nat.le_of_ble_eq_true rfl) ?_
  intro p e s m below meth c A ls fx hname h hl
  have hx := fx.1
  have hb := fx.2.1
  have hl : lv_has ls 4 [(0, .ref a_t), (1, .int x1), (2, .int x2)] := hl
  generalize h9 : s.heap = H at h ⊢
  clear h9
  generalize h9 : ([] : List Loc) = locs at h ⊢
  clear h9
  unfold fX4_cost at hf
  refine lv_aload_n hx hb dX4_cost_0 rfl (lv_at hl 0 rfl) ?_
  refine q_get (v := .ref a_party) fx inX4 h 0 rfl rfl 0 (by decide) k_174 rfl dX4_cost_1 ?_
  refine lv_iload_n hx hb dX4_cost_4 rfl (lv_at hl 1 rfl) ?_
  obtain ⟨r2, k2, hg, hf⟩ := bR_inv hf
  refine q_ci (rest := []) (ws' := (wX4_cost cI cJ cZ cS a_t a_party a_party_kinds a_party_costs a_party_terms a_party_known a_kept a_tape a_telephone a_sheets a_findings v_isKept v_party_size v_party_list v_party_told v_party_costs v_findings)) (w1 := (wX0_has cI cJ cZ cS a_party a_party_kinds a_party_costs a_party_terms a_party_known v_party_size v_party_list v_party_told)) fx h [1] rfl rfl rfl rfl (q_runV fx h hl.1 [1] rfl rfl (tX0_has l D cI cJ cZ cS tb a_party a_party_kinds a_party_costs a_party_terms a_party_known H.size v_party_size v_party_list v_party_told x1 r2 k2 hg) mvX0_has k_220 ⟨rfl, rfl⟩ ⟨Nat.le_of_ble_eq_true rfl, Nat.le_of_ble_eq_true rfl⟩ rfl rfl rfl rfl (Nat.le_of_ble_eq_true rfl) dX4_cost_5 ⟨Nat.le_of_ble_eq_true rfl, Nat.le_of_ble_eq_true rfl⟩) (fun H locs h => ?_)
  refine lv_if_eq (tgt := 18) hx hb dX4_cost_8 (by decide) (fun c3 => ?_) (fun c3 => ?_)
  · have hf := it_t c3 hf
    exact LX4_cost_18 fx h (lv_sub hl [0] rfl) hf
  have hf := it_f c3 hf
  refine lv_iload_n hx hb dX4_cost_11 rfl (lv_at hl 2 rfl) ?_
  obtain ⟨r4, k4, hg, hf⟩ := bR_inv hf
  refine q_ci (rest := []) (ws' := (wX4_cost cI cJ cZ cS a_t a_party a_party_kinds a_party_costs a_party_terms a_party_known a_kept a_tape a_telephone a_sheets a_findings v_isKept v_party_size v_party_list v_party_told v_party_costs v_findings)) (w1 := (wX4_isCost cI cJ cZ cS)) fx h [] rfl rfl rfl rfl (q_runS fx h hl.1 [] rfl rfl (tX4_isCost l D cI cJ cZ cS tb H.size x2 r4 k4 hg) msX4_isCost k_203 ⟨rfl, rfl⟩ ⟨Nat.le_of_ble_eq_true rfl, Nat.le_of_ble_eq_true rfl⟩ rfl rfl (Nat.le_of_ble_eq_true rfl) dX4_cost_12 ⟨Nat.le_of_ble_eq_true rfl, Nat.le_of_ble_eq_true rfl⟩) (fun H locs h => ?_)
  refine lv_if_ne (tgt := 25) hx hb dX4_cost_15 (by decide) (fun c5 => ?_) (fun c5 => ?_)
  · have hf := it_f c5 hf
    refine lv_aload_n hx hb dX4_cost_25 rfl (lv_at hl 0 rfl) ?_
    refine q_get (v := .ref a_party) fx inX4 h 0 rfl rfl 0 (by decide) k_174 rfl dX4_cost_26 ?_
    refine q_getN (v := .ref a_party_costs) fx inX0 h 1 rfl rfl 4 (by decide) nf_6 rfl dX4_cost_29 ?_
    refine lv_iload_n hx hb dX4_cost_32 rfl (lv_at hl 1 rfl) ?_
    obtain ⟨i6, hf⟩ := gIn_inv hf
    refine q_iald fx h 2 rfl i6 dX4_cost_33 ?_
    obtain ⟨u7, eu7, hf⟩ := nm_inv hf
    refine lv_eqi eu7 ?_
    refine lv_istore_n (lv' := [(3, .int u7), (0, .ref a_t), (1, .int x1), (2, .int x2)]) hx hb dX4_cost_34 rfl hl (by decide) rfl (fun ls hl => ?_)
    refine lv_aload_n hx hb dX4_cost_35 rfl (lv_at hl 1 rfl) ?_
    refine q_get (v := .ref a_party) fx inX4 h 0 rfl rfl 0 (by decide) k_174 rfl dX4_cost_36 ?_
    refine q_getN (v := .ref a_party_costs) fx inX0 h 1 rfl rfl 4 (by decide) nf_6 rfl dX4_cost_39 ?_
    refine lv_iload_n hx hb dX4_cost_42 rfl (lv_at hl 2 rfl) ?_
    refine lv_iload_n hx hb dX4_cost_43 rfl (lv_at hl 3 rfl) ?_
    obtain ⟨i8, hf⟩ := gIn_inv hf
    refine q_iast (ws' := (wX4_cost cI cJ cZ cS a_t a_party a_party_kinds a_party_costs a_party_terms a_party_known a_kept a_tape a_telephone a_sheets a_findings v_isKept v_party_size v_party_list v_party_told (upd v_party_costs x1.toNatClampNeg x2) v_findings)) fx h 2 rfl i8 rfl dX4_cost_44 (fun H locs h => ?_)
    refine lv_iload_n hx hb dX4_cost_45 rfl (lv_at hl 0 rfl) ?_
    exact q_reti (fun k : (Nat → Int32) × (Nat → Int32) => (wX4_cost cI cJ cZ cS a_t a_party a_party_kinds a_party_costs a_party_terms a_party_known a_kept a_tape a_telephone a_sheets a_findings v_isKept v_party_size v_party_list v_party_told k.1 k.2)) fx hf h dX4_cost_46
  have hf := it_t c5 hf
  exact LX4_cost_18 fx h (lv_sub hl [0] rfl) hf
/-! X0_turnInto -/
abbrev wX0_turnInto (cI cJ cZ cS : ClassId) (a_t a_kinds a_costs a_terms a_known : Nat) (v_size : Int32) (v_list : Int32) (v_told : Int32) (v_kinds : Nat → Int32) (v_known : Nat → Int32) : va_W := [(a_t, .inr (0, [.int v_size, .int v_list, .int v_told, .ref a_kinds, .ref a_costs, .ref a_terms, .ref a_known])), (a_kinds, .inl (cI, 8, .inl v_kinds)), (a_known, .inl (cI, 256, .inl v_known))]
abbrev rX0_turnInto : Room := { frames := 1, cells := 0, slots := 0, locals := 23 }
def fX0_turnInto (v_kinds : Nat → Int32) (v_known : Nat → Int32) (x1 : Int32) (x2 : Int32) : Option (Int32 × (Nat → Int32) × (Nat → Int32)) :=
  gIn x1 8 (
  nm (v_kinds x1.toNatClampNeg) (fun u2 =>
  gIn x1 8 (
  bV (fJ7_fill_53178 256 v_known (-1)) (fun k4 =>
  some (u2, ((upd v_kinds x1.toNatClampNeg x2), k4))))))
set_option maxRecDepth 100000 in
set_option maxHeartbeats 4000000 in
theorem tX0_turnInto (l : Launch) (D : va_G) (cI cJ cZ cS : ClassId) (tb : Nat) (a_t a_kinds a_costs a_terms a_known : Nat) (sz : Nat) (v_size : Int32) (v_list : Int32) (v_told : Int32) (v_kinds : Nat → Int32) (v_known : Nat → Int32) (x1 : Int32) (x2 : Int32) (rr : Int32) (kk' : (Nat → Int32) × (Nat → Int32)) (hf : fX0_turnInto v_kinds v_known x1 x2 = some (rr, kk')) : Met l yX0_turnInto (Cond.code yX0_turnInto cX0_turnInto 4 (some .int) :: wA) rX0_turnInto (q_Pre D cI cJ cZ cS tb [.ref a_t, .int x1, .int x2] sz (wX0_turnInto cI cJ cZ cS a_t a_kinds a_costs a_terms a_known v_size v_list v_told v_kinds v_known)) (q_Ri D rr (va_A (wX0_turnInto cI cJ cZ cS a_t a_kinds a_costs a_terms a_known v_size v_list v_told v_kinds v_known) sz) ((fun k : (Nat → Int32) × (Nat → Int32) => (wX0_turnInto cI cJ cZ cS a_t a_kinds a_costs a_terms a_known v_size v_list v_told k.1 k.2)) kk')) 0 0 (va_A (wX0_turnInto cI cJ cZ cS a_t a_kinds a_costs a_terms a_known v_size v_list v_told v_kinds v_known) sz) := by
  refine q_enter (Qf := fun A => (q_Ri D rr A ((fun k : (Nat → Int32) × (Nat → Int32) => (wX0_turnInto cI cJ cZ cS a_t a_kinds a_costs a_terms a_known v_size v_list v_told k.1 k.2)) kk'))) (by decide) rfl (Nat.le_of_ble_eq_true rfl) ?_
  intro p e s m below meth c A ls fx hname h hl
  have hx := fx.1
  have hb := fx.2.1
  have hl : lv_has ls 4 [(0, .ref a_t), (1, .int x1), (2, .int x2)] := hl
  generalize h9 : s.heap = H at h ⊢
  clear h9
  generalize h9 : ([] : List Loc) = locs at h ⊢
  clear h9
  unfold fX0_turnInto at hf
  refine lv_aload_n hx hb dX0_turnInto_0 rfl (lv_at hl 0 rfl) ?_
  refine q_get (v := .ref a_kinds) fx inX0 h 0 rfl rfl 3 (by decide) k_88 rfl dX0_turnInto_1 ?_
  refine lv_iload_n hx hb dX0_turnInto_4 rfl (lv_at hl 1 rfl) ?_
  obtain ⟨i1, hf⟩ := gIn_inv hf
  refine q_iald fx h 1 rfl i1 dX0_turnInto_5 ?_
  obtain ⟨u2, eu2, hf⟩ := nm_inv hf
  refine lv_eqi eu2 ?_
  refine lv_istore_n (lv' := [(3, .int u2), (0, .ref a_t), (1, .int x1), (2, .int x2)]) hx hb dX0_turnInto_6 rfl hl (by decide) rfl (fun ls hl => ?_)
  refine lv_aload_n hx hb dX0_turnInto_7 rfl (lv_at hl 1 rfl) ?_
  refine q_get (v := .ref a_kinds) fx inX0 h 0 rfl rfl 3 (by decide) k_88 rfl dX0_turnInto_8 ?_
  refine lv_iload_n hx hb dX0_turnInto_11 rfl (lv_at hl 2 rfl) ?_
  refine lv_iload_n hx hb dX0_turnInto_12 rfl (lv_at hl 3 rfl) ?_
  obtain ⟨i3, hf⟩ := gIn_inv hf
  refine q_iast (ws' := (wX0_turnInto cI cJ cZ cS a_t a_kinds a_costs a_terms a_known v_size v_list v_told (upd v_kinds x1.toNatClampNeg x2) v_known)) fx h 1 rfl i3 rfl dX0_turnInto_13 (fun H locs h => ?_)
  refine lv_aload_n hx hb dX0_turnInto_14 rfl (lv_at hl 1 rfl) ?_
  refine q_get (v := .ref a_known) fx inX0 h 0 rfl rfl 6 (by decide) k_93 rfl dX0_turnInto_15 ?_
  refine lv_iconst (v := -1) hx hb dX0_turnInto_18 (by decide) ?_
  obtain ⟨k4, hg, hf⟩ := bV_inv hf
  refine q_cv (rest := []) (ws' := (wX0_turnInto cI cJ cZ cS a_t a_kinds a_costs a_terms a_known v_size v_list v_told (upd v_kinds x1.toNatClampNeg x2) k4)) (w1 := (wJ7_fill_53178 cI cJ cZ cS 256 a_known k4)) fx h [2] rfl rfl rfl rfl (q_runS fx h hl.1 [2] rfl rfl (tJ7_fill_53178 l D cI cJ cZ cS tb 256 a_known H.size v_known (-1) k4 hg) msJ7_fill_53178 k_77 ⟨rfl, rfl⟩ ⟨Nat.le_of_ble_eq_true rfl, Nat.le_of_ble_eq_true rfl⟩ rfl rfl (Nat.le_of_ble_eq_true rfl) dX0_turnInto_19 ⟨Nat.le_of_ble_eq_true rfl, Nat.le_of_ble_eq_true rfl⟩) (fun H locs h => ?_)
  refine lv_iload_n hx hb dX0_turnInto_22 rfl (lv_at hl 0 rfl) ?_
  exact q_reti (fun k : (Nat → Int32) × (Nat → Int32) => (wX0_turnInto cI cJ cZ cS a_t a_kinds a_costs a_terms a_known v_size v_list v_told k.1 k.2)) fx hf h dX0_turnInto_23
/-! X4_turn -/
abbrev wX4_turn (cI cJ cZ cS : ClassId) (a_t a_party a_party_kinds a_party_costs a_party_terms a_party_known a_kept a_tape a_telephone a_sheets a_findings : Nat) (v_isKept : Int32) (v_party_size : Int32) (v_party_list : Int32) (v_party_told : Int32) (v_party_kinds : Nat → Int32) (v_party_known : Nat → Int32) (v_findings : Nat → Int32) : va_W := [(a_t, .inr (4, [.ref a_party, .ref a_kept, .int v_isKept, .ref a_tape, .ref a_telephone, .ref a_sheets, .ref a_findings])), (a_party, .inr (0, [.int v_party_size, .int v_party_list, .int v_party_told, .ref a_party_kinds, .ref a_party_costs, .ref a_party_terms, .ref a_party_known])), (a_party_kinds, .inl (cI, 8, .inl v_party_kinds)), (a_party_known, .inl (cI, 256, .inl v_party_known)), (a_findings, .inl (cI, 7, .inl v_findings))]
abbrev rX4_turn : Room := { frames := 2, cells := 0, slots := 0, locals := 46 }
def fX4_turn_18 (v_party_size : Int32) (v_party_kinds : Nat → Int32) (v_party_known : Nat → Int32) (v_findings : Nat → Int32) : Option (Int32 × (Nat → Int32) × (Nat → Int32) × (Nat → Int32)) :=
  bR (fX4_found v_findings (-1000000001)) (fun r1 k1 =>
  some (r1, (v_party_kinds, v_party_known, k1)))
set_option maxRecDepth 100000 in
set_option maxHeartbeats 4000000 in
theorem LX4_turn_18 {p : Program} {l : Launch} {e : Env} {s : State} {m : MethodId} {args : Array Value} {below : List Frame} {meth : Method} {c : Code} {D : va_G} {cI cJ cZ cS : ClassId} {tb : Nat} {A : Nat → Prop} {a_t a_party a_party_kinds a_party_costs a_party_terms a_party_known a_kept a_tape a_telephone a_sheets a_findings : Nat} {v_isKept : Int32} {v_party_size : Int32} {v_party_list : Int32} {v_party_told : Int32} {rr : Int32} {kk' : (Nat → Int32) × (Nat → Int32) × (Nat → Int32)} (fx : q_Fx p s m args meth c cX4_turn 3 RX4 (some .int) D cI cJ cZ cS tb A) : ∀ {v_party_kinds : Nat → Int32} {v_party_known : Nat → Int32} {v_findings : Nat → Int32} {H : Heap} {locs : List Loc} {ls : Array Slot}, q_H D A s (wX4_turn cI cJ cZ cS a_t a_party a_party_kinds a_party_costs a_party_terms a_party_known a_kept a_tape a_telephone a_sheets a_findings v_isKept v_party_size v_party_list v_party_told v_party_kinds v_party_known v_findings) H locs → lv_has ls 3 [(0, .ref a_t)] → fX4_turn_18 v_party_size v_party_kinds v_party_known v_findings = some (rr, kk') → W p l e rX4_turn s m args below meth c H locs 0 0 (MQ below (q_Ri D rr A ((fun k : (Nat → Int32) × (Nat → Int32) × (Nat → Int32) => (wX4_turn cI cJ cZ cS a_t a_party a_party_kinds a_party_costs a_party_terms a_party_known a_kept a_tape a_telephone a_sheets a_findings v_isKept v_party_size v_party_list v_party_told k.1 k.2.1 k.2.2)) kk')) args s 0 0 A) (F0 m 18 ls []) := by
  intro v_party_kinds v_party_known v_findings H locs ls h hl hf
  have hx := fx.1
  have hb := fx.2.1
  unfold fX4_turn_18 at hf
  refine lv_aload_n hx hb dX4_turn_18 rfl (lv_at hl 0 rfl) ?_
  refine q_ldc fx k_206 dX4_turn_19 ?_
  obtain ⟨r1, k1, hg, hf⟩ := bR_inv hf
  refine q_ci (rest := []) (ws' := (wX4_turn cI cJ cZ cS a_t a_party a_party_kinds a_party_costs a_party_terms a_party_known a_kept a_tape a_telephone a_sheets a_findings v_isKept v_party_size v_party_list v_party_told v_party_kinds v_party_known k1)) (w1 := (wX4_found cI cJ cZ cS a_t a_party a_kept a_tape a_telephone a_sheets a_findings v_isKept k1)) fx h [0, 4] rfl rfl rfl rfl (q_runV fx h hl.1 [0, 4] rfl rfl (tX4_found l D cI cJ cZ cS tb a_t a_party a_kept a_tape a_telephone a_sheets a_findings H.size v_isKept v_findings (-1000000001) r1 k1 hg) mvX4_found k_207 ⟨rfl, rfl⟩ ⟨Nat.le_of_ble_eq_true rfl, Nat.le_of_ble_eq_true rfl⟩ rfl rfl rfl rfl (Nat.le_of_ble_eq_true rfl) dX4_turn_21 ⟨Nat.le_of_ble_eq_true rfl, Nat.le_of_ble_eq_true rfl⟩) (fun H locs h => ?_)
  exact q_reti (fun k : (Nat → Int32) × (Nat → Int32) × (Nat → Int32) => (wX4_turn cI cJ cZ cS a_t a_party a_party_kinds a_party_costs a_party_terms a_party_known a_kept a_tape a_telephone a_sheets a_findings v_isKept v_party_size v_party_list v_party_told k.1 k.2.1 k.2.2)) fx hf h dX4_turn_24
def fX4_turn (v_party_size : Int32) (v_party_kinds : Nat → Int32) (v_party_known : Nat → Int32) (v_findings : Nat → Int32) (x1 : Int32) (x2 : Int32) : Option (Int32 × (Nat → Int32) × (Nat → Int32) × (Nat → Int32)) :=
  bR (fX0_has v_party_size x1) (fun r2 k2 =>
  (if r2 = 0 then (
  fX4_turn_18 v_party_size v_party_kinds v_party_known v_findings)
  else (
  bR (fX4_isKind x2) (fun r4 k4 =>
  (if r4 = 0 then (
  fX4_turn_18 v_party_size v_party_kinds v_party_known v_findings)
  else (
  bR (fX0_turnInto v_party_kinds v_party_known x1 x2) (fun r6 k6 =>
  some (r6, (k6.1, k6.2, v_findings)))))))))
set_option maxRecDepth 100000 in
set_option maxHeartbeats 4000000 in
theorem tX4_turn (l : Launch) (D : va_G) (cI cJ cZ cS : ClassId) (tb : Nat) (a_t a_party a_party_kinds a_party_costs a_party_terms a_party_known a_kept a_tape a_telephone a_sheets a_findings : Nat) (sz : Nat) (v_isKept : Int32) (v_party_size : Int32) (v_party_list : Int32) (v_party_told : Int32) (v_party_kinds : Nat → Int32) (v_party_known : Nat → Int32) (v_findings : Nat → Int32) (x1 : Int32) (x2 : Int32) (rr : Int32) (kk' : (Nat → Int32) × (Nat → Int32) × (Nat → Int32)) (hf : fX4_turn v_party_size v_party_kinds v_party_known v_findings x1 x2 = some (rr, kk')) : Met l yX4_turn (Cond.code yX4_turn cX4_turn 3 (some .int) :: wA) rX4_turn (q_Pre D cI cJ cZ cS tb [.ref a_t, .int x1, .int x2] sz (wX4_turn cI cJ cZ cS a_t a_party a_party_kinds a_party_costs a_party_terms a_party_known a_kept a_tape a_telephone a_sheets a_findings v_isKept v_party_size v_party_list v_party_told v_party_kinds v_party_known v_findings)) (q_Ri D rr (va_A (wX4_turn cI cJ cZ cS a_t a_party a_party_kinds a_party_costs a_party_terms a_party_known a_kept a_tape a_telephone a_sheets a_findings v_isKept v_party_size v_party_list v_party_told v_party_kinds v_party_known v_findings) sz) ((fun k : (Nat → Int32) × (Nat → Int32) × (Nat → Int32) => (wX4_turn cI cJ cZ cS a_t a_party a_party_kinds a_party_costs a_party_terms a_party_known a_kept a_tape a_telephone a_sheets a_findings v_isKept v_party_size v_party_list v_party_told k.1 k.2.1 k.2.2)) kk')) 0 0 (va_A (wX4_turn cI cJ cZ cS a_t a_party a_party_kinds a_party_costs a_party_terms a_party_known a_kept a_tape a_telephone a_sheets a_findings v_isKept v_party_size v_party_list v_party_told v_party_kinds v_party_known v_findings) sz) := by
  refine q_enter (Qf := fun A => (q_Ri D rr A ((fun k : (Nat → Int32) × (Nat → Int32) × (Nat → Int32) => (wX4_turn cI cJ cZ cS a_t a_party a_party_kinds a_party_costs a_party_terms a_party_known a_kept a_tape a_telephone a_sheets a_findings v_isKept v_party_size v_party_list v_party_told k.1 k.2.1 k.2.2)) kk'))) (by decide) rfl (Nat.le_of_ble_eq_true rfl) ?_
  intro p e s m below meth c A ls fx hname h hl
  have hx := fx.1
  have hb := fx.2.1
  have hl : lv_has ls 3 [(0, .ref a_t), (1, .int x1), (2, .int x2)] := hl
  generalize h9 : s.heap = H at h ⊢
  clear h9
  generalize h9 : ([] : List Loc) = locs at h ⊢
  clear h9
  unfold fX4_turn at hf
  refine lv_aload_n hx hb dX4_turn_0 rfl (lv_at hl 0 rfl) ?_
  refine q_get (v := .ref a_party) fx inX4 h 0 rfl rfl 0 (by decide) k_174 rfl dX4_turn_1 ?_
  refine lv_iload_n hx hb dX4_turn_4 rfl (lv_at hl 1 rfl) ?_
  obtain ⟨r2, k2, hg, hf⟩ := bR_inv hf
  refine q_ci (rest := []) (ws' := (wX4_turn cI cJ cZ cS a_t a_party a_party_kinds a_party_costs a_party_terms a_party_known a_kept a_tape a_telephone a_sheets a_findings v_isKept v_party_size v_party_list v_party_told v_party_kinds v_party_known v_findings)) (w1 := (wX0_has cI cJ cZ cS a_party a_party_kinds a_party_costs a_party_terms a_party_known v_party_size v_party_list v_party_told)) fx h [1] rfl rfl rfl rfl (q_runV fx h hl.1 [1] rfl rfl (tX0_has l D cI cJ cZ cS tb a_party a_party_kinds a_party_costs a_party_terms a_party_known H.size v_party_size v_party_list v_party_told x1 r2 k2 hg) mvX0_has k_220 ⟨rfl, rfl⟩ ⟨Nat.le_of_ble_eq_true rfl, Nat.le_of_ble_eq_true rfl⟩ rfl rfl rfl rfl (Nat.le_of_ble_eq_true rfl) dX4_turn_5 ⟨Nat.le_of_ble_eq_true rfl, Nat.le_of_ble_eq_true rfl⟩) (fun H locs h => ?_)
  refine lv_if_eq (tgt := 18) hx hb dX4_turn_8 (by decide) (fun c3 => ?_) (fun c3 => ?_)
  · have hf := it_t c3 hf
    exact LX4_turn_18 fx h (lv_sub hl [0] rfl) hf
  have hf := it_f c3 hf
  refine lv_iload_n hx hb dX4_turn_11 rfl (lv_at hl 2 rfl) ?_
  obtain ⟨r4, k4, hg, hf⟩ := bR_inv hf
  refine q_ci (rest := []) (ws' := (wX4_turn cI cJ cZ cS a_t a_party a_party_kinds a_party_costs a_party_terms a_party_known a_kept a_tape a_telephone a_sheets a_findings v_isKept v_party_size v_party_list v_party_told v_party_kinds v_party_known v_findings)) (w1 := (wX4_isKind cI cJ cZ cS)) fx h [] rfl rfl rfl rfl (q_runS fx h hl.1 [] rfl rfl (tX4_isKind l D cI cJ cZ cS tb H.size x2 r4 k4 hg) msX4_isKind k_200 ⟨rfl, rfl⟩ ⟨Nat.le_of_ble_eq_true rfl, Nat.le_of_ble_eq_true rfl⟩ rfl rfl (Nat.le_of_ble_eq_true rfl) dX4_turn_12 ⟨Nat.le_of_ble_eq_true rfl, Nat.le_of_ble_eq_true rfl⟩) (fun H locs h => ?_)
  refine lv_if_ne (tgt := 25) hx hb dX4_turn_15 (by decide) (fun c5 => ?_) (fun c5 => ?_)
  · have hf := it_f c5 hf
    refine lv_aload_n hx hb dX4_turn_25 rfl (lv_at hl 0 rfl) ?_
    refine q_get (v := .ref a_party) fx inX4 h 0 rfl rfl 0 (by decide) k_174 rfl dX4_turn_26 ?_
    refine lv_iload_n hx hb dX4_turn_29 rfl (lv_at hl 1 rfl) ?_
    refine lv_iload_n hx hb dX4_turn_30 rfl (lv_at hl 2 rfl) ?_
    obtain ⟨r6, k6, hg, hf⟩ := bR_inv hf
    refine q_ci (rest := []) (ws' := (wX4_turn cI cJ cZ cS a_t a_party a_party_kinds a_party_costs a_party_terms a_party_known a_kept a_tape a_telephone a_sheets a_findings v_isKept v_party_size v_party_list v_party_told k6.1 k6.2 v_findings)) (w1 := (wX0_turnInto cI cJ cZ cS a_party a_party_kinds a_party_costs a_party_terms a_party_known v_party_size v_party_list v_party_told k6.1 k6.2)) fx h [1, 2, 3] rfl rfl rfl rfl (q_runV fx h hl.1 [1, 2, 3] rfl rfl (tX0_turnInto l D cI cJ cZ cS tb a_party a_party_kinds a_party_costs a_party_terms a_party_known H.size v_party_size v_party_list v_party_told v_party_kinds v_party_known x1 x2 r6 k6 hg) mvX0_turnInto k_258 ⟨rfl, rfl⟩ ⟨Nat.le_of_ble_eq_true rfl, Nat.le_of_ble_eq_true rfl⟩ rfl rfl rfl rfl (Nat.le_of_ble_eq_true rfl) dX4_turn_31 ⟨Nat.le_of_ble_eq_true rfl, Nat.le_of_ble_eq_true rfl⟩) (fun H locs h => ?_)
    exact q_reti (fun k : (Nat → Int32) × (Nat → Int32) × (Nat → Int32) => (wX4_turn cI cJ cZ cS a_t a_party a_party_kinds a_party_costs a_party_terms a_party_known a_kept a_tape a_telephone a_sheets a_findings v_isKept v_party_size v_party_list v_party_told k.1 k.2.1 k.2.2)) fx hf h dX4_turn_34
  have hf := it_t c5 hf
  exact LX4_turn_18 fx h (lv_sub hl [0] rfl) hf
/-! X4_isUnder -/
abbrev wX4_isUnder (cI cJ cZ cS : ClassId) : va_W := []
abbrev rX4_isUnder : Room := { frames := 0, cells := 0, slots := 0, locals := 0 }
def fX4_isUnder_19 (y0 : Int32) (y1 : Int32) : Option (Int32 × Unit) :=
  (if y0 = 5 then (
  (if y1 = 2 then (
  some (1, ()))
  else (
  some (0, ()))))
  else (
  some (0, ())))
set_option maxRecDepth 100000 in
set_option maxHeartbeats 4000000 in
theorem LX4_isUnder_19 {p : Program} {l : Launch} {e : Env} {s : State} {m : MethodId} {args : Array Value} {below : List Frame} {meth : Method} {c : Code} {D : va_G} {cI cJ cZ cS : ClassId} {tb : Nat} {A : Nat → Prop} {rr : Int32} {kk' : Unit} (fx : q_Fx p s m args meth c cX4_isUnder 2 RX4 (some .boolean) D cI cJ cZ cS tb A) : ∀ {y0 : Int32} {y1 : Int32} {H : Heap} {locs : List Loc} {ls : Array Slot}, q_H D A s (wX4_isUnder cI cJ cZ cS) H locs → lv_has ls 2 [(0, .int y0), (1, .int y1)] → fX4_isUnder_19 y0 y1 = some (rr, kk') → W p l e rX4_isUnder s m args below meth c H locs 0 0 (MQ below (q_Ri D rr A ((fun k : Unit => (wX4_isUnder cI cJ cZ cS)) kk')) args s 0 0 A) (F0 m 19 ls []) := by
  intro y0 y1 H locs ls h hl hf
  have hx := fx.1
  have hb := fx.2.1
  unfold fX4_isUnder_19 at hf
  refine lv_iload_n hx hb dX4_isUnder_19 rfl (lv_at hl 0 rfl) ?_
  refine lv_iconst (v := 5) hx hb dX4_isUnder_20 (by decide) ?_
  refine lv_icmp_ne (tgt := 33) hx hb dX4_isUnder_21 (by decide) (fun c1 => ?_) (fun c1 => ?_)
  · have hf := it_f c1 hf
    refine lv_iconst (v := 0) hx hb dX4_isUnder_33 (by decide) ?_
    exact q_retz (fun k : Unit => (wX4_isUnder cI cJ cZ cS)) fx rfl hf h dX4_isUnder_34
  have hf := it_t c1 hf
  refine lv_iload_n hx hb dX4_isUnder_24 rfl (lv_at hl 1 rfl) ?_
  refine lv_iconst (v := 2) hx hb dX4_isUnder_25 (by decide) ?_
  refine lv_icmp_ne (tgt := 33) hx hb dX4_isUnder_26 (by decide) (fun c2 => ?_) (fun c2 => ?_)
  · have hf := it_f c2 hf
    refine lv_iconst (v := 0) hx hb dX4_isUnder_33 (by decide) ?_
    exact q_retz (fun k : Unit => (wX4_isUnder cI cJ cZ cS)) fx rfl hf h dX4_isUnder_34
  have hf := it_t c2 hf
  refine lv_iconst (v := 1) hx hb dX4_isUnder_29 (by decide) ?_
  refine lv_goto (tgt := 34) hx hb dX4_isUnder_30 (by decide) ?_
  exact q_retz (fun k : Unit => (wX4_isUnder cI cJ cZ cS)) fx rfl hf h dX4_isUnder_34
def fX4_isUnder (x0 : Int32) (x1 : Int32) : Option (Int32 × Unit) :=
  (if x0 = x1 then (
  some (1, ()))
  else (
  (if x1 = 0 then (
  some (1, ()))
  else (
  (if x0 = 4 then (
  (if x1 = 1 then (
  some (1, ()))
  else (
  fX4_isUnder_19  x0 x1)))
  else (
  fX4_isUnder_19  x0 x1))))))
set_option maxRecDepth 100000 in
set_option maxHeartbeats 4000000 in
theorem tX4_isUnder (l : Launch) (D : va_G) (cI cJ cZ cS : ClassId) (tb : Nat) (sz : Nat) (x0 : Int32) (x1 : Int32) (rr : Int32) (kk' : Unit) (hf : fX4_isUnder x0 x1 = some (rr, kk')) : Met l yX4_isUnder (Cond.code yX4_isUnder cX4_isUnder 2 (some .boolean) :: wA) rX4_isUnder (q_Pre D cI cJ cZ cS tb [.int x0, .int x1] sz (wX4_isUnder cI cJ cZ cS)) (q_Ri D rr (va_A (wX4_isUnder cI cJ cZ cS) sz) ((fun k : Unit => (wX4_isUnder cI cJ cZ cS)) kk')) 0 0 (va_A (wX4_isUnder cI cJ cZ cS) sz) := by
  refine q_enter (Qf := fun A => (q_Ri D rr A ((fun k : Unit => (wX4_isUnder cI cJ cZ cS)) kk'))) (by decide) rfl (Nat.le_of_ble_eq_true rfl) ?_
  intro p e s m below meth c A ls fx hname h hl
  have hx := fx.1
  have hb := fx.2.1
  have hl : lv_has ls 2 [(0, .int x0), (1, .int x1)] := hl
  generalize h9 : s.heap = H at h ⊢
  clear h9
  generalize h9 : ([] : List Loc) = locs at h ⊢
  clear h9
  unfold fX4_isUnder at hf
  refine lv_iload_n hx hb dX4_isUnder_0 rfl (lv_at hl 0 rfl) ?_
  refine lv_iload_n hx hb dX4_isUnder_1 rfl (lv_at hl 1 rfl) ?_
  refine lv_icmp_eq (tgt := 29) hx hb dX4_isUnder_2 (by decide) (fun c3 => ?_) (fun c3 => ?_)
  · have hf := it_t c3 hf
    refine lv_iconst (v := 1) hx hb dX4_isUnder_29 (by decide) ?_
    refine lv_goto (tgt := 34) hx hb dX4_isUnder_30 (by decide) ?_
    exact q_retz (fun k : Unit => (wX4_isUnder cI cJ cZ cS)) fx rfl hf h dX4_isUnder_34
  have hf := it_f c3 hf
  refine lv_iload_n hx hb dX4_isUnder_5 rfl (lv_at hl 1 rfl) ?_
  refine lv_if_eq (tgt := 29) hx hb dX4_isUnder_6 (by decide) (fun c4 => ?_) (fun c4 => ?_)
  · have hf := it_t c4 hf
    refine lv_iconst (v := 1) hx hb dX4_isUnder_29 (by decide) ?_
    refine lv_goto (tgt := 34) hx hb dX4_isUnder_30 (by decide) ?_
    exact q_retz (fun k : Unit => (wX4_isUnder cI cJ cZ cS)) fx rfl hf h dX4_isUnder_34
  have hf := it_f c4 hf
  refine lv_iload_n hx hb dX4_isUnder_9 rfl (lv_at hl 0 rfl) ?_
  refine lv_iconst (v := 4) hx hb dX4_isUnder_10 (by decide) ?_
  refine lv_icmp_ne (tgt := 19) hx hb dX4_isUnder_11 (by decide) (fun c5 => ?_) (fun c5 => ?_)
  · have hf := it_f c5 hf
    exact LX4_isUnder_19 fx h (lv_sub hl [0, 1] rfl) hf
  have hf := it_t c5 hf
  refine lv_iload_n hx hb dX4_isUnder_14 rfl (lv_at hl 1 rfl) ?_
  refine lv_iconst (v := 1) hx hb dX4_isUnder_15 (by decide) ?_
  refine lv_icmp_eq (tgt := 29) hx hb dX4_isUnder_16 (by decide) (fun c6 => ?_) (fun c6 => ?_)
  · have hf := it_t c6 hf
    refine lv_iconst (v := 1) hx hb dX4_isUnder_29 (by decide) ?_
    refine lv_goto (tgt := 34) hx hb dX4_isUnder_30 (by decide) ?_
    exact q_retz (fun k : Unit => (wX4_isUnder cI cJ cZ cS)) fx rfl hf h dX4_isUnder_34
  have hf := it_f c6 hf
  exact LX4_isUnder_19 fx h (lv_sub hl [0, 1] rfl) hf
/-! X4_as -/
abbrev wX4_as (cI cJ cZ cS : ClassId) (a_t a_party a_party_kinds a_party_costs a_party_terms a_party_known a_kept a_tape a_telephone a_sheets a_findings : Nat) (v_isKept : Int32) (v_party_size : Int32) (v_party_list : Int32) (v_party_told : Int32) (v_party_kinds : Nat → Int32) (v_party_costs : Nat → Int32) (v_findings : Nat → Int32) : va_W := [(a_t, .inr (4, [.ref a_party, .ref a_kept, .int v_isKept, .ref a_tape, .ref a_telephone, .ref a_sheets, .ref a_findings])), (a_party, .inr (0, [.int v_party_size, .int v_party_list, .int v_party_told, .ref a_party_kinds, .ref a_party_costs, .ref a_party_terms, .ref a_party_known])), (a_party_kinds, .inl (cI, 8, .inl v_party_kinds)), (a_party_costs, .inl (cI, 8, .inl v_party_costs)), (a_findings, .inl (cI, 7, .inl v_findings))]
abbrev rX4_as : Room := { frames := 1, cells := 0, slots := 0, locals := 22 }
def fX4_as_18 (v_party_size : Int32) (v_party_kinds : Nat → Int32) (v_party_costs : Nat → Int32) (v_findings : Nat → Int32) : Option (Int32 × (Nat → Int32)) :=
  bR (fX4_found v_findings (-1000000001)) (fun r1 k1 =>
  some (r1, k1))
set_option maxRecDepth 100000 in
set_option maxHeartbeats 4000000 in
theorem LX4_as_18 {p : Program} {l : Launch} {e : Env} {s : State} {m : MethodId} {args : Array Value} {below : List Frame} {meth : Method} {c : Code} {D : va_G} {cI cJ cZ cS : ClassId} {tb : Nat} {A : Nat → Prop} {a_t a_party a_party_kinds a_party_costs a_party_terms a_party_known a_kept a_tape a_telephone a_sheets a_findings : Nat} {v_isKept : Int32} {v_party_size : Int32} {v_party_list : Int32} {v_party_told : Int32} {v_party_kinds : Nat → Int32} {v_party_costs : Nat → Int32} {rr : Int32} {kk' : (Nat → Int32)} (fx : q_Fx p s m args meth c cX4_as 3 RX4 (some .int) D cI cJ cZ cS tb A) : ∀ {v_findings : Nat → Int32} {H : Heap} {locs : List Loc} {ls : Array Slot}, q_H D A s (wX4_as cI cJ cZ cS a_t a_party a_party_kinds a_party_costs a_party_terms a_party_known a_kept a_tape a_telephone a_sheets a_findings v_isKept v_party_size v_party_list v_party_told v_party_kinds v_party_costs v_findings) H locs → lv_has ls 3 [(0, .ref a_t)] → fX4_as_18 v_party_size v_party_kinds v_party_costs v_findings = some (rr, kk') → W p l e rX4_as s m args below meth c H locs 0 0 (MQ below (q_Ri D rr A ((fun k : (Nat → Int32) => (wX4_as cI cJ cZ cS a_t a_party a_party_kinds a_party_costs a_party_terms a_party_known a_kept a_tape a_telephone a_sheets a_findings v_isKept v_party_size v_party_list v_party_told v_party_kinds v_party_costs k)) kk')) args s 0 0 A) (F0 m 18 ls []) := by
  intro v_findings H locs ls h hl hf
  have hx := fx.1
  have hb := fx.2.1
  unfold fX4_as_18 at hf
  refine lv_aload_n hx hb dX4_as_18 rfl (lv_at hl 0 rfl) ?_
  refine q_ldc fx k_206 dX4_as_19 ?_
  obtain ⟨r1, k1, hg, hf⟩ := bR_inv hf
  refine q_ci (rest := []) (ws' := (wX4_as cI cJ cZ cS a_t a_party a_party_kinds a_party_costs a_party_terms a_party_known a_kept a_tape a_telephone a_sheets a_findings v_isKept v_party_size v_party_list v_party_told v_party_kinds v_party_costs k1)) (w1 := (wX4_found cI cJ cZ cS a_t a_party a_kept a_tape a_telephone a_sheets a_findings v_isKept k1)) fx h [0, 4] rfl rfl rfl rfl (q_runV fx h hl.1 [0, 4] rfl rfl (tX4_found l D cI cJ cZ cS tb a_t a_party a_kept a_tape a_telephone a_sheets a_findings H.size v_isKept v_findings (-1000000001) r1 k1 hg) mvX4_found k_207 ⟨rfl, rfl⟩ ⟨Nat.le_of_ble_eq_true rfl, Nat.le_of_ble_eq_true rfl⟩ rfl rfl rfl rfl (Nat.le_of_ble_eq_true rfl) dX4_as_21 ⟨Nat.le_of_ble_eq_true rfl, Nat.le_of_ble_eq_true rfl⟩) (fun H locs h => ?_)
  exact q_reti (fun k : (Nat → Int32) => (wX4_as cI cJ cZ cS a_t a_party a_party_kinds a_party_costs a_party_terms a_party_known a_kept a_tape a_telephone a_sheets a_findings v_isKept v_party_size v_party_list v_party_told v_party_kinds v_party_costs k)) fx hf h dX4_as_24
def fX4_as (v_party_size : Int32) (v_party_kinds : Nat → Int32) (v_party_costs : Nat → Int32) (v_findings : Nat → Int32) (x1 : Int32) (x2 : Int32) : Option (Int32 × (Nat → Int32)) :=
  bR (fX0_has v_party_size x1) (fun r2 k2 =>
  (if r2 = 0 then (
  fX4_as_18 v_party_size v_party_kinds v_party_costs v_findings)
  else (
  bR (fX4_isKind x2) (fun r4 k4 =>
  (if r4 = 0 then (
  fX4_as_18 v_party_size v_party_kinds v_party_costs v_findings)
  else (
  gIn x1 8 (
  bR (fX4_isUnder (v_party_kinds x1.toNatClampNeg) x2) (fun r7 k7 =>
  (if r7 = 0 then (
  bR (fX4_found v_findings (-1000000003)) (fun r9 k9 =>
  some (r9, k9)))
  else (
  gIn x1 8 (
  some (v_party_costs x1.toNatClampNeg, v_findings))))))))))))
set_option maxRecDepth 100000 in
set_option maxHeartbeats 4000000 in
theorem tX4_as (l : Launch) (D : va_G) (cI cJ cZ cS : ClassId) (tb : Nat) (a_t a_party a_party_kinds a_party_costs a_party_terms a_party_known a_kept a_tape a_telephone a_sheets a_findings : Nat) (sz : Nat) (v_isKept : Int32) (v_party_size : Int32) (v_party_list : Int32) (v_party_told : Int32) (v_party_kinds : Nat → Int32) (v_party_costs : Nat → Int32) (v_findings : Nat → Int32) (x1 : Int32) (x2 : Int32) (rr : Int32) (kk' : (Nat → Int32)) (hf : fX4_as v_party_size v_party_kinds v_party_costs v_findings x1 x2 = some (rr, kk')) : Met l yX4_as (Cond.code yX4_as cX4_as 3 (some .int) :: wA) rX4_as (q_Pre D cI cJ cZ cS tb [.ref a_t, .int x1, .int x2] sz (wX4_as cI cJ cZ cS a_t a_party a_party_kinds a_party_costs a_party_terms a_party_known a_kept a_tape a_telephone a_sheets a_findings v_isKept v_party_size v_party_list v_party_told v_party_kinds v_party_costs v_findings)) (q_Ri D rr (va_A (wX4_as cI cJ cZ cS a_t a_party a_party_kinds a_party_costs a_party_terms a_party_known a_kept a_tape a_telephone a_sheets a_findings v_isKept v_party_size v_party_list v_party_told v_party_kinds v_party_costs v_findings) sz) ((fun k : (Nat → Int32) => (wX4_as cI cJ cZ cS a_t a_party a_party_kinds a_party_costs a_party_terms a_party_known a_kept a_tape a_telephone a_sheets a_findings v_isKept v_party_size v_party_list v_party_told v_party_kinds v_party_costs k)) kk')) 0 0 (va_A (wX4_as cI cJ cZ cS a_t a_party a_party_kinds a_party_costs a_party_terms a_party_known a_kept a_tape a_telephone a_sheets a_findings v_isKept v_party_size v_party_list v_party_told v_party_kinds v_party_costs v_findings) sz) := by
  refine q_enter (Qf := fun A => (q_Ri D rr A ((fun k : (Nat → Int32) => (wX4_as cI cJ cZ cS a_t a_party a_party_kinds a_party_costs a_party_terms a_party_known a_kept a_tape a_telephone a_sheets a_findings v_isKept v_party_size v_party_list v_party_told v_party_kinds v_party_costs k)) kk'))) (by decide) rfl (Nat.le_of_ble_eq_true rfl) ?_
  intro p e s m below meth c A ls fx hname h hl
  have hx := fx.1
  have hb := fx.2.1
  have hl : lv_has ls 3 [(0, .ref a_t), (1, .int x1), (2, .int x2)] := hl
  generalize h9 : s.heap = H at h ⊢
  clear h9
  generalize h9 : ([] : List Loc) = locs at h ⊢
  clear h9
  unfold fX4_as at hf
  refine lv_aload_n hx hb dX4_as_0 rfl (lv_at hl 0 rfl) ?_
  refine q_get (v := .ref a_party) fx inX4 h 0 rfl rfl 0 (by decide) k_174 rfl dX4_as_1 ?_
  refine lv_iload_n hx hb dX4_as_4 rfl (lv_at hl 1 rfl) ?_
  obtain ⟨r2, k2, hg, hf⟩ := bR_inv hf
  refine q_ci (rest := []) (ws' := (wX4_as cI cJ cZ cS a_t a_party a_party_kinds a_party_costs a_party_terms a_party_known a_kept a_tape a_telephone a_sheets a_findings v_isKept v_party_size v_party_list v_party_told v_party_kinds v_party_costs v_findings)) (w1 := (wX0_has cI cJ cZ cS a_party a_party_kinds a_party_costs a_party_terms a_party_known v_party_size v_party_list v_party_told)) fx h [1] rfl rfl rfl rfl (q_runV fx h hl.1 [1] rfl rfl (tX0_has l D cI cJ cZ cS tb a_party a_party_kinds a_party_costs a_party_terms a_party_known H.size v_party_size v_party_list v_party_told x1 r2 k2 hg) mvX0_has k_220 ⟨rfl, rfl⟩ ⟨Nat.le_of_ble_eq_true rfl, Nat.le_of_ble_eq_true rfl⟩ rfl rfl rfl rfl (Nat.le_of_ble_eq_true rfl) dX4_as_5 ⟨Nat.le_of_ble_eq_true rfl, Nat.le_of_ble_eq_true rfl⟩) (fun H locs h => ?_)
  refine lv_if_eq (tgt := 18) hx hb dX4_as_8 (by decide) (fun c3 => ?_) (fun c3 => ?_)
  · have hf := it_t c3 hf
    exact LX4_as_18 fx h (lv_sub hl [0] rfl) hf
  have hf := it_f c3 hf
  refine lv_iload_n hx hb dX4_as_11 rfl (lv_at hl 2 rfl) ?_
  obtain ⟨r4, k4, hg, hf⟩ := bR_inv hf
  refine q_ci (rest := []) (ws' := (wX4_as cI cJ cZ cS a_t a_party a_party_kinds a_party_costs a_party_terms a_party_known a_kept a_tape a_telephone a_sheets a_findings v_isKept v_party_size v_party_list v_party_told v_party_kinds v_party_costs v_findings)) (w1 := (wX4_isKind cI cJ cZ cS)) fx h [] rfl rfl rfl rfl (q_runS fx h hl.1 [] rfl rfl (tX4_isKind l D cI cJ cZ cS tb H.size x2 r4 k4 hg) msX4_isKind k_200 ⟨rfl, rfl⟩ ⟨Nat.le_of_ble_eq_true rfl, Nat.le_of_ble_eq_true rfl⟩ rfl rfl (Nat.le_of_ble_eq_true rfl) dX4_as_12 ⟨Nat.le_of_ble_eq_true rfl, Nat.le_of_ble_eq_true rfl⟩) (fun H locs h => ?_)
  refine lv_if_ne (tgt := 25) hx hb dX4_as_15 (by decide) (fun c5 => ?_) (fun c5 => ?_)
  · have hf := it_f c5 hf
    refine lv_aload_n hx hb dX4_as_25 rfl (lv_at hl 0 rfl) ?_
    refine q_get (v := .ref a_party) fx inX4 h 0 rfl rfl 0 (by decide) k_174 rfl dX4_as_26 ?_
    refine q_getN (v := .ref a_party_kinds) fx inX0 h 1 rfl rfl 3 (by decide) nf_5 rfl dX4_as_29 ?_
    refine lv_iload_n hx hb dX4_as_32 rfl (lv_at hl 1 rfl) ?_
    obtain ⟨i6, hf⟩ := gIn_inv hf
    refine q_iald fx h 2 rfl i6 dX4_as_33 ?_
    refine lv_iload_n hx hb dX4_as_34 rfl (lv_at hl 2 rfl) ?_
    obtain ⟨r7, k7, hg, hf⟩ := bR_inv hf
    refine q_ci (rest := []) (ws' := (wX4_as cI cJ cZ cS a_t a_party a_party_kinds a_party_costs a_party_terms a_party_known a_kept a_tape a_telephone a_sheets a_findings v_isKept v_party_size v_party_list v_party_told v_party_kinds v_party_costs v_findings)) (w1 := (wX4_isUnder cI cJ cZ cS)) fx h [] rfl rfl rfl rfl (q_runS fx h hl.1 [] rfl rfl (tX4_isUnder l D cI cJ cZ cS tb H.size (v_party_kinds x1.toNatClampNeg) x2 r7 k7 hg) msX4_isUnder k_266 ⟨rfl, rfl⟩ ⟨Nat.le_of_ble_eq_true rfl, Nat.le_of_ble_eq_true rfl⟩ rfl rfl (Nat.le_of_ble_eq_true rfl) dX4_as_35 ⟨Nat.le_of_ble_eq_true rfl, Nat.le_of_ble_eq_true rfl⟩) (fun H locs h => ?_)
    refine lv_if_eq (tgt := 53) hx hb dX4_as_38 (by decide) (fun c8 => ?_) (fun c8 => ?_)
    · have hf := it_t c8 hf
      refine lv_aload_n hx hb dX4_as_53 rfl (lv_at hl 0 rfl) ?_
      refine q_ldc fx k_269 dX4_as_54 ?_
      obtain ⟨r9, k9, hg, hf⟩ := bR_inv hf
      refine q_ci (rest := []) (ws' := (wX4_as cI cJ cZ cS a_t a_party a_party_kinds a_party_costs a_party_terms a_party_known a_kept a_tape a_telephone a_sheets a_findings v_isKept v_party_size v_party_list v_party_told v_party_kinds v_party_costs k9)) (w1 := (wX4_found cI cJ cZ cS a_t a_party a_kept a_tape a_telephone a_sheets a_findings v_isKept k9)) fx h [0, 4] rfl rfl rfl rfl (q_runV fx h hl.1 [0, 4] rfl rfl (tX4_found l D cI cJ cZ cS tb a_t a_party a_kept a_tape a_telephone a_sheets a_findings H.size v_isKept v_findings (-1000000003) r9 k9 hg) mvX4_found k_207 ⟨rfl, rfl⟩ ⟨Nat.le_of_ble_eq_true rfl, Nat.le_of_ble_eq_true rfl⟩ rfl rfl rfl rfl (Nat.le_of_ble_eq_true rfl) dX4_as_56 ⟨Nat.le_of_ble_eq_true rfl, Nat.le_of_ble_eq_true rfl⟩) (fun H locs h => ?_)
      exact q_reti (fun k : (Nat → Int32) => (wX4_as cI cJ cZ cS a_t a_party a_party_kinds a_party_costs a_party_terms a_party_known a_kept a_tape a_telephone a_sheets a_findings v_isKept v_party_size v_party_list v_party_told v_party_kinds v_party_costs k)) fx hf h dX4_as_59
    have hf := it_f c8 hf
    refine lv_aload_n hx hb dX4_as_41 rfl (lv_at hl 0 rfl) ?_
    refine q_get (v := .ref a_party) fx inX4 h 0 rfl rfl 0 (by decide) k_174 rfl dX4_as_42 ?_
    refine q_getN (v := .ref a_party_costs) fx inX0 h 1 rfl rfl 4 (by decide) nf_6 rfl dX4_as_45 ?_
    refine lv_iload_n hx hb dX4_as_48 rfl (lv_at hl 1 rfl) ?_
    obtain ⟨i10, hf⟩ := gIn_inv hf
    refine q_iald fx h 3 rfl i10 dX4_as_49 ?_
    refine lv_goto (tgt := 59) hx hb dX4_as_50 (by decide) ?_
    exact q_reti (fun k : (Nat → Int32) => (wX4_as cI cJ cZ cS a_t a_party a_party_kinds a_party_costs a_party_terms a_party_known a_kept a_tape a_telephone a_sheets a_findings v_isKept v_party_size v_party_list v_party_told v_party_kinds v_party_costs k)) fx hf h dX4_as_59
  have hf := it_t c5 hf
  exact LX4_as_18 fx h (lv_sub hl [0] rfl) hf
/-! X2_sign -/
abbrev wX2_sign (cI cJ cZ cS : ClassId) (a_t a_bytes : Nat) (v_length : Int32) (v_place : Int32) (v_fault : Int32) (v_teller : Int32) (v_word : Int32) (v_bytes : Nat → Int32) : va_W := [(a_t, .inr (2, [.ref a_bytes, .int v_length, .int v_place, .int v_fault, .int v_teller, .int v_word])), (a_bytes, .inl (cI, 60, .inl v_bytes))]
abbrev rX2_sign : Room := { frames := 0, cells := 0, slots := 0, locals := 0 }
def fX2_sign (v_length : Int32) (v_place : Int32) (v_fault : Int32) (v_bytes : Nat → Int32) : Option (Int32 × Unit) :=
  (if v_fault = (-1) then (
  (if v_length ≤ v_place then (
  some ((-1), ()))
  else (
  gIn v_place 60 (
  some (v_bytes v_place.toNatClampNeg, ())))))
  else (
  some ((-1), ())))
set_option maxRecDepth 100000 in
set_option maxHeartbeats 4000000 in
theorem tX2_sign (l : Launch) (D : va_G) (cI cJ cZ cS : ClassId) (tb : Nat) (a_t a_bytes : Nat) (sz : Nat) (v_length : Int32) (v_place : Int32) (v_fault : Int32) (v_teller : Int32) (v_word : Int32) (v_bytes : Nat → Int32) (rr : Int32) (kk' : Unit) (hf : fX2_sign v_length v_place v_fault v_bytes = some (rr, kk')) : Met l yX2_sign (Cond.code yX2_sign cX2_sign 1 (some .int) :: wA) rX2_sign (q_Pre D cI cJ cZ cS tb [.ref a_t] sz (wX2_sign cI cJ cZ cS a_t a_bytes v_length v_place v_fault v_teller v_word v_bytes)) (q_Ri D rr (va_A (wX2_sign cI cJ cZ cS a_t a_bytes v_length v_place v_fault v_teller v_word v_bytes) sz) ((fun k : Unit => (wX2_sign cI cJ cZ cS a_t a_bytes v_length v_place v_fault v_teller v_word v_bytes)) kk')) 0 0 (va_A (wX2_sign cI cJ cZ cS a_t a_bytes v_length v_place v_fault v_teller v_word v_bytes) sz) := by
  refine q_enter (Qf := fun A => (q_Ri D rr A ((fun k : Unit => (wX2_sign cI cJ cZ cS a_t a_bytes v_length v_place v_fault v_teller v_word v_bytes)) kk'))) (by decide) rfl (Nat.le_of_ble_eq_true rfl) ?_
  intro p e s m below meth c A ls fx hname h hl
  have hx := fx.1
  have hb := fx.2.1
  have hl : lv_has ls 1 [(0, .ref a_t)] := hl
  generalize h9 : s.heap = H at h ⊢
  clear h9
  generalize h9 : ([] : List Loc) = locs at h ⊢
  clear h9
  unfold fX2_sign at hf
  refine lv_aload_n hx hb dX2_sign_0 rfl (lv_at hl 0 rfl) ?_
  refine q_get (v := .int v_fault) fx inX2 h 0 rfl rfl 3 (by decide) k_121 rfl dX2_sign_1 ?_
  refine lv_iconst (v := -1) hx hb dX2_sign_4 (by decide) ?_
  refine lv_icmp_ne (tgt := 31) hx hb dX2_sign_5 (by decide) (fun c1 => ?_) (fun c1 => ?_)
  · have hf := it_f c1 hf
    refine lv_iconst (v := -1) hx hb dX2_sign_31 (by decide) ?_
    exact q_reti (fun k : Unit => (wX2_sign cI cJ cZ cS a_t a_bytes v_length v_place v_fault v_teller v_word v_bytes)) fx hf h dX2_sign_32
  have hf := it_t c1 hf
  refine lv_aload_n hx hb dX2_sign_8 rfl (lv_at hl 0 rfl) ?_
  refine q_get (v := .int v_place) fx inX2 h 0 rfl rfl 2 (by decide) k_120 rfl dX2_sign_9 ?_
  refine lv_aload_n hx hb dX2_sign_12 rfl (lv_at hl 0 rfl) ?_
  refine q_get (v := .int v_length) fx inX2 h 0 rfl rfl 1 (by decide) k_118 rfl dX2_sign_13 ?_
  refine lv_icmp_ge (tgt := 31) hx hb dX2_sign_16 (by decide) (fun c2 => ?_) (fun c2 => ?_)
  · have hf := it_t c2 hf
    refine lv_iconst (v := -1) hx hb dX2_sign_31 (by decide) ?_
    exact q_reti (fun k : Unit => (wX2_sign cI cJ cZ cS a_t a_bytes v_length v_place v_fault v_teller v_word v_bytes)) fx hf h dX2_sign_32
  have hf := it_f c2 hf
  refine lv_aload_n hx hb dX2_sign_19 rfl (lv_at hl 0 rfl) ?_
  refine q_get (v := .ref a_bytes) fx inX2 h 0 rfl rfl 0 (by decide) k_117 rfl dX2_sign_20 ?_
  refine lv_aload_n hx hb dX2_sign_23 rfl (lv_at hl 0 rfl) ?_
  refine q_get (v := .int v_place) fx inX2 h 0 rfl rfl 2 (by decide) k_120 rfl dX2_sign_24 ?_
  obtain ⟨i3, hf⟩ := gIn_inv hf
  refine q_iald fx h 1 rfl i3 dX2_sign_27 ?_
  refine lv_goto (tgt := 32) hx hb dX2_sign_28 (by decide) ?_
  exact q_reti (fun k : Unit => (wX2_sign cI cJ cZ cS a_t a_bytes v_length v_place v_fault v_teller v_word v_bytes)) fx hf h dX2_sign_32
end
section
/-! X4_isOn -/
abbrev wX4_isOn (cI cJ cZ cS : ClassId) : va_W := []
abbrev rX4_isOn : Room := { frames := 0, cells := 0, slots := 0, locals := 0 }
def fX4_isOn (x0 : Int32) (x1 : Int32) : Option (Int32 × Unit) :=
  (if ((jshr x1 x0) &&& 1) = 0 then (
  some (0, ()))
  else (
  some (1, ())))
set_option maxRecDepth 100000 in
set_option maxHeartbeats 4000000 in
theorem tX4_isOn (l : Launch) (D : va_G) (cI cJ cZ cS : ClassId) (tb : Nat) (sz : Nat) (x0 : Int32) (x1 : Int32) (rr : Int32) (kk' : Unit) (hf : fX4_isOn x0 x1 = some (rr, kk')) : Met l yX4_isOn (Cond.code yX4_isOn cX4_isOn 2 (some .boolean) :: wA) rX4_isOn (q_Pre D cI cJ cZ cS tb [.int x0, .int x1] sz (wX4_isOn cI cJ cZ cS)) (q_Ri D rr (va_A (wX4_isOn cI cJ cZ cS) sz) ((fun k : Unit => (wX4_isOn cI cJ cZ cS)) kk')) 0 0 (va_A (wX4_isOn cI cJ cZ cS) sz) := by
  refine q_enter (Qf := fun A => (q_Ri D rr A ((fun k : Unit => (wX4_isOn cI cJ cZ cS)) kk'))) (by decide) rfl (Nat.le_of_ble_eq_true rfl) ?_
  intro p e s m below meth c A ls fx hname h hl
  have hx := fx.1
  have hb := fx.2.1
  have hl : lv_has ls 2 [(0, .int x0), (1, .int x1)] := hl
  generalize h9 : s.heap = H at h ⊢
  clear h9
  generalize h9 : ([] : List Loc) = locs at h ⊢
  clear h9
  unfold fX4_isOn at hf
  refine lv_iload_n hx hb dX4_isOn_0 rfl (lv_at hl 1 rfl) ?_
  refine lv_iload_n hx hb dX4_isOn_1 rfl (lv_at hl 0 rfl) ?_
  refine lv_ishr hx hb dX4_isOn_2 ?_
  refine lv_iconst (v := 1) hx hb dX4_isOn_3 (by decide) ?_
  refine lv_iand hx hb dX4_isOn_4 ?_
  refine lv_if_eq (tgt := 12) hx hb dX4_isOn_5 (by decide) (fun c1 => ?_) (fun c1 => ?_)
  · have hf := it_t c1 hf
    refine lv_iconst (v := 0) hx hb dX4_isOn_12 (by decide) ?_
    exact q_retz (fun k : Unit => (wX4_isOn cI cJ cZ cS)) fx rfl hf h dX4_isOn_13
  have hf := it_f c1 hf
  refine lv_iconst (v := 1) hx hb dX4_isOn_8 (by decide) ?_
  refine lv_goto (tgt := 13) hx hb dX4_isOn_9 (by decide) ?_
  exact q_retz (fun k : Unit => (wX4_isOn cI cJ cZ cS)) fx rfl hf h dX4_isOn_13
/-! X2_listsWith -/
abbrev wX2_listsWith (cI cJ cZ cS : ClassId) (a_t a_bytes : Nat) (v_length : Int32) (v_place : Int32) (v_fault : Int32) (v_teller : Int32) (v_word : Int32) : va_W := [(a_t, .inr (2, [.ref a_bytes, .int v_length, .int v_place, .int v_fault, .int v_teller, .int v_word]))]
abbrev rX2_listsWith : Room := { frames := 1, cells := 0, slots := 0, locals := 21 }
def fX2_listsWith (v_word : Int32) (x1 : Int32) : Option (Int64 × Unit) :=
  (if (6 : Int32) ≤ x1 then (
  bR (fX4_isOn (x1 - 6) v_word) (fun r2 k2 =>
  (if r2 = 0 then (
  some (0, ()))
  else (
  some ((-1), ())))))
  else (
  gIn x1 6 (
  some (q_tb x1.toNatClampNeg, ()))))
set_option maxRecDepth 100000 in
set_option maxHeartbeats 4000000 in
theorem tX2_listsWith (l : Launch) (D : va_G) (cI cJ cZ cS : ClassId) (tb : Nat) (a_t a_bytes : Nat) (sz : Nat) (v_length : Int32) (v_place : Int32) (v_fault : Int32) (v_teller : Int32) (v_word : Int32) (x1 : Int32) (rr : Int64) (kk' : Unit) (hf : fX2_listsWith v_word x1 = some (rr, kk')) : Met l yX2_listsWith (Cond.code yX2_listsWith cX2_listsWith 2 (some .long) :: wA) rX2_listsWith (q_Pre D cI cJ cZ cS tb [.ref a_t, .int x1] sz (wX2_listsWith cI cJ cZ cS a_t a_bytes v_length v_place v_fault v_teller v_word)) (q_Rl D rr (va_A (wX2_listsWith cI cJ cZ cS a_t a_bytes v_length v_place v_fault v_teller v_word) sz) ((fun k : Unit => (wX2_listsWith cI cJ cZ cS a_t a_bytes v_length v_place v_fault v_teller v_word)) kk')) 0 0 (va_A (wX2_listsWith cI cJ cZ cS a_t a_bytes v_length v_place v_fault v_teller v_word) sz) := by
  refine q_enter (Qf := fun A => (q_Rl D rr A ((fun k : Unit => (wX2_listsWith cI cJ cZ cS a_t a_bytes v_length v_place v_fault v_teller v_word)) kk'))) (by decide) rfl (Nat.le_of_ble_eq_true rfl) ?_
  intro p e s m below meth c A ls fx hname h hl
  have hx := fx.1
  have hb := fx.2.1
  have hl : lv_has ls 2 [(0, .ref a_t), (1, .int x1)] := hl
  generalize h9 : s.heap = H at h ⊢
  clear h9
  generalize h9 : ([] : List Loc) = locs at h ⊢
  clear h9
  unfold fX2_listsWith at hf
  refine lv_iload_n hx hb dX2_listsWith_0 rfl (lv_at hl 1 rfl) ?_
  refine q_tabN fx h nf_12 dX2_listsWith_1 ?_
  refine q_tabL fx h dX2_listsWith_4 ?_
  refine lv_icmp_ge (tgt := 14) hx hb dX2_listsWith_5 (by decide) (fun c1 => ?_) (fun c1 => ?_)
  · have hf := it_t c1 hf
    refine lv_iload_n hx hb dX2_listsWith_14 rfl (lv_at hl 1 rfl) ?_
    refine q_tabN fx h nf_12 dX2_listsWith_15 ?_
    refine q_tabL fx h dX2_listsWith_18 ?_
    refine lv_isub hx hb dX2_listsWith_19 ?_
    refine lv_aload_n hx hb dX2_listsWith_20 rfl (lv_at hl 0 rfl) ?_
    refine q_get (v := .int v_word) fx inX2 h 0 rfl rfl 5 (by decide) k_124 rfl dX2_listsWith_21 ?_
    obtain ⟨r2, k2, hg, hf⟩ := bR_inv hf
    refine q_ci (rest := []) (ws' := (wX2_listsWith cI cJ cZ cS a_t a_bytes v_length v_place v_fault v_teller v_word)) (w1 := (wX4_isOn cI cJ cZ cS)) fx h [] rfl rfl rfl rfl (q_runSN fx h hl.1 [] rfl rfl (tX4_isOn l D cI cJ cZ cS tb H.size (x1 - 6) v_word r2 k2 hg) msX4_isOn nm_1 ⟨rfl, rfl⟩ ⟨Nat.le_of_ble_eq_true rfl, Nat.le_of_ble_eq_true rfl⟩ rfl rfl (Nat.le_of_ble_eq_true rfl) dX2_listsWith_24 ⟨Nat.le_of_ble_eq_true rfl, Nat.le_of_ble_eq_true rfl⟩) (fun H locs h => ?_)
    refine lv_if_eq (tgt := 36) hx hb dX2_listsWith_27 (by decide) (fun c3 => ?_) (fun c3 => ?_)
    · have hf := it_t c3 hf
      refine lv_lconst (v := 0) hx hb dX2_listsWith_36 (by decide) ?_
      exact q_retl (fun k : Unit => (wX2_listsWith cI cJ cZ cS a_t a_bytes v_length v_place v_fault v_teller v_word)) fx hf h dX2_listsWith_37
    have hf := it_f c3 hf
    refine q_ldc2 fx k_303 dX2_listsWith_30 ?_
    refine lv_goto (tgt := 37) hx hb dX2_listsWith_33 (by decide) ?_
    exact q_retl (fun k : Unit => (wX2_listsWith cI cJ cZ cS a_t a_bytes v_length v_place v_fault v_teller v_word)) fx hf h dX2_listsWith_37
  have hf := it_f c1 hf
  refine q_tabN fx h nf_12 dX2_listsWith_8 ?_
  refine lv_iload_n hx hb dX2_listsWith_11 rfl (lv_at hl 1 rfl) ?_
  obtain ⟨i4, hf⟩ := gIn_inv hf
  refine q_tabA fx h i4 dX2_listsWith_12 ?_
  exact q_retl (fun k : Unit => (wX2_listsWith cI cJ cZ cS a_t a_bytes v_length v_place v_fault v_teller v_word)) fx hf h dX2_listsWith_13
/-! X2_passes -/
abbrev wX2_passes (cI cJ cZ cS : ClassId) (a_t a_bytes : Nat) (v_length : Int32) (v_place : Int32) (v_fault : Int32) (v_teller : Int32) (v_word : Int32) (v_bytes : Nat → Int32) : va_W := [(a_t, .inr (2, [.ref a_bytes, .int v_length, .int v_place, .int v_fault, .int v_teller, .int v_word])), (a_bytes, .inl (cI, 60, .inl v_bytes))]
abbrev rX2_passes : Room := { frames := 1, cells := 0, slots := 0, locals := 20 }
def fX2_passes_13 (v_length : Int32) (v_fault : Int32) (v_bytes : Nat → Int32) (v_place : Int32) (s0 : Int32) : Option (Int32 × Int32) :=
  bR (fX4_oneIf s0) (fun r1 k1 =>
  nm (v_place + r1) (fun u2 =>
  gB s0 (some (s0, u2))))
set_option maxRecDepth 100000 in
set_option maxHeartbeats 4000000 in
theorem LX2_passes_13 {p : Program} {l : Launch} {e : Env} {s : State} {m : MethodId} {args : Array Value} {below : List Frame} {meth : Method} {c : Code} {D : va_G} {cI cJ cZ cS : ClassId} {tb : Nat} {A : Nat → Prop} {a_t a_bytes : Nat} {v_length : Int32} {v_fault : Int32} {v_teller : Int32} {v_word : Int32} {v_bytes : Nat → Int32} {rr : Int32} {kk' : Int32} (fx : q_Fx p s m args meth c cX2_passes 3 RX2 (some .boolean) D cI cJ cZ cS tb A) : ∀ {v_place : Int32} {s0 : Int32} {H : Heap} {locs : List Loc} {ls : Array Slot}, q_H D A s (wX2_passes cI cJ cZ cS a_t a_bytes v_length v_place v_fault v_teller v_word v_bytes) H locs → lv_has ls 3 [(0, .ref a_t)] → fX2_passes_13 v_length v_fault v_bytes v_place s0 = some (rr, kk') → W p l e rX2_passes s m args below meth c H locs 0 0 (MQ below (q_Ri D rr A ((fun k : Int32 => (wX2_passes cI cJ cZ cS a_t a_bytes v_length k v_fault v_teller v_word v_bytes)) kk')) args s 0 0 A) (F0 m 13 ls [.int s0]) := by
  intro v_place s0 H locs ls h hl hf
  have hx := fx.1
  have hb := fx.2.1
  unfold fX2_passes_13 at hf
  refine lv_istore_n (lv' := [(2, .int s0), (0, .ref a_t)]) hx hb dX2_passes_13 rfl hl (by decide) rfl (fun ls hl => ?_)
  refine lv_aload_n hx hb dX2_passes_14 rfl (lv_at hl 1 rfl) ?_
  refine lv_dup hx hb dX2_passes_15 rfl ?_
  refine q_get (v := .int v_place) fx inX2 h 0 rfl rfl 2 (by decide) k_120 rfl dX2_passes_16 ?_
  refine lv_iload_n hx hb dX2_passes_19 rfl (lv_at hl 0 rfl) ?_
  obtain ⟨r1, k1, hg, hf⟩ := bR_inv hf
  refine q_ci (rest := [.int v_place, .ref a_t]) (ws' := (wX2_passes cI cJ cZ cS a_t a_bytes v_length v_place v_fault v_teller v_word v_bytes)) (w1 := (wX4_oneIf cI cJ cZ cS)) fx h [] rfl rfl rfl rfl (q_runSN fx h hl.1 [] rfl rfl (tX4_oneIf l D cI cJ cZ cS tb H.size s0 r1 k1 hg) msX4_oneIf nm_2 ⟨rfl, rfl⟩ ⟨Nat.le_of_ble_eq_true rfl, Nat.le_of_ble_eq_true rfl⟩ rfl rfl (Nat.le_of_ble_eq_true rfl) dX2_passes_20 ⟨Nat.le_of_ble_eq_true rfl, Nat.le_of_ble_eq_true rfl⟩) (fun H locs h => ?_)
  refine lv_iadd hx hb dX2_passes_23 ?_
  obtain ⟨u2, eu2, hf⟩ := nm_inv hf
  refine lv_eqi eu2 ?_
  refine q_put (v := .int u2) (ws' := (wX2_passes cI cJ cZ cS a_t a_bytes v_length u2 v_fault v_teller v_word v_bytes)) fx inX2 tyX2 tyX2_ok nmX2 h 0 rfl rfl 2 (by decide) k_120 rfl rfl rfl (Nat.le_of_ble_eq_true rfl) rfl dX2_passes_24 (fun H locs h => ?_)
  refine lv_iload_n hx hb dX2_passes_27 rfl (lv_at hl 0 rfl) ?_
  obtain ⟨b3, hf⟩ := gB_inv hf
  exact q_retz (fun k : Int32 => (wX2_passes cI cJ cZ cS a_t a_bytes v_length k v_fault v_teller v_word v_bytes)) fx b3 hf h dX2_passes_28
def fX2_passes (v_length : Int32) (v_place : Int32) (v_fault : Int32) (v_bytes : Nat → Int32) (x1 : Int32) : Option (Int32 × Int32) :=
  bR (fX2_sign v_length v_place v_fault v_bytes) (fun r4 k4 =>
  (if r4 = x1 then (
  fX2_passes_13 v_length v_fault v_bytes v_place 1)
  else (
  fX2_passes_13 v_length v_fault v_bytes v_place 0)))
set_option maxRecDepth 100000 in
set_option maxHeartbeats 4000000 in
theorem tX2_passes (l : Launch) (D : va_G) (cI cJ cZ cS : ClassId) (tb : Nat) (a_t a_bytes : Nat) (sz : Nat) (v_length : Int32) (v_place : Int32) (v_fault : Int32) (v_teller : Int32) (v_word : Int32) (v_bytes : Nat → Int32) (x1 : Int32) (rr : Int32) (kk' : Int32) (hf : fX2_passes v_length v_place v_fault v_bytes x1 = some (rr, kk')) : Met l yX2_passes (Cond.code yX2_passes cX2_passes 3 (some .boolean) :: wA) rX2_passes (q_Pre D cI cJ cZ cS tb [.ref a_t, .int x1] sz (wX2_passes cI cJ cZ cS a_t a_bytes v_length v_place v_fault v_teller v_word v_bytes)) (q_Ri D rr (va_A (wX2_passes cI cJ cZ cS a_t a_bytes v_length v_place v_fault v_teller v_word v_bytes) sz) ((fun k : Int32 => (wX2_passes cI cJ cZ cS a_t a_bytes v_length k v_fault v_teller v_word v_bytes)) kk')) 0 0 (va_A (wX2_passes cI cJ cZ cS a_t a_bytes v_length v_place v_fault v_teller v_word v_bytes) sz) := by
  refine q_enter (Qf := fun A => (q_Ri D rr A ((fun k : Int32 => (wX2_passes cI cJ cZ cS a_t a_bytes v_length k v_fault v_teller v_word v_bytes)) kk'))) (by decide) rfl (Nat.le_of_ble_eq_true rfl) ?_
  intro p e s m below meth c A ls fx hname h hl
  have hx := fx.1
  have hb := fx.2.1
  have hl : lv_has ls 3 [(0, .ref a_t), (1, .int x1)] := hl
  generalize h9 : s.heap = H at h ⊢
  clear h9
  generalize h9 : ([] : List Loc) = locs at h ⊢
  clear h9
  unfold fX2_passes at hf
  refine lv_aload_n hx hb dX2_passes_0 rfl (lv_at hl 0 rfl) ?_
  obtain ⟨r4, k4, hg, hf⟩ := bR_inv hf
  refine q_ci (rest := []) (ws' := (wX2_passes cI cJ cZ cS a_t a_bytes v_length v_place v_fault v_teller v_word v_bytes)) (w1 := (wX2_sign cI cJ cZ cS a_t a_bytes v_length v_place v_fault v_teller v_word v_bytes)) fx h [0, 1] rfl rfl rfl rfl (q_runV fx h hl.1 [0, 1] rfl rfl (tX2_sign l D cI cJ cZ cS tb a_t a_bytes H.size v_length v_place v_fault v_teller v_word v_bytes r4 k4 hg) mvX2_sign k_290 ⟨rfl, rfl⟩ ⟨Nat.le_of_ble_eq_true rfl, Nat.le_of_ble_eq_true rfl⟩ rfl rfl rfl rfl (Nat.le_of_ble_eq_true rfl) dX2_passes_1 ⟨Nat.le_of_ble_eq_true rfl, Nat.le_of_ble_eq_true rfl⟩) (fun H locs h => ?_)
  refine lv_iload_n hx hb dX2_passes_4 rfl (lv_at hl 1 rfl) ?_
  refine lv_icmp_ne (tgt := 12) hx hb dX2_passes_5 (by decide) (fun c5 => ?_) (fun c5 => ?_)
  · have hf := it_f c5 hf
    refine lv_iconst (v := 0) hx hb dX2_passes_12 (by decide) ?_
    exact LX2_passes_13 fx h (lv_sub hl [0] rfl) hf
  have hf := it_t c5 hf
  refine lv_iconst (v := 1) hx hb dX2_passes_8 (by decide) ?_
  refine lv_goto (tgt := 13) hx hb dX2_passes_9 (by decide) ?_
  exact LX2_passes_13 fx h (lv_sub hl [0] rfl) hf
/-! X2_fail -/
abbrev wX2_fail (cI cJ cZ cS : ClassId) (a_t a_bytes : Nat) (v_length : Int32) (v_place : Int32) (v_fault : Int32) (v_teller : Int32) (v_word : Int32) : va_W := [(a_t, .inr (2, [.ref a_bytes, .int v_length, .int v_place, .int v_fault, .int v_teller, .int v_word]))]
abbrev rX2_fail : Room := { frames := 0, cells := 0, slots := 0, locals := 0 }
def fX2_fail (v_place : Int32) (v_fault : Int32) : Option (Int64 × Int32) :=
  (if v_fault = (-1) then (
  some (0, v_place))
  else (
  some (0, v_fault)))
set_option maxRecDepth 100000 in
set_option maxHeartbeats 4000000 in
theorem tX2_fail (l : Launch) (D : va_G) (cI cJ cZ cS : ClassId) (tb : Nat) (a_t a_bytes : Nat) (sz : Nat) (v_length : Int32) (v_place : Int32) (v_fault : Int32) (v_teller : Int32) (v_word : Int32) (rr : Int64) (kk' : Int32) (hf : fX2_fail v_place v_fault = some (rr, kk')) : Met l yX2_fail (Cond.code yX2_fail cX2_fail 1 (some .long) :: wA) rX2_fail (q_Pre D cI cJ cZ cS tb [.ref a_t] sz (wX2_fail cI cJ cZ cS a_t a_bytes v_length v_place v_fault v_teller v_word)) (q_Rl D rr (va_A (wX2_fail cI cJ cZ cS a_t a_bytes v_length v_place v_fault v_teller v_word) sz) ((fun k : Int32 => (wX2_fail cI cJ cZ cS a_t a_bytes v_length v_place k v_teller v_word)) kk')) 0 0 (va_A (wX2_fail cI cJ cZ cS a_t a_bytes v_length v_place v_fault v_teller v_word) sz) := by
  refine q_enter (Qf := fun A => (q_Rl D rr A ((fun k : Int32 => (wX2_fail cI cJ cZ cS a_t a_bytes v_length v_place k v_teller v_word)) kk'))) (by decide) rfl (Nat.le_of_ble_eq_true rfl) ?_
  intro p e s m below meth c A ls fx hname h hl
  have hx := fx.1
  have hb := fx.2.1
  have hl : lv_has ls 1 [(0, .ref a_t)] := hl
  generalize h9 : s.heap = H at h ⊢
  clear h9
  generalize h9 : ([] : List Loc) = locs at h ⊢
  clear h9
  unfold fX2_fail at hf
  refine lv_aload_n hx hb dX2_fail_0 rfl (lv_at hl 0 rfl) ?_
  refine q_get (v := .int v_fault) fx inX2 h 0 rfl rfl 3 (by decide) k_121 rfl dX2_fail_1 ?_
  refine lv_iconst (v := -1) hx hb dX2_fail_4 (by decide) ?_
  refine lv_icmp_ne (tgt := 16) hx hb dX2_fail_5 (by decide) (fun c1 => ?_) (fun c1 => ?_)
  · have hf := it_f c1 hf
    refine lv_lconst (v := 0) hx hb dX2_fail_16 (by decide) ?_
    exact q_retl (fun k : Int32 => (wX2_fail cI cJ cZ cS a_t a_bytes v_length v_place k v_teller v_word)) fx hf h dX2_fail_17
  have hf := it_t c1 hf
  refine lv_aload_n hx hb dX2_fail_8 rfl (lv_at hl 0 rfl) ?_
  refine lv_aload_n hx hb dX2_fail_9 rfl (lv_at hl 0 rfl) ?_
  refine q_get (v := .int v_place) fx inX2 h 0 rfl rfl 2 (by decide) k_120 rfl dX2_fail_10 ?_
  refine q_put (v := .int v_place) (ws' := (wX2_fail cI cJ cZ cS a_t a_bytes v_length v_place v_place v_teller v_word)) fx inX2 tyX2 tyX2_ok nmX2 h 0 rfl rfl 3 (by decide) k_121 rfl rfl rfl (Nat.le_of_ble_eq_true rfl) rfl dX2_fail_13 (fun H locs h => ?_)
  refine lv_lconst (v := 0) hx hb dX2_fail_16 (by decide) ?_
  exact q_retl (fun k : Int32 => (wX2_fail cI cJ cZ cS a_t a_bytes v_length v_place k v_teller v_word)) fx hf h dX2_fail_17
/-! X2_closed -/
abbrev wX2_closed (cI cJ cZ cS : ClassId) (a_t a_bytes : Nat) (v_length : Int32) (v_place : Int32) (v_fault : Int32) (v_teller : Int32) (v_word : Int32) (v_bytes : Nat → Int32) : va_W := [(a_t, .inr (2, [.ref a_bytes, .int v_length, .int v_place, .int v_fault, .int v_teller, .int v_word])), (a_bytes, .inl (cI, 60, .inl v_bytes))]
abbrev rX2_closed : Room := { frames := 2, cells := 0, slots := 0, locals := 42 }
def fX2_closed (v_length : Int32) (v_place : Int32) (v_fault : Int32) (v_bytes : Nat → Int32) (x1 : Int64) : Option (Int64 × Int32 × Int32) :=
  bR (fX2_passes v_length v_place v_fault v_bytes 41) (fun r1 k1 =>
  (if r1 = 0 then (
  bR (fX2_fail k1 v_fault) (fun r3 k3 =>
  some (r3, (k1, k3))))
  else (
  some (x1, (k1, v_fault)))))
set_option maxRecDepth 100000 in
set_option maxHeartbeats 4000000 in
theorem tX2_closed (l : Launch) (D : va_G) (cI cJ cZ cS : ClassId) (tb : Nat) (a_t a_bytes : Nat) (sz : Nat) (v_length : Int32) (v_place : Int32) (v_fault : Int32) (v_teller : Int32) (v_word : Int32) (v_bytes : Nat → Int32) (x1 : Int64) (rr : Int64) (kk' : Int32 × Int32) (hf : fX2_closed v_length v_place v_fault v_bytes x1 = some (rr, kk')) : Met l yX2_closed (Cond.code yX2_closed cX2_closed 3 (some .long) :: wA) rX2_closed (q_Pre D cI cJ cZ cS tb [.ref a_t, .long x1] sz (wX2_closed cI cJ cZ cS a_t a_bytes v_length v_place v_fault v_teller v_word v_bytes)) (q_Rl D rr (va_A (wX2_closed cI cJ cZ cS a_t a_bytes v_length v_place v_fault v_teller v_word v_bytes) sz) ((fun k : Int32 × Int32 => (wX2_closed cI cJ cZ cS a_t a_bytes v_length k.1 k.2 v_teller v_word v_bytes)) kk')) 0 0 (va_A (wX2_closed cI cJ cZ cS a_t a_bytes v_length v_place v_fault v_teller v_word v_bytes) sz) := by
  refine q_enter (Qf := fun A => (q_Rl D rr A ((fun k : Int32 × Int32 => (wX2_closed cI cJ cZ cS a_t a_bytes v_length k.1 k.2 v_teller v_word v_bytes)) kk'))) (by decide) rfl (Nat.le_of_ble_eq_true rfl) ?_
  intro p e s m below meth c A ls fx hname h hl
  have hx := fx.1
  have hb := fx.2.1
  have hl : lv_has ls 3 [(0, .ref a_t), (1, .long x1)] := hl
  generalize h9 : s.heap = H at h ⊢
  clear h9
  generalize h9 : ([] : List Loc) = locs at h ⊢
  clear h9
  unfold fX2_closed at hf
  refine lv_aload_n hx hb dX2_closed_0 rfl (lv_at hl 0 rfl) ?_
  refine lv_bipush (v := 41) hx hb dX2_closed_1 (by decide) ?_
  obtain ⟨r1, k1, hg, hf⟩ := bR_inv hf
  refine q_ci (rest := []) (ws' := (wX2_closed cI cJ cZ cS a_t a_bytes v_length k1 v_fault v_teller v_word v_bytes)) (w1 := (wX2_passes cI cJ cZ cS a_t a_bytes v_length k1 v_fault v_teller v_word v_bytes)) fx h [0, 1] rfl rfl rfl rfl (q_runV fx h hl.1 [0, 1] rfl rfl (tX2_passes l D cI cJ cZ cS tb a_t a_bytes H.size v_length v_place v_fault v_teller v_word v_bytes 41 r1 k1 hg) mvX2_passes k_304 ⟨rfl, rfl⟩ ⟨Nat.le_of_ble_eq_true rfl, Nat.le_of_ble_eq_true rfl⟩ rfl rfl rfl rfl (Nat.le_of_ble_eq_true rfl) dX2_closed_3 ⟨Nat.le_of_ble_eq_true rfl, Nat.le_of_ble_eq_true rfl⟩) (fun H locs h => ?_)
  refine lv_if_eq (tgt := 13) hx hb dX2_closed_6 (by decide) (fun c2 => ?_) (fun c2 => ?_)
  · have hf := it_t c2 hf
    refine lv_aload_n hx hb dX2_closed_13 rfl (lv_at hl 0 rfl) ?_
    obtain ⟨r3, k3, hg, hf⟩ := bR_inv hf
    refine q_cl (rest := []) (ws' := (wX2_closed cI cJ cZ cS a_t a_bytes v_length k1 k3 v_teller v_word v_bytes)) (w1 := (wX2_fail cI cJ cZ cS a_t a_bytes v_length k1 k3 v_teller v_word)) fx h [0] rfl rfl rfl rfl (q_runV fx h hl.1 [0] rfl rfl (tX2_fail l D cI cJ cZ cS tb a_t a_bytes H.size v_length k1 v_fault v_teller v_word r3 k3 hg) mvX2_fail k_313 ⟨rfl, rfl⟩ ⟨Nat.le_of_ble_eq_true rfl, Nat.le_of_ble_eq_true rfl⟩ rfl rfl rfl rfl (Nat.le_of_ble_eq_true rfl) dX2_closed_14 ⟨Nat.le_of_ble_eq_true rfl, Nat.le_of_ble_eq_true rfl⟩) (fun H locs h => ?_)
    exact q_retl (fun k : Int32 × Int32 => (wX2_closed cI cJ cZ cS a_t a_bytes v_length k.1 k.2 v_teller v_word v_bytes)) fx hf h dX2_closed_17
  have hf := it_f c2 hf
  refine lv_lload_n hx hb dX2_closed_9 rfl (lv_at hl 1 rfl) ?_
  refine lv_goto (tgt := 17) hx hb dX2_closed_10 (by decide) ?_
  exact q_retl (fun k : Int32 × Int32 => (wX2_closed cI cJ cZ cS a_t a_bytes v_length k.1 k.2 v_teller v_word v_bytes)) fx hf h dX2_closed_17
/-! X2_listsWhereOthers -/
abbrev wX2_listsWhereOthers (cI cJ cZ cS : ClassId) (a_t a_bytes : Nat) (v_length : Int32) (v_place : Int32) (v_fault : Int32) (v_teller : Int32) (v_word : Int32) : va_W := [(a_t, .inr (2, [.ref a_bytes, .int v_length, .int v_place, .int v_fault, .int v_teller, .int v_word]))]
abbrev rX2_listsWhereOthers : Room := { frames := 1, cells := 0, slots := 0, locals := 20 }
def fX2_listsWhereOthers_107 (v_teller : Int32) (v_word : Int32) (ag5 : Int32 → Int32 → Int64 → Int32 → Option (Int64 × Unit)) (s0 : Int64) (s1 : Int64) (y1 : Int32) (y2 : Int32) (y5 : Int32) : Option (Int64 × Unit) :=
  nm (s0 ||| s1) (fun u1 =>
  nm (y5 + 1) (fun u2 =>
  ag5 y1 y2 u1 u2))
set_option maxRecDepth 100000 in
set_option maxHeartbeats 4000000 in
theorem LX2_listsWhereOthers_107 {p : Program} {l : Launch} {e : Env} {s : State} {m : MethodId} {args : Array Value} {below : List Frame} {meth : Method} {c : Code} {D : va_G} {cI cJ cZ cS : ClassId} {tb : Nat} {A : Nat → Prop} {a_t a_bytes : Nat} {v_length : Int32} {v_place : Int32} {v_fault : Int32} {v_teller : Int32} {v_word : Int32} {rr : Int64} {kk' : Unit} (fx : q_Fx p s m args meth c cX2_listsWhereOthers 9 RX2 (some .long) D cI cJ cZ cS tb A) {ag5 : Int32 → Int32 → Int64 → Int32 → Option (Int64 × Unit)} (hag5 : ∀ {y1 : Int32} {y2 : Int32} {y3 : Int64} {y5 : Int32} {H : Heap} {locs : List Loc} {ls : Array Slot}, q_H D A s (wX2_listsWhereOthers cI cJ cZ cS a_t a_bytes v_length v_place v_fault v_teller v_word) H locs → lv_has ls 9 [(0, .ref a_t), (1, .int y1), (2, .int y2), (3, .long y3), (5, .int y5)] → ag5 y1 y2 y3 y5 = some (rr, kk') → W p l e rX2_listsWhereOthers s m args below meth c H locs 0 0 (MQ below (q_Rl D rr A ((fun k : Unit => (wX2_listsWhereOthers cI cJ cZ cS a_t a_bytes v_length v_place v_fault v_teller v_word)) kk')) args s 0 0 A) (F0 m 5 ls [])) : ∀ {s0 : Int64} {s1 : Int64} {y1 : Int32} {y2 : Int32} {y5 : Int32} {H : Heap} {locs : List Loc} {ls : Array Slot}, q_H D A s (wX2_listsWhereOthers cI cJ cZ cS a_t a_bytes v_length v_place v_fault v_teller v_word) H locs → lv_has ls 9 [(0, .ref a_t), (1, .int y1), (2, .int y2), (5, .int y5)] → fX2_listsWhereOthers_107 v_teller v_word ag5 s0 s1 y1 y2 y5 = some (rr, kk') → W p l e rX2_listsWhereOthers s m args below meth c H locs 0 0 (MQ below (q_Rl D rr A ((fun k : Unit => (wX2_listsWhereOthers cI cJ cZ cS a_t a_bytes v_length v_place v_fault v_teller v_word)) kk')) args s 0 0 A) (F0 m 107 ls [.long s1, .long s0]) := by
  intro s0 s1 y1 y2 y5 H locs ls h hl hf
  have hx := fx.1
  have hb := fx.2.1
  unfold fX2_listsWhereOthers_107 at hf
  refine lv_lor hx hb dX2_listsWhereOthers_107 ?_
  obtain ⟨u1, eu1, hf⟩ := nm_inv hf
  refine lv_eql eu1 ?_
  refine lv_lstore_n (lv' := [(3, .long u1), (0, .ref a_t), (1, .int y1), (2, .int y2), (5, .int y5)]) hx hb dX2_listsWhereOthers_108 rfl hl (by decide) rfl (fun ls hl => ?_)
  obtain ⟨u2, eu2, hf⟩ := nm_inv hf
  refine lv_iinc (v := u2) (lv' := [(5, .int u2), (3, .long u1), (0, .ref a_t), (1, .int y1), (2, .int y2)]) hx hb dX2_listsWhereOthers_109 hl (k := 4) rfl (by rw [eu2]; rfl) (by decide) rfl (fun ls hl => ?_)
  refine lv_goto (tgt := 5) hx hb dX2_listsWhereOthers_112 (by decide) ?_
  exact hag5 h (lv_sub hl [2, 3, 4, 1, 0] rfl) hf
def fX2_listsWhereOthers_91 (v_teller : Int32) (v_word : Int32) (ag5 : Int32 → Int32 → Int64 → Int32 → Option (Int64 × Unit)) (s0 : Int32) (y1 : Int32) (y2 : Int32) (y3 : Int64) (y5 : Int32) : Option (Int64 × Unit) :=
  (if s0 = 0 then (
  fX2_listsWhereOthers_107 v_teller v_word ag5 y3 0 y1 y2 y5)
  else (
  fX2_listsWhereOthers_107 v_teller v_word ag5 y3 (jlshl 1 y5) y1 y2 y5))
set_option maxRecDepth 100000 in
set_option maxHeartbeats 4000000 in
theorem LX2_listsWhereOthers_91 {p : Program} {l : Launch} {e : Env} {s : State} {m : MethodId} {args : Array Value} {below : List Frame} {meth : Method} {c : Code} {D : va_G} {cI cJ cZ cS : ClassId} {tb : Nat} {A : Nat → Prop} {a_t a_bytes : Nat} {v_length : Int32} {v_place : Int32} {v_fault : Int32} {v_teller : Int32} {v_word : Int32} {rr : Int64} {kk' : Unit} (fx : q_Fx p s m args meth c cX2_listsWhereOthers 9 RX2 (some .long) D cI cJ cZ cS tb A) {ag5 : Int32 → Int32 → Int64 → Int32 → Option (Int64 × Unit)} (hag5 : ∀ {y1 : Int32} {y2 : Int32} {y3 : Int64} {y5 : Int32} {H : Heap} {locs : List Loc} {ls : Array Slot}, q_H D A s (wX2_listsWhereOthers cI cJ cZ cS a_t a_bytes v_length v_place v_fault v_teller v_word) H locs → lv_has ls 9 [(0, .ref a_t), (1, .int y1), (2, .int y2), (3, .long y3), (5, .int y5)] → ag5 y1 y2 y3 y5 = some (rr, kk') → W p l e rX2_listsWhereOthers s m args below meth c H locs 0 0 (MQ below (q_Rl D rr A ((fun k : Unit => (wX2_listsWhereOthers cI cJ cZ cS a_t a_bytes v_length v_place v_fault v_teller v_word)) kk')) args s 0 0 A) (F0 m 5 ls [])) : ∀ {s0 : Int32} {y1 : Int32} {y2 : Int32} {y3 : Int64} {y5 : Int32} {H : Heap} {locs : List Loc} {ls : Array Slot}, q_H D A s (wX2_listsWhereOthers cI cJ cZ cS a_t a_bytes v_length v_place v_fault v_teller v_word) H locs → lv_has ls 9 [(0, .ref a_t), (1, .int y1), (2, .int y2), (3, .long y3), (5, .int y5)] → fX2_listsWhereOthers_91 v_teller v_word ag5 s0 y1 y2 y3 y5 = some (rr, kk') → W p l e rX2_listsWhereOthers s m args below meth c H locs 0 0 (MQ below (q_Rl D rr A ((fun k : Unit => (wX2_listsWhereOthers cI cJ cZ cS a_t a_bytes v_length v_place v_fault v_teller v_word)) kk')) args s 0 0 A) (F0 m 91 ls [.int s0]) := by
  intro s0 y1 y2 y3 y5 H locs ls h hl hf
  have hx := fx.1
  have hb := fx.2.1
  unfold fX2_listsWhereOthers_91 at hf
  refine lv_istore (lv' := [(8, .int s0), (0, .ref a_t), (1, .int y1), (2, .int y2), (3, .long y3), (5, .int y5)]) hx hb dX2_listsWhereOthers_91 hl (by decide) rfl (fun ls hl => ?_)
  refine lv_lload_n hx hb dX2_listsWhereOthers_93 rfl (lv_at hl 4 rfl) ?_
  refine lv_iload hx hb dX2_listsWhereOthers_94 (lv_at hl 0 rfl) ?_
  refine lv_if_eq (tgt := 106) hx hb dX2_listsWhereOthers_96 (by decide) (fun c3 => ?_) (fun c3 => ?_)
  · have hf := it_t c3 hf
    refine lv_lconst (v := 0) hx hb dX2_listsWhereOthers_106 (by decide) ?_
    exact LX2_listsWhereOthers_107 fx hag5 h (lv_sub hl [1, 2, 3, 5] rfl) hf
  have hf := it_f c3 hf
  refine lv_lconst (v := 1) hx hb dX2_listsWhereOthers_99 (by decide) ?_
  refine lv_iload hx hb dX2_listsWhereOthers_100 (lv_at hl 5 rfl) ?_
  refine lv_lshl hx hb dX2_listsWhereOthers_102 rfl ?_
  refine lv_goto (tgt := 107) hx hb dX2_listsWhereOthers_103 (by decide) ?_
  exact LX2_listsWhereOthers_107 fx hag5 h (lv_sub hl [1, 2, 3, 5] rfl) hf
def fX2_listsWhereOthers_5 (v_teller : Int32) (v_word : Int32) (ag5 : Int32 → Int32 → Int64 → Int32 → Option (Int64 × Unit)) (y1 : Int32) (y2 : Int32) (y3 : Int64) (y5 : Int32) : Option (Int64 × Unit) :=
  (if (64 : Int32) ≤ y5 then (
  some (y3, ()))
  else (
  nm ((v_word * 64) + y5) (fun u5 =>
  bR (fJ6_bitCount_0f7a4 (u5 &&& ((jshl 1 v_teller) ^^^ (-1)))) (fun r6 k6 =>
  (if y1 = 60 then (
  (if y2 ≤ r6 then (
  fX2_listsWhereOthers_91 v_teller v_word ag5 0 y1 y2 y3 y5)
  else (
  fX2_listsWhereOthers_91 v_teller v_word ag5 1 y1 y2 y3 y5)))
  else (
  (if y1 = 61 then (
  (if r6 = y2 then (
  fX2_listsWhereOthers_91 v_teller v_word ag5 1 y1 y2 y3 y5)
  else (
  fX2_listsWhereOthers_91 v_teller v_word ag5 0 y1 y2 y3 y5)))
  else (
  (if r6 ≤ y2 then (
  fX2_listsWhereOthers_91 v_teller v_word ag5 0 y1 y2 y3 y5)
  else (
  fX2_listsWhereOthers_91 v_teller v_word ag5 1 y1 y2 y3 y5))))))))))
set_option maxRecDepth 100000 in
set_option maxHeartbeats 4000000 in
theorem LX2_listsWhereOthers_5 {p : Program} {l : Launch} {e : Env} {s : State} {m : MethodId} {args : Array Value} {below : List Frame} {meth : Method} {c : Code} {D : va_G} {cI cJ cZ cS : ClassId} {tb : Nat} {A : Nat → Prop} {a_t a_bytes : Nat} {v_length : Int32} {v_place : Int32} {v_fault : Int32} {v_teller : Int32} {v_word : Int32} {rr : Int64} {kk' : Unit} (fx : q_Fx p s m args meth c cX2_listsWhereOthers 9 RX2 (some .long) D cI cJ cZ cS tb A) {ag5 : Int32 → Int32 → Int64 → Int32 → Option (Int64 × Unit)} (hag5 : ∀ {y1 : Int32} {y2 : Int32} {y3 : Int64} {y5 : Int32} {H : Heap} {locs : List Loc} {ls : Array Slot}, q_H D A s (wX2_listsWhereOthers cI cJ cZ cS a_t a_bytes v_length v_place v_fault v_teller v_word) H locs → lv_has ls 9 [(0, .ref a_t), (1, .int y1), (2, .int y2), (3, .long y3), (5, .int y5)] → ag5 y1 y2 y3 y5 = some (rr, kk') → W p l e rX2_listsWhereOthers s m args below meth c H locs 0 0 (MQ below (q_Rl D rr A ((fun k : Unit => (wX2_listsWhereOthers cI cJ cZ cS a_t a_bytes v_length v_place v_fault v_teller v_word)) kk')) args s 0 0 A) (F0 m 5 ls [])) : ∀ {y1 : Int32} {y2 : Int32} {y3 : Int64} {y5 : Int32} {H : Heap} {locs : List Loc} {ls : Array Slot}, q_H D A s (wX2_listsWhereOthers cI cJ cZ cS a_t a_bytes v_length v_place v_fault v_teller v_word) H locs → lv_has ls 9 [(0, .ref a_t), (1, .int y1), (2, .int y2), (3, .long y3), (5, .int y5)] → fX2_listsWhereOthers_5 v_teller v_word ag5 y1 y2 y3 y5 = some (rr, kk') → W p l e rX2_listsWhereOthers s m args below meth c H locs 0 0 (MQ below (q_Rl D rr A ((fun k : Unit => (wX2_listsWhereOthers cI cJ cZ cS a_t a_bytes v_length v_place v_fault v_teller v_word)) kk')) args s 0 0 A) (F0 m 5 ls []) := by
  intro y1 y2 y3 y5 H locs ls h hl hf
  have hx := fx.1
  have hb := fx.2.1
  unfold fX2_listsWhereOthers_5 at hf
  refine lv_iload hx hb dX2_listsWhereOthers_5 (lv_at hl 4 rfl) ?_
  refine lv_bipush (v := 64) hx hb dX2_listsWhereOthers_7 (by decide) ?_
  refine lv_icmp_ge (tgt := 115) hx hb dX2_listsWhereOthers_9 (by decide) (fun c4 => ?_) (fun c4 => ?_)
  · have hf := it_t c4 hf
    refine lv_lload_n hx hb dX2_listsWhereOthers_115 rfl (lv_at hl 3 rfl) ?_
    exact q_retl (fun k : Unit => (wX2_listsWhereOthers cI cJ cZ cS a_t a_bytes v_length v_place v_fault v_teller v_word)) fx hf h dX2_listsWhereOthers_116
  have hf := it_f c4 hf
  refine lv_aload_n hx hb dX2_listsWhereOthers_12 rfl (lv_at hl 0 rfl) ?_
  refine q_get (v := .int v_word) fx inX2 h 0 rfl rfl 5 (by decide) k_124 rfl dX2_listsWhereOthers_13 ?_
  refine lv_bipush (v := 64) hx hb dX2_listsWhereOthers_16 (by decide) ?_
  refine lv_imul hx hb dX2_listsWhereOthers_18 ?_
  refine lv_iload hx hb dX2_listsWhereOthers_19 (lv_at hl 4 rfl) ?_
  refine lv_iadd hx hb dX2_listsWhereOthers_21 ?_
  obtain ⟨u5, eu5, hf⟩ := nm_inv hf
  refine lv_eqi eu5 ?_
  refine lv_istore (lv' := [(6, .int u5), (0, .ref a_t), (1, .int y1), (2, .int y2), (3, .long y3), (5, .int y5)]) hx hb dX2_listsWhereOthers_22 hl (by decide) rfl (fun ls hl => ?_)
  refine lv_iload hx hb dX2_listsWhereOthers_24 (lv_at hl 0 rfl) ?_
  refine lv_iconst (v := 1) hx hb dX2_listsWhereOthers_26 (by decide) ?_
  refine lv_aload_n hx hb dX2_listsWhereOthers_27 rfl (lv_at hl 1 rfl) ?_
  refine q_get (v := .int v_teller) fx inX2 h 0 rfl rfl 4 (by decide) k_123 rfl dX2_listsWhereOthers_28 ?_
  refine lv_ishl hx hb dX2_listsWhereOthers_31 ?_
  refine lv_iconst (v := -1) hx hb dX2_listsWhereOthers_32 (by decide) ?_
  refine lv_ixor hx hb dX2_listsWhereOthers_33 ?_
  refine lv_iand hx hb dX2_listsWhereOthers_34 ?_
  obtain ⟨r6, k6, hg, hf⟩ := bR_inv hf
  refine q_ci (rest := []) (ws' := (wX2_listsWhereOthers cI cJ cZ cS a_t a_bytes v_length v_place v_fault v_teller v_word)) (w1 := (wJ6_bitCount_0f7a4 cI cJ cZ cS)) fx h [] rfl rfl rfl rfl (q_runS fx h hl.1 [] rfl rfl (tJ6_bitCount_0f7a4 l D cI cJ cZ cS tb H.size (u5 &&& ((jshl 1 v_teller) ^^^ (-1))) r6 k6 hg) msJ6_bitCount_0f7a4 k_325 ⟨rfl, rfl⟩ ⟨Nat.le_of_ble_eq_true rfl, Nat.le_of_ble_eq_true rfl⟩ rfl rfl (Nat.le_of_ble_eq_true rfl) dX2_listsWhereOthers_35 ⟨Nat.le_of_ble_eq_true rfl, Nat.le_of_ble_eq_true rfl⟩) (fun H locs h => ?_)
  refine lv_istore (lv' := [(7, .int r6), (6, .int u5), (0, .ref a_t), (1, .int y1), (2, .int y2), (3, .long y3), (5, .int y5)]) hx hb dX2_listsWhereOthers_38 hl (by decide) rfl (fun ls hl => ?_)
  refine lv_iload_n hx hb dX2_listsWhereOthers_40 rfl (lv_at hl 3 rfl) ?_
  refine lv_bipush (v := 60) hx hb dX2_listsWhereOthers_41 (by decide) ?_
  refine lv_icmp_ne (tgt := 60) hx hb dX2_listsWhereOthers_43 (by decide) (fun c7 => ?_) (fun c7 => ?_)
  · have hf := it_f c7 hf
    refine lv_iload_n hx hb dX2_listsWhereOthers_60 rfl (lv_at hl 3 rfl) ?_
    refine lv_bipush (v := 61) hx hb dX2_listsWhereOthers_61 (by decide) ?_
    refine lv_icmp_ne (tgt := 80) hx hb dX2_listsWhereOthers_63 (by decide) (fun c8 => ?_) (fun c8 => ?_)
    · have hf := it_f c8 hf
      refine lv_iload hx hb dX2_listsWhereOthers_80 (lv_at hl 0 rfl) ?_
      refine lv_iload_n hx hb dX2_listsWhereOthers_82 rfl (lv_at hl 4 rfl) ?_
      refine lv_icmp_le (tgt := 90) hx hb dX2_listsWhereOthers_83 (by decide) (fun c9 => ?_) (fun c9 => ?_)
      · have hf := it_t c9 hf
        refine lv_iconst (v := 0) hx hb dX2_listsWhereOthers_90 (by decide) ?_
        exact LX2_listsWhereOthers_91 fx hag5 h (lv_sub hl [2, 3, 4, 5, 6] rfl) hf
      have hf := it_f c9 hf
      refine lv_iconst (v := 1) hx hb dX2_listsWhereOthers_86 (by decide) ?_
      refine lv_goto (tgt := 91) hx hb dX2_listsWhereOthers_87 (by decide) ?_
      exact LX2_listsWhereOthers_91 fx hag5 h (lv_sub hl [2, 3, 4, 5, 6] rfl) hf
    have hf := it_t c8 hf
    refine lv_iload hx hb dX2_listsWhereOthers_66 (lv_at hl 0 rfl) ?_
    refine lv_iload_n hx hb dX2_listsWhereOthers_68 rfl (lv_at hl 4 rfl) ?_
    refine lv_icmp_ne (tgt := 76) hx hb dX2_listsWhereOthers_69 (by decide) (fun c10 => ?_) (fun c10 => ?_)
    · have hf := it_f c10 hf
      refine lv_iconst (v := 0) hx hb dX2_listsWhereOthers_76 (by decide) ?_
      refine lv_goto (tgt := 91) hx hb dX2_listsWhereOthers_77 (by decide) ?_
      exact LX2_listsWhereOthers_91 fx hag5 h (lv_sub hl [2, 3, 4, 5, 6] rfl) hf
    have hf := it_t c10 hf
    refine lv_iconst (v := 1) hx hb dX2_listsWhereOthers_72 (by decide) ?_
    refine lv_goto (tgt := 91) hx hb dX2_listsWhereOthers_73 (by decide) ?_
    exact LX2_listsWhereOthers_91 fx hag5 h (lv_sub hl [2, 3, 4, 5, 6] rfl) hf
  have hf := it_t c7 hf
  refine lv_iload hx hb dX2_listsWhereOthers_46 (lv_at hl 0 rfl) ?_
  refine lv_iload_n hx hb dX2_listsWhereOthers_48 rfl (lv_at hl 4 rfl) ?_
  refine lv_icmp_ge (tgt := 56) hx hb dX2_listsWhereOthers_49 (by decide) (fun c11 => ?_) (fun c11 => ?_)
  · have hf := it_t c11 hf
    refine lv_iconst (v := 0) hx hb dX2_listsWhereOthers_56 (by decide) ?_
    refine lv_goto (tgt := 91) hx hb dX2_listsWhereOthers_57 (by decide) ?_
    exact LX2_listsWhereOthers_91 fx hag5 h (lv_sub hl [2, 3, 4, 5, 6] rfl) hf
  have hf := it_f c11 hf
  refine lv_iconst (v := 1) hx hb dX2_listsWhereOthers_52 (by decide) ?_
  refine lv_goto (tgt := 91) hx hb dX2_listsWhereOthers_53 (by decide) ?_
  exact LX2_listsWhereOthers_91 fx hag5 h (lv_sub hl [2, 3, 4, 5, 6] rfl) hf
set_option maxRecDepth 100000 in
theorem EX2_listsWhereOthers_5 {p : Program} {l : Launch} {e : Env} {s : State} {m : MethodId} {args : Array Value} {below : List Frame} {meth : Method} {c : Code} {D : va_G} {cI cJ cZ cS : ClassId} {tb : Nat} {A : Nat → Prop} {a_t a_bytes : Nat} {v_length : Int32} {v_place : Int32} {v_fault : Int32} {v_teller : Int32} {v_word : Int32} {rr : Int64} {kk' : Unit} (fx : q_Fx p s m args meth c cX2_listsWhereOthers 9 RX2 (some .long) D cI cJ cZ cS tb A) : ∀ (n : Nat), ∀ {y1 : Int32} {y2 : Int32} {y3 : Int64} {y5 : Int32} {H : Heap} {locs : List Loc} {ls : Array Slot}, q_H D A s (wX2_listsWhereOthers cI cJ cZ cS a_t a_bytes v_length v_place v_fault v_teller v_word) H locs → lv_has ls 9 [(0, .ref a_t), (1, .int y1), (2, .int y2), (3, .long y3), (5, .int y5)] → ll4 (fX2_listsWhereOthers_5 v_teller v_word) n y1 y2 y3 y5 = some (rr, kk') → W p l e rX2_listsWhereOthers s m args below meth c H locs 0 0 (MQ below (q_Rl D rr A ((fun k : Unit => (wX2_listsWhereOthers cI cJ cZ cS a_t a_bytes v_length v_place v_fault v_teller v_word)) kk')) args s 0 0 A) (F0 m 5 ls []) := by
  intro n
  induction n with
  | zero => intro y1 y2 y3 y5 H locs ls h hl hf; exact (ll4_z hf).elim
  | succ n ih => intro y1 y2 y3 y5 H locs ls h hl hf; exact LX2_listsWhereOthers_5 fx ih h hl (ll4_s hf)
def fX2_listsWhereOthers (v_teller : Int32) (v_word : Int32) (x1 : Int32) (x2 : Int32) : Option (Int64 × Unit) :=
  ll4 (fX2_listsWhereOthers_5 v_teller v_word) qF x1 x2 0 0
set_option maxRecDepth 100000 in
set_option maxHeartbeats 4000000 in
theorem tX2_listsWhereOthers (l : Launch) (D : va_G) (cI cJ cZ cS : ClassId) (tb : Nat) (a_t a_bytes : Nat) (sz : Nat) (v_length : Int32) (v_place : Int32) (v_fault : Int32) (v_teller : Int32) (v_word : Int32) (x1 : Int32) (x2 : Int32) (rr : Int64) (kk' : Unit) (hf : fX2_listsWhereOthers v_teller v_word x1 x2 = some (rr, kk')) : Met l yX2_listsWhereOthers (Cond.code yX2_listsWhereOthers cX2_listsWhereOthers 9 (some .long) :: wA) rX2_listsWhereOthers (q_Pre D cI cJ cZ cS tb [.ref a_t, .int x1, .int x2] sz (wX2_listsWhereOthers cI cJ cZ cS a_t a_bytes v_length v_place v_fault v_teller v_word)) (q_Rl D rr (va_A (wX2_listsWhereOthers cI cJ cZ cS a_t a_bytes v_length v_place v_fault v_teller v_word) sz) ((fun k : Unit => (wX2_listsWhereOthers cI cJ cZ cS a_t a_bytes v_length v_place v_fault v_teller v_word)) kk')) 0 0 (va_A (wX2_listsWhereOthers cI cJ cZ cS a_t a_bytes v_length v_place v_fault v_teller v_word) sz) := by
  refine q_enter (Qf := fun A => (q_Rl D rr A ((fun k : Unit => (wX2_listsWhereOthers cI cJ cZ cS a_t a_bytes v_length v_place v_fault v_teller v_word)) kk'))) (by decide) rfl (Nat.le_of_ble_eq_true rfl) ?_
  intro p e s m below meth c A ls fx hname h hl
  have hx := fx.1
  have hb := fx.2.1
  have hl : lv_has ls 9 [(0, .ref a_t), (1, .int x1), (2, .int x2)] := hl
  generalize h9 : s.heap = H at h ⊢
  clear h9
  generalize h9 : ([] : List Loc) = locs at h ⊢
  clear h9
  unfold fX2_listsWhereOthers at hf
  refine lv_lconst (v := 0) hx hb dX2_listsWhereOthers_0 (by decide) ?_
  refine lv_lstore_n (lv' := [(3, .long 0), (0, .ref a_t), (1, .int x1), (2, .int x2)]) hx hb dX2_listsWhereOthers_1 rfl hl (by decide) rfl (fun ls hl => ?_)
  refine lv_iconst (v := 0) hx hb dX2_listsWhereOthers_2 (by decide) ?_
  refine lv_istore (lv' := [(5, .int 0), (3, .long 0), (0, .ref a_t), (1, .int x1), (2, .int x2)]) hx hb dX2_listsWhereOthers_3 hl (by decide) rfl (fun ls hl => ?_)
  exact EX2_listsWhereOthers_5 fx qF h (lv_sub hl [2, 3, 4, 1, 0] rfl) hf
/-! X2_compared -/
abbrev wX2_compared (cI cJ cZ cS : ClassId) (a_t a_bytes : Nat) (v_length : Int32) (v_place : Int32) (v_fault : Int32) (v_teller : Int32) (v_word : Int32) (v_bytes : Nat → Int32) : va_W := [(a_t, .inr (2, [.ref a_bytes, .int v_length, .int v_place, .int v_fault, .int v_teller, .int v_word])), (a_bytes, .inl (cI, 60, .inl v_bytes))]
abbrev rX2_compared : Room := { frames := 2, cells := 0, slots := 0, locals := 48 }
def fX2_compared_55 (v_length : Int32) (v_teller : Int32) (v_word : Int32) (v_bytes : Nat → Int32) (v_place : Int32) (v_fault : Int32) : Option (Int64 × Int32 × Int32) :=
  bR (fX2_fail v_place v_fault) (fun r1 k1 =>
  some (r1, (v_place, k1)))
set_option maxRecDepth 100000 in
set_option maxHeartbeats 4000000 in
theorem LX2_compared_55 {p : Program} {l : Launch} {e : Env} {s : State} {m : MethodId} {args : Array Value} {below : List Frame} {meth : Method} {c : Code} {D : va_G} {cI cJ cZ cS : ClassId} {tb : Nat} {A : Nat → Prop} {a_t a_bytes : Nat} {v_length : Int32} {v_teller : Int32} {v_word : Int32} {v_bytes : Nat → Int32} {rr : Int64} {kk' : Int32 × Int32} (fx : q_Fx p s m args meth c cX2_compared 3 RX2 (some .long) D cI cJ cZ cS tb A) : ∀ {v_place : Int32} {v_fault : Int32} {H : Heap} {locs : List Loc} {ls : Array Slot}, q_H D A s (wX2_compared cI cJ cZ cS a_t a_bytes v_length v_place v_fault v_teller v_word v_bytes) H locs → lv_has ls 3 [(0, .ref a_t)] → fX2_compared_55 v_length v_teller v_word v_bytes v_place v_fault = some (rr, kk') → W p l e rX2_compared s m args below meth c H locs 0 0 (MQ below (q_Rl D rr A ((fun k : Int32 × Int32 => (wX2_compared cI cJ cZ cS a_t a_bytes v_length k.1 k.2 v_teller v_word v_bytes)) kk')) args s 0 0 A) (F0 m 55 ls []) := by
  intro v_place v_fault H locs ls h hl hf
  have hx := fx.1
  have hb := fx.2.1
  unfold fX2_compared_55 at hf
  refine lv_aload_n hx hb dX2_compared_55 rfl (lv_at hl 0 rfl) ?_
  obtain ⟨r1, k1, hg, hf⟩ := bR_inv hf
  refine q_cl (rest := []) (ws' := (wX2_compared cI cJ cZ cS a_t a_bytes v_length v_place k1 v_teller v_word v_bytes)) (w1 := (wX2_fail cI cJ cZ cS a_t a_bytes v_length v_place k1 v_teller v_word)) fx h [0] rfl rfl rfl rfl (q_runV fx h hl.1 [0] rfl rfl (tX2_fail l D cI cJ cZ cS tb a_t a_bytes H.size v_length v_place v_fault v_teller v_word r1 k1 hg) mvX2_fail k_313 ⟨rfl, rfl⟩ ⟨Nat.le_of_ble_eq_true rfl, Nat.le_of_ble_eq_true rfl⟩ rfl rfl rfl rfl (Nat.le_of_ble_eq_true rfl) dX2_compared_56 ⟨Nat.le_of_ble_eq_true rfl, Nat.le_of_ble_eq_true rfl⟩) (fun H locs h => ?_)
  exact q_retl (fun k : Int32 × Int32 => (wX2_compared cI cJ cZ cS a_t a_bytes v_length k.1 k.2 v_teller v_word v_bytes)) fx hf h dX2_compared_59
def fX2_compared_28 (v_length : Int32) (v_teller : Int32) (v_word : Int32) (v_bytes : Nat → Int32) (v_place : Int32) (v_fault : Int32) (y1 : Int32) : Option (Int64 × Int32 × Int32) :=
  nm (v_place + 1) (fun u2 =>
  bR (fX2_sign v_length u2 v_fault v_bytes) (fun r3 k3 =>
  (if r3 < 48 then (
  fX2_compared_55 v_length v_teller v_word v_bytes u2 v_fault)
  else (
  (if r3 ≤ 57 then (
  nm (u2 + 1) (fun u6 =>
  bR (fX2_listsWhereOthers v_teller v_word y1 (r3 - 48)) (fun r7 k7 =>
  some (r7, (u6, v_fault)))))
  else (
  fX2_compared_55 v_length v_teller v_word v_bytes u2 v_fault))))))
set_option maxRecDepth 100000 in
set_option maxHeartbeats 4000000 in
theorem LX2_compared_28 {p : Program} {l : Launch} {e : Env} {s : State} {m : MethodId} {args : Array Value} {below : List Frame} {meth : Method} {c : Code} {D : va_G} {cI cJ cZ cS : ClassId} {tb : Nat} {A : Nat → Prop} {a_t a_bytes : Nat} {v_length : Int32} {v_teller : Int32} {v_word : Int32} {v_bytes : Nat → Int32} {rr : Int64} {kk' : Int32 × Int32} (fx : q_Fx p s m args meth c cX2_compared 3 RX2 (some .long) D cI cJ cZ cS tb A) : ∀ {v_place : Int32} {v_fault : Int32} {y1 : Int32} {H : Heap} {locs : List Loc} {ls : Array Slot}, q_H D A s (wX2_compared cI cJ cZ cS a_t a_bytes v_length v_place v_fault v_teller v_word v_bytes) H locs → lv_has ls 3 [(0, .ref a_t), (1, .int y1)] → fX2_compared_28 v_length v_teller v_word v_bytes v_place v_fault y1 = some (rr, kk') → W p l e rX2_compared s m args below meth c H locs 0 0 (MQ below (q_Rl D rr A ((fun k : Int32 × Int32 => (wX2_compared cI cJ cZ cS a_t a_bytes v_length k.1 k.2 v_teller v_word v_bytes)) kk')) args s 0 0 A) (F0 m 28 ls []) := by
  intro v_place v_fault y1 H locs ls h hl hf
  have hx := fx.1
  have hb := fx.2.1
  unfold fX2_compared_28 at hf
  refine lv_aload_n hx hb dX2_compared_28 rfl (lv_at hl 0 rfl) ?_
  refine lv_dup hx hb dX2_compared_29 rfl ?_
  refine q_get (v := .int v_place) fx inX2 h 0 rfl rfl 2 (by decide) k_120 rfl dX2_compared_30 ?_
  refine lv_iconst (v := 1) hx hb dX2_compared_33 (by decide) ?_
  refine lv_iadd hx hb dX2_compared_34 ?_
  obtain ⟨u2, eu2, hf⟩ := nm_inv hf
  refine lv_eqi eu2 ?_
  refine q_put (v := .int u2) (ws' := (wX2_compared cI cJ cZ cS a_t a_bytes v_length u2 v_fault v_teller v_word v_bytes)) fx inX2 tyX2 tyX2_ok nmX2 h 0 rfl rfl 2 (by decide) k_120 rfl rfl rfl (Nat.le_of_ble_eq_true rfl) rfl dX2_compared_35 (fun H locs h => ?_)
  refine lv_aload_n hx hb dX2_compared_38 rfl (lv_at hl 0 rfl) ?_
  obtain ⟨r3, k3, hg, hf⟩ := bR_inv hf
  refine q_ci (rest := []) (ws' := (wX2_compared cI cJ cZ cS a_t a_bytes v_length u2 v_fault v_teller v_word v_bytes)) (w1 := (wX2_sign cI cJ cZ cS a_t a_bytes v_length u2 v_fault v_teller v_word v_bytes)) fx h [0, 1] rfl rfl rfl rfl (q_runV fx h hl.1 [0, 1] rfl rfl (tX2_sign l D cI cJ cZ cS tb a_t a_bytes H.size v_length u2 v_fault v_teller v_word v_bytes r3 k3 hg) mvX2_sign k_290 ⟨rfl, rfl⟩ ⟨Nat.le_of_ble_eq_true rfl, Nat.le_of_ble_eq_true rfl⟩ rfl rfl rfl rfl (Nat.le_of_ble_eq_true rfl) dX2_compared_39 ⟨Nat.le_of_ble_eq_true rfl, Nat.le_of_ble_eq_true rfl⟩) (fun H locs h => ?_)
  refine lv_istore_n (lv' := [(2, .int r3), (0, .ref a_t), (1, .int y1)]) hx hb dX2_compared_42 rfl hl (by decide) rfl (fun ls hl => ?_)
  refine lv_iload_n hx hb dX2_compared_43 rfl (lv_at hl 0 rfl) ?_
  refine lv_bipush (v := 48) hx hb dX2_compared_44 (by decide) ?_
  refine lv_icmp_lt (tgt := 55) hx hb dX2_compared_46 (by decide) (fun c4 => ?_) (fun c4 => ?_)
  · have hf := it_t c4 hf
    exact LX2_compared_55 fx h (lv_sub hl [1] rfl) hf
  have hf := it_f c4 hf
  refine lv_iload_n hx hb dX2_compared_49 rfl (lv_at hl 0 rfl) ?_
  refine lv_bipush (v := 57) hx hb dX2_compared_50 (by decide) ?_
  refine lv_icmp_le (tgt := 60) hx hb dX2_compared_52 (by decide) (fun c5 => ?_) (fun c5 => ?_)
  · have hf := it_t c5 hf
    refine lv_aload_n hx hb dX2_compared_60 rfl (lv_at hl 1 rfl) ?_
    refine lv_dup hx hb dX2_compared_61 rfl ?_
    refine q_get (v := .int u2) fx inX2 h 0 rfl rfl 2 (by decide) k_120 rfl dX2_compared_62 ?_
    refine lv_iconst (v := 1) hx hb dX2_compared_65 (by decide) ?_
    refine lv_iadd hx hb dX2_compared_66 ?_
    obtain ⟨u6, eu6, hf⟩ := nm_inv hf
    refine lv_eqi eu6 ?_
    refine q_put (v := .int u6) (ws' := (wX2_compared cI cJ cZ cS a_t a_bytes v_length u6 v_fault v_teller v_word v_bytes)) fx inX2 tyX2 tyX2_ok nmX2 h 0 rfl rfl 2 (by decide) k_120 rfl rfl rfl (Nat.le_of_ble_eq_true rfl) rfl dX2_compared_67 (fun H locs h => ?_)
    refine lv_aload_n hx hb dX2_compared_70 rfl (lv_at hl 1 rfl) ?_
    refine lv_iload_n hx hb dX2_compared_71 rfl (lv_at hl 2 rfl) ?_
    refine lv_iload_n hx hb dX2_compared_72 rfl (lv_at hl 0 rfl) ?_
    refine lv_bipush (v := 48) hx hb dX2_compared_73 (by decide) ?_
    refine lv_isub hx hb dX2_compared_75 ?_
    obtain ⟨r7, k7, hg, hf⟩ := bR_inv hf
    refine q_cl (rest := []) (ws' := (wX2_compared cI cJ cZ cS a_t a_bytes v_length u6 v_fault v_teller v_word v_bytes)) (w1 := (wX2_listsWhereOthers cI cJ cZ cS a_t a_bytes v_length u6 v_fault v_teller v_word)) fx h [0] rfl rfl rfl rfl (q_runV fx h hl.1 [0] rfl rfl (tX2_listsWhereOthers l D cI cJ cZ cS tb a_t a_bytes H.size v_length u6 v_fault v_teller v_word y1 (r3 - 48) r7 k7 hg) mvX2_listsWhereOthers k_321 ⟨rfl, rfl⟩ ⟨Nat.le_of_ble_eq_true rfl, Nat.le_of_ble_eq_true rfl⟩ rfl rfl rfl rfl (Nat.le_of_ble_eq_true rfl) dX2_compared_76 ⟨Nat.le_of_ble_eq_true rfl, Nat.le_of_ble_eq_true rfl⟩) (fun H locs h => ?_)
    exact q_retl (fun k : Int32 × Int32 => (wX2_compared cI cJ cZ cS a_t a_bytes v_length k.1 k.2 v_teller v_word v_bytes)) fx hf h dX2_compared_79
  have hf := it_f c5 hf
  exact LX2_compared_55 fx h (lv_sub hl [1] rfl) hf
def fX2_compared (v_length : Int32) (v_place : Int32) (v_fault : Int32) (v_teller : Int32) (v_word : Int32) (v_bytes : Nat → Int32) : Option (Int64 × Int32 × Int32) :=
  bR (fX2_sign v_length v_place v_fault v_bytes) (fun r8 k8 =>
  (if r8 = 60 then (
  fX2_compared_28 v_length v_teller v_word v_bytes v_place v_fault r8)
  else (
  (if r8 = 61 then (
  fX2_compared_28 v_length v_teller v_word v_bytes v_place v_fault r8)
  else (
  (if r8 = 62 then (
  fX2_compared_28 v_length v_teller v_word v_bytes v_place v_fault r8)
  else (
  bR (fX2_fail v_place v_fault) (fun r12 k12 =>
  some (r12, (v_place, k12))))))))))
set_option maxRecDepth 100000 in
set_option maxHeartbeats 4000000 in
theorem tX2_compared (l : Launch) (D : va_G) (cI cJ cZ cS : ClassId) (tb : Nat) (a_t a_bytes : Nat) (sz : Nat) (v_length : Int32) (v_place : Int32) (v_fault : Int32) (v_teller : Int32) (v_word : Int32) (v_bytes : Nat → Int32) (rr : Int64) (kk' : Int32 × Int32) (hf : fX2_compared v_length v_place v_fault v_teller v_word v_bytes = some (rr, kk')) : Met l yX2_compared (Cond.code yX2_compared cX2_compared 3 (some .long) :: wA) rX2_compared (q_Pre D cI cJ cZ cS tb [.ref a_t] sz (wX2_compared cI cJ cZ cS a_t a_bytes v_length v_place v_fault v_teller v_word v_bytes)) (q_Rl D rr (va_A (wX2_compared cI cJ cZ cS a_t a_bytes v_length v_place v_fault v_teller v_word v_bytes) sz) ((fun k : Int32 × Int32 => (wX2_compared cI cJ cZ cS a_t a_bytes v_length k.1 k.2 v_teller v_word v_bytes)) kk')) 0 0 (va_A (wX2_compared cI cJ cZ cS a_t a_bytes v_length v_place v_fault v_teller v_word v_bytes) sz) := by
  refine q_enter (Qf := fun A => (q_Rl D rr A ((fun k : Int32 × Int32 => (wX2_compared cI cJ cZ cS a_t a_bytes v_length k.1 k.2 v_teller v_word v_bytes)) kk'))) (by decide) rfl (Nat.le_of_ble_eq_true rfl) ?_
  intro p e s m below meth c A ls fx hname h hl
  have hx := fx.1
  have hb := fx.2.1
  have hl : lv_has ls 3 [(0, .ref a_t)] := hl
  generalize h9 : s.heap = H at h ⊢
  clear h9
  generalize h9 : ([] : List Loc) = locs at h ⊢
  clear h9
  unfold fX2_compared at hf
  refine lv_aload_n hx hb dX2_compared_0 rfl (lv_at hl 0 rfl) ?_
  obtain ⟨r8, k8, hg, hf⟩ := bR_inv hf
  refine q_ci (rest := []) (ws' := (wX2_compared cI cJ cZ cS a_t a_bytes v_length v_place v_fault v_teller v_word v_bytes)) (w1 := (wX2_sign cI cJ cZ cS a_t a_bytes v_length v_place v_fault v_teller v_word v_bytes)) fx h [0, 1] rfl rfl rfl rfl (q_runV fx h hl.1 [0, 1] rfl rfl (tX2_sign l D cI cJ cZ cS tb a_t a_bytes H.size v_length v_place v_fault v_teller v_word v_bytes r8 k8 hg) mvX2_sign k_290 ⟨rfl, rfl⟩ ⟨Nat.le_of_ble_eq_true rfl, Nat.le_of_ble_eq_true rfl⟩ rfl rfl rfl rfl (Nat.le_of_ble_eq_true rfl) dX2_compared_1 ⟨Nat.le_of_ble_eq_true rfl, Nat.le_of_ble_eq_true rfl⟩) (fun H locs h => ?_)
  refine lv_istore_n (lv' := [(1, .int r8), (0, .ref a_t)]) hx hb dX2_compared_4 rfl hl (by decide) rfl (fun ls hl => ?_)
  refine lv_iload_n hx hb dX2_compared_5 rfl (lv_at hl 0 rfl) ?_
  refine lv_bipush (v := 60) hx hb dX2_compared_6 (by decide) ?_
  refine lv_icmp_eq (tgt := 28) hx hb dX2_compared_8 (by decide) (fun c9 => ?_) (fun c9 => ?_)
  · have hf := it_t c9 hf
    exact LX2_compared_28 fx h (lv_sub hl [1, 0] rfl) hf
  have hf := it_f c9 hf
  refine lv_iload_n hx hb dX2_compared_11 rfl (lv_at hl 0 rfl) ?_
  refine lv_bipush (v := 61) hx hb dX2_compared_12 (by decide) ?_
  refine lv_icmp_eq (tgt := 28) hx hb dX2_compared_14 (by decide) (fun c10 => ?_) (fun c10 => ?_)
  · have hf := it_t c10 hf
    exact LX2_compared_28 fx h (lv_sub hl [1, 0] rfl) hf
  have hf := it_f c10 hf
  refine lv_iload_n hx hb dX2_compared_17 rfl (lv_at hl 0 rfl) ?_
  refine lv_bipush (v := 62) hx hb dX2_compared_18 (by decide) ?_
  refine lv_icmp_eq (tgt := 28) hx hb dX2_compared_20 (by decide) (fun c11 => ?_) (fun c11 => ?_)
  · have hf := it_t c11 hf
    exact LX2_compared_28 fx h (lv_sub hl [1, 0] rfl) hf
  have hf := it_f c11 hf
  refine lv_aload_n hx hb dX2_compared_23 rfl (lv_at hl 1 rfl) ?_
  obtain ⟨r12, k12, hg, hf⟩ := bR_inv hf
  refine q_cl (rest := []) (ws' := (wX2_compared cI cJ cZ cS a_t a_bytes v_length v_place k12 v_teller v_word v_bytes)) (w1 := (wX2_fail cI cJ cZ cS a_t a_bytes v_length v_place k12 v_teller v_word)) fx h [0] rfl rfl rfl rfl (q_runV fx h hl.1 [0] rfl rfl (tX2_fail l D cI cJ cZ cS tb a_t a_bytes H.size v_length v_place v_fault v_teller v_word r12 k12 hg) mvX2_fail k_313 ⟨rfl, rfl⟩ ⟨Nat.le_of_ble_eq_true rfl, Nat.le_of_ble_eq_true rfl⟩ rfl rfl rfl rfl (Nat.le_of_ble_eq_true rfl) dX2_compared_24 ⟨Nat.le_of_ble_eq_true rfl, Nat.le_of_ble_eq_true rfl⟩) (fun H locs h => ?_)
  exact q_retl (fun k : Int32 × Int32 => (wX2_compared cI cJ cZ cS a_t a_bytes v_length k.1 k.2 v_teller v_word v_bytes)) fx hf h dX2_compared_27
abbrev rX2_unit (d : Nat) : Room := { frames := 3 * d + 3, cells := 0, slots := 0, locals := 90 * d + 70 }
abbrev rX2_allOf (d : Nat) : Room := { frames := 3 * d + 4, cells := 0, slots := 0, locals := 90 * d + 100 }
abbrev rX2_anyOf (d : Nat) : Room := { frames := 3 * d + 5, cells := 0, slots := 0, locals := 90 * d + 130 }
theorem room_X2_unit_X2_anyOf (dd : Nat) : (rX2_anyOf dd).frames + 1 ≤ (rX2_unit (dd + 1)).frames ∧ 8 + (5 + 11) + (rX2_anyOf dd).locals ≤ (rX2_unit (dd + 1)).locals := by
  constructor
  · show 3 * dd + 5 + 1 ≤ 3 * (dd + 1) + 3; omega
  · show 8 + (5 + 11) + (90 * dd + 130) ≤ 90 * (dd + 1) + 70; omega
theorem room_X2_unit_X2_closed (dd : Nat) : rX2_closed.frames + 1 ≤ (rX2_unit (dd + 1)).frames ∧ 8 + (3 + 11) + rX2_closed.locals ≤ (rX2_unit (dd + 1)).locals := by
  constructor
  · show 2 + 1 ≤ 3 * (dd + 1) + 3; omega
  · show 8 + (3 + 11) + 42 ≤ 90 * (dd + 1) + 70; omega
theorem room_X2_unit_X2_compared (dd : Nat) : rX2_compared.frames + 1 ≤ (rX2_unit (dd + 1)).frames ∧ 8 + (3 + 11) + rX2_compared.locals ≤ (rX2_unit (dd + 1)).locals := by
  constructor
  · show 2 + 1 ≤ 3 * (dd + 1) + 3; omega
  · show 8 + (3 + 11) + 48 ≤ 90 * (dd + 1) + 70; omega
theorem room_X2_unit_X2_fail (dd : Nat) : rX2_fail.frames + 1 ≤ (rX2_unit (dd + 1)).frames ∧ 8 + (1 + 11) + rX2_fail.locals ≤ (rX2_unit (dd + 1)).locals := by
  constructor
  · show 0 + 1 ≤ 3 * (dd + 1) + 3; omega
  · show 8 + (1 + 11) + 0 ≤ 90 * (dd + 1) + 70; omega
theorem room_X2_unit_X2_listsWith (dd : Nat) : rX2_listsWith.frames + 1 ≤ (rX2_unit (dd + 1)).frames ∧ 8 + (2 + 11) + rX2_listsWith.locals ≤ (rX2_unit (dd + 1)).locals := by
  constructor
  · show 1 + 1 ≤ 3 * (dd + 1) + 3; omega
  · show 8 + (2 + 11) + 21 ≤ 90 * (dd + 1) + 70; omega
theorem room_X2_unit_X2_passes (dd : Nat) : rX2_passes.frames + 1 ≤ (rX2_unit (dd + 1)).frames ∧ 8 + (3 + 11) + rX2_passes.locals ≤ (rX2_unit (dd + 1)).locals := by
  constructor
  · show 1 + 1 ≤ 3 * (dd + 1) + 3; omega
  · show 8 + (3 + 11) + 20 ≤ 90 * (dd + 1) + 70; omega
theorem room_X2_unit_X2_sign (dd : Nat) : rX2_sign.frames + 1 ≤ (rX2_unit (dd + 1)).frames ∧ 8 + (1 + 11) + rX2_sign.locals ≤ (rX2_unit (dd + 1)).locals := by
  constructor
  · show 0 + 1 ≤ 3 * (dd + 1) + 3; omega
  · show 8 + (1 + 11) + 0 ≤ 90 * (dd + 1) + 70; omega
theorem room_X2_unit_X2_unit (dd : Nat) : (rX2_unit dd).frames + 1 ≤ (rX2_unit (dd + 1)).frames ∧ 8 + (3 + 11) + (rX2_unit dd).locals ≤ (rX2_unit (dd + 1)).locals := by
  constructor
  · show 3 * dd + 3 + 1 ≤ 3 * (dd + 1) + 3; omega
  · show 8 + (3 + 11) + (90 * dd + 70) ≤ 90 * (dd + 1) + 70; omega
theorem room_X2_allOf_X2_passes (dd : Nat) : rX2_passes.frames + 1 ≤ (rX2_allOf dd).frames ∧ 8 + (3 + 11) + rX2_passes.locals ≤ (rX2_allOf dd).locals := by
  constructor
  · show 1 + 1 ≤ 3 * dd + 4; omega
  · show 8 + (3 + 11) + 20 ≤ 90 * dd + 100; omega
theorem room_X2_allOf_X2_unit (dd : Nat) : (rX2_unit dd).frames + 1 ≤ (rX2_allOf dd).frames ∧ 8 + (3 + 11) + (rX2_unit dd).locals ≤ (rX2_allOf dd).locals := by
  constructor
  · show 3 * dd + 3 + 1 ≤ 3 * dd + 4; omega
  · show 8 + (3 + 11) + (90 * dd + 70) ≤ 90 * dd + 100; omega
theorem room_X2_anyOf_X2_allOf (dd : Nat) : (rX2_allOf dd).frames + 1 ≤ (rX2_anyOf dd).frames ∧ 8 + (5 + 11) + (rX2_allOf dd).locals ≤ (rX2_anyOf dd).locals := by
  constructor
  · show 3 * dd + 4 + 1 ≤ 3 * dd + 5; omega
  · show 8 + (5 + 11) + (90 * dd + 100) ≤ 90 * dd + 130; omega
theorem room_X2_anyOf_X2_passes (dd : Nat) : rX2_passes.frames + 1 ≤ (rX2_anyOf dd).frames ∧ 8 + (3 + 11) + rX2_passes.locals ≤ (rX2_anyOf dd).locals := by
  constructor
  · show 1 + 1 ≤ 3 * dd + 5; omega
  · show 8 + (3 + 11) + 20 ≤ 90 * dd + 130; omega
abbrev wX2_unit (cI cJ cZ cS : ClassId) (a_t a_bytes : Nat) (v_length : Int32) (v_place : Int32) (v_fault : Int32) (v_teller : Int32) (v_word : Int32) (v_bytes : Nat → Int32) : va_W := [(a_t, .inr (2, [.ref a_bytes, .int v_length, .int v_place, .int v_fault, .int v_teller, .int v_word])), (a_bytes, .inl (cI, 60, .inl v_bytes))]
abbrev wX2_allOf (cI cJ cZ cS : ClassId) (a_t a_bytes : Nat) (v_length : Int32) (v_place : Int32) (v_fault : Int32) (v_teller : Int32) (v_word : Int32) (v_bytes : Nat → Int32) : va_W := [(a_t, .inr (2, [.ref a_bytes, .int v_length, .int v_place, .int v_fault, .int v_teller, .int v_word])), (a_bytes, .inl (cI, 60, .inl v_bytes))]
abbrev wX2_anyOf (cI cJ cZ cS : ClassId) (a_t a_bytes : Nat) (v_length : Int32) (v_place : Int32) (v_fault : Int32) (v_teller : Int32) (v_word : Int32) (v_bytes : Nat → Int32) : va_W := [(a_t, .inr (2, [.ref a_bytes, .int v_length, .int v_place, .int v_fault, .int v_teller, .int v_word])), (a_bytes, .inl (cI, 60, .inl v_bytes))]
/-! X2_unit -/
def fX2_unit_90 (gX2_anyOf : Int32 → Int32 → Int32 → Int32 → Int32 → (Nat → Int32) → Int32 → Option (Int64 × Int32 × Int32)) (gX2_unit : Int32 → Int32 → Int32 → Int32 → Int32 → (Nat → Int32) → Int32 → Option (Int64 × Int32 × Int32)) (v_length : Int32) (v_teller : Int32) (v_word : Int32) (v_bytes : Nat → Int32) (v_place : Int32) (v_fault : Int32) : Option (Int64 × Int32 × Int32) :=
  bR (fX2_passes v_length v_place v_fault v_bytes 110) (fun r1 k1 =>
  (if r1 = 0 then (
  bR (fX2_passes v_length k1 v_fault v_bytes 49) (fun r3 k3 =>
  (if r3 = 0 then (
  bR (fX2_passes v_length k3 v_fault v_bytes 48) (fun r5 k5 =>
  (if r5 = 0 then (
  bR (fX2_fail k5 v_fault) (fun r7 k7 =>
  some (r7, (k5, k7))))
  else (
  some (0, (k5, v_fault))))))
  else (
  some ((-1), (k3, v_fault))))))
  else (
  bR (fX2_compared v_length k1 v_fault v_teller v_word v_bytes) (fun r8 k8 =>
  some (r8, (k8.1, k8.2))))))
set_option maxRecDepth 100000 in
set_option maxHeartbeats 4000000 in
theorem LX2_unit_90 {p : Program} {l : Launch} {e : Env} {s : State} {m : MethodId} {args : Array Value} {below : List Frame} {meth : Method} {c : Code} {D : va_G} {cI cJ cZ cS : ClassId} {tb : Nat} {A : Nat → Prop} {a_t a_bytes : Nat} {v_length : Int32} {v_teller : Int32} {v_word : Int32} {v_bytes : Nat → Int32} {rr : Int64} {kk' : Int32 × Int32} {dd : Nat} {gX2_anyOf : Int32 → Int32 → Int32 → Int32 → Int32 → (Nat → Int32) → Int32 → Option (Int64 × Int32 × Int32)} (hgX2_anyOf : ∀ (D : va_G) (cI cJ cZ cS : ClassId) (tb : Nat) (a_t a_bytes : Nat) (sz : Nat) (v_length : Int32) (v_place : Int32) (v_fault : Int32) (v_teller : Int32) (v_word : Int32) (v_bytes : Nat → Int32) (x1 : Int32) (rr : Int64) (kk' : Int32 × Int32) (hf : gX2_anyOf v_length v_place v_fault v_teller v_word v_bytes x1 = some (rr, kk')), Met l yX2_anyOf (Cond.code yX2_anyOf cX2_anyOf 5 (some .long) :: wA) (rX2_anyOf dd) (q_Pre D cI cJ cZ cS tb [.ref a_t, .int x1] sz (wX2_anyOf cI cJ cZ cS a_t a_bytes v_length v_place v_fault v_teller v_word v_bytes)) (q_Rl D rr (va_A (wX2_anyOf cI cJ cZ cS a_t a_bytes v_length v_place v_fault v_teller v_word v_bytes) sz) ((fun k : Int32 × Int32 => (wX2_anyOf cI cJ cZ cS a_t a_bytes v_length k.1 k.2 v_teller v_word v_bytes)) kk')) 0 0 (va_A (wX2_anyOf cI cJ cZ cS a_t a_bytes v_length v_place v_fault v_teller v_word v_bytes) sz)) {gX2_unit : Int32 → Int32 → Int32 → Int32 → Int32 → (Nat → Int32) → Int32 → Option (Int64 × Int32 × Int32)} (hgX2_unit : ∀ (D : va_G) (cI cJ cZ cS : ClassId) (tb : Nat) (a_t a_bytes : Nat) (sz : Nat) (v_length : Int32) (v_place : Int32) (v_fault : Int32) (v_teller : Int32) (v_word : Int32) (v_bytes : Nat → Int32) (x1 : Int32) (rr : Int64) (kk' : Int32 × Int32) (hf : gX2_unit v_length v_place v_fault v_teller v_word v_bytes x1 = some (rr, kk')), Met l yX2_unit (Cond.code yX2_unit cX2_unit 3 (some .long) :: wA) (rX2_unit dd) (q_Pre D cI cJ cZ cS tb [.ref a_t, .int x1] sz (wX2_unit cI cJ cZ cS a_t a_bytes v_length v_place v_fault v_teller v_word v_bytes)) (q_Rl D rr (va_A (wX2_unit cI cJ cZ cS a_t a_bytes v_length v_place v_fault v_teller v_word v_bytes) sz) ((fun k : Int32 × Int32 => (wX2_unit cI cJ cZ cS a_t a_bytes v_length k.1 k.2 v_teller v_word v_bytes)) kk')) 0 0 (va_A (wX2_unit cI cJ cZ cS a_t a_bytes v_length v_place v_fault v_teller v_word v_bytes) sz)) (fx : q_Fx p s m args meth c cX2_unit 3 RX2 (some .long) D cI cJ cZ cS tb A) : ∀ {v_place : Int32} {v_fault : Int32} {H : Heap} {locs : List Loc} {ls : Array Slot}, q_H D A s (wX2_unit cI cJ cZ cS a_t a_bytes v_length v_place v_fault v_teller v_word v_bytes) H locs → lv_has ls 3 [(0, .ref a_t)] → fX2_unit_90 gX2_anyOf gX2_unit v_length v_teller v_word v_bytes v_place v_fault = some (rr, kk') → W p l e (rX2_unit (dd + 1)) s m args below meth c H locs 0 0 (MQ below (q_Rl D rr A ((fun k : Int32 × Int32 => (wX2_unit cI cJ cZ cS a_t a_bytes v_length k.1 k.2 v_teller v_word v_bytes)) kk')) args s 0 0 A) (F0 m 90 ls []) := by
  intro v_place v_fault H locs ls h hl hf
  have hx := fx.1
  have hb := fx.2.1
  unfold fX2_unit_90 at hf
  refine lv_aload_n hx hb dX2_unit_90 rfl (lv_at hl 0 rfl) ?_
  refine lv_bipush (v := 110) hx hb dX2_unit_91 (by decide) ?_
  obtain ⟨r1, k1, hg, hf⟩ := bR_inv hf
  refine q_ci (rest := []) (ws' := (wX2_unit cI cJ cZ cS a_t a_bytes v_length k1 v_fault v_teller v_word v_bytes)) (w1 := (wX2_passes cI cJ cZ cS a_t a_bytes v_length k1 v_fault v_teller v_word v_bytes)) fx h [0, 1] rfl rfl rfl rfl (q_runV fx h hl.1 [0, 1] rfl rfl (tX2_passes l D cI cJ cZ cS tb a_t a_bytes H.size v_length v_place v_fault v_teller v_word v_bytes 110 r1 k1 hg) mvX2_passes k_304 ⟨rfl, rfl⟩ (room_X2_unit_X2_passes dd) rfl rfl rfl rfl (Nat.le_of_ble_eq_true rfl) dX2_unit_93 ⟨Nat.le_of_ble_eq_true rfl, Nat.le_of_ble_eq_true rfl⟩) (fun H locs h => ?_)
  refine lv_if_eq (tgt := 104) hx hb dX2_unit_96 (by decide) (fun c2 => ?_) (fun c2 => ?_)
  · have hf := it_t c2 hf
    refine lv_aload_n hx hb dX2_unit_104 rfl (lv_at hl 0 rfl) ?_
    refine lv_bipush (v := 49) hx hb dX2_unit_105 (by decide) ?_
    obtain ⟨r3, k3, hg, hf⟩ := bR_inv hf
    refine q_ci (rest := []) (ws' := (wX2_unit cI cJ cZ cS a_t a_bytes v_length k3 v_fault v_teller v_word v_bytes)) (w1 := (wX2_passes cI cJ cZ cS a_t a_bytes v_length k3 v_fault v_teller v_word v_bytes)) fx h [0, 1] rfl rfl rfl rfl (q_runV fx h hl.1 [0, 1] rfl rfl (tX2_passes l D cI cJ cZ cS tb a_t a_bytes H.size v_length k1 v_fault v_teller v_word v_bytes 49 r3 k3 hg) mvX2_passes k_304 ⟨rfl, rfl⟩ (room_X2_unit_X2_passes dd) rfl rfl rfl rfl (Nat.le_of_ble_eq_true rfl) dX2_unit_107 ⟨Nat.le_of_ble_eq_true rfl, Nat.le_of_ble_eq_true rfl⟩) (fun H locs h => ?_)
    refine lv_if_eq (tgt := 117) hx hb dX2_unit_110 (by decide) (fun c4 => ?_) (fun c4 => ?_)
    · have hf := it_t c4 hf
      refine lv_aload_n hx hb dX2_unit_117 rfl (lv_at hl 0 rfl) ?_
      refine lv_bipush (v := 48) hx hb dX2_unit_118 (by decide) ?_
      obtain ⟨r5, k5, hg, hf⟩ := bR_inv hf
      refine q_ci (rest := []) (ws' := (wX2_unit cI cJ cZ cS a_t a_bytes v_length k5 v_fault v_teller v_word v_bytes)) (w1 := (wX2_passes cI cJ cZ cS a_t a_bytes v_length k5 v_fault v_teller v_word v_bytes)) fx h [0, 1] rfl rfl rfl rfl (q_runV fx h hl.1 [0, 1] rfl rfl (tX2_passes l D cI cJ cZ cS tb a_t a_bytes H.size v_length k3 v_fault v_teller v_word v_bytes 48 r5 k5 hg) mvX2_passes k_304 ⟨rfl, rfl⟩ (room_X2_unit_X2_passes dd) rfl rfl rfl rfl (Nat.le_of_ble_eq_true rfl) dX2_unit_120 ⟨Nat.le_of_ble_eq_true rfl, Nat.le_of_ble_eq_true rfl⟩) (fun H locs h => ?_)
      refine lv_if_eq (tgt := 130) hx hb dX2_unit_123 (by decide) (fun c6 => ?_) (fun c6 => ?_)
      · have hf := it_t c6 hf
        refine lv_aload_n hx hb dX2_unit_130 rfl (lv_at hl 0 rfl) ?_
        obtain ⟨r7, k7, hg, hf⟩ := bR_inv hf
        refine q_cl (rest := []) (ws' := (wX2_unit cI cJ cZ cS a_t a_bytes v_length k5 k7 v_teller v_word v_bytes)) (w1 := (wX2_fail cI cJ cZ cS a_t a_bytes v_length k5 k7 v_teller v_word)) fx h [0] rfl rfl rfl rfl (q_runV fx h hl.1 [0] rfl rfl (tX2_fail l D cI cJ cZ cS tb a_t a_bytes H.size v_length k5 v_fault v_teller v_word r7 k7 hg) mvX2_fail k_313 ⟨rfl, rfl⟩ (room_X2_unit_X2_fail dd) rfl rfl rfl rfl (Nat.le_of_ble_eq_true rfl) dX2_unit_131 ⟨Nat.le_of_ble_eq_true rfl, Nat.le_of_ble_eq_true rfl⟩) (fun H locs h => ?_)
        exact q_retl (fun k : Int32 × Int32 => (wX2_unit cI cJ cZ cS a_t a_bytes v_length k.1 k.2 v_teller v_word v_bytes)) fx hf h dX2_unit_134
      have hf := it_f c6 hf
      refine lv_lconst (v := 0) hx hb dX2_unit_126 (by decide) ?_
      refine lv_goto (tgt := 134) hx hb dX2_unit_127 (by decide) ?_
      exact q_retl (fun k : Int32 × Int32 => (wX2_unit cI cJ cZ cS a_t a_bytes v_length k.1 k.2 v_teller v_word v_bytes)) fx hf h dX2_unit_134
    have hf := it_f c4 hf
    refine q_ldc2 fx k_303 dX2_unit_113 ?_
    exact q_retl (fun k : Int32 × Int32 => (wX2_unit cI cJ cZ cS a_t a_bytes v_length k.1 k.2 v_teller v_word v_bytes)) fx hf h dX2_unit_116
  have hf := it_f c2 hf
  refine lv_aload_n hx hb dX2_unit_99 rfl (lv_at hl 0 rfl) ?_
  obtain ⟨r8, k8, hg, hf⟩ := bR_inv hf
  refine q_cl (rest := []) (ws' := (wX2_unit cI cJ cZ cS a_t a_bytes v_length k8.1 k8.2 v_teller v_word v_bytes)) (w1 := (wX2_compared cI cJ cZ cS a_t a_bytes v_length k8.1 k8.2 v_teller v_word v_bytes)) fx h [0, 1] rfl rfl rfl rfl (q_runV fx h hl.1 [0, 1] rfl rfl (tX2_compared l D cI cJ cZ cS tb a_t a_bytes H.size v_length k1 v_fault v_teller v_word v_bytes r8 k8 hg) mvX2_compared k_317 ⟨rfl, rfl⟩ (room_X2_unit_X2_compared dd) rfl rfl rfl rfl (Nat.le_of_ble_eq_true rfl) dX2_unit_100 ⟨Nat.le_of_ble_eq_true rfl, Nat.le_of_ble_eq_true rfl⟩) (fun H locs h => ?_)
  exact q_retl (fun k : Int32 × Int32 => (wX2_unit cI cJ cZ cS a_t a_bytes v_length k.1 k.2 v_teller v_word v_bytes)) fx hf h dX2_unit_103
def fX2_unit_63 (gX2_anyOf : Int32 → Int32 → Int32 → Int32 → Int32 → (Nat → Int32) → Int32 → Option (Int64 × Int32 × Int32)) (gX2_unit : Int32 → Int32 → Int32 → Int32 → Int32 → (Nat → Int32) → Int32 → Option (Int64 × Int32 × Int32)) (v_length : Int32) (v_teller : Int32) (v_word : Int32) (v_bytes : Nat → Int32) (v_place : Int32) (v_fault : Int32) (y1 : Int32) : Option (Int64 × Int32 × Int32) :=
  (if (6 : Int32) ≤ y1 then (
  fX2_unit_90 gX2_anyOf gX2_unit v_length v_teller v_word v_bytes v_place v_fault)
  else (
  bR (fX2_passes v_length v_place v_fault v_bytes 40) (fun r10 k10 =>
  (if r10 = 0 then (
  fX2_unit_90 gX2_anyOf gX2_unit v_length v_teller v_word v_bytes k10 v_fault)
  else (
  bR (gX2_anyOf v_length k10 v_fault v_teller v_word v_bytes (y1 + 1)) (fun r12 k12 =>
  bR (fX2_closed v_length k12.1 k12.2 v_bytes r12) (fun r13 k13 =>
  some (r13, (k13.1, k13.2)))))))))
set_option maxRecDepth 100000 in
set_option maxHeartbeats 4000000 in
theorem LX2_unit_63 {p : Program} {l : Launch} {e : Env} {s : State} {m : MethodId} {args : Array Value} {below : List Frame} {meth : Method} {c : Code} {D : va_G} {cI cJ cZ cS : ClassId} {tb : Nat} {A : Nat → Prop} {a_t a_bytes : Nat} {v_length : Int32} {v_teller : Int32} {v_word : Int32} {v_bytes : Nat → Int32} {rr : Int64} {kk' : Int32 × Int32} {dd : Nat} {gX2_anyOf : Int32 → Int32 → Int32 → Int32 → Int32 → (Nat → Int32) → Int32 → Option (Int64 × Int32 × Int32)} (hgX2_anyOf : ∀ (D : va_G) (cI cJ cZ cS : ClassId) (tb : Nat) (a_t a_bytes : Nat) (sz : Nat) (v_length : Int32) (v_place : Int32) (v_fault : Int32) (v_teller : Int32) (v_word : Int32) (v_bytes : Nat → Int32) (x1 : Int32) (rr : Int64) (kk' : Int32 × Int32) (hf : gX2_anyOf v_length v_place v_fault v_teller v_word v_bytes x1 = some (rr, kk')), Met l yX2_anyOf (Cond.code yX2_anyOf cX2_anyOf 5 (some .long) :: wA) (rX2_anyOf dd) (q_Pre D cI cJ cZ cS tb [.ref a_t, .int x1] sz (wX2_anyOf cI cJ cZ cS a_t a_bytes v_length v_place v_fault v_teller v_word v_bytes)) (q_Rl D rr (va_A (wX2_anyOf cI cJ cZ cS a_t a_bytes v_length v_place v_fault v_teller v_word v_bytes) sz) ((fun k : Int32 × Int32 => (wX2_anyOf cI cJ cZ cS a_t a_bytes v_length k.1 k.2 v_teller v_word v_bytes)) kk')) 0 0 (va_A (wX2_anyOf cI cJ cZ cS a_t a_bytes v_length v_place v_fault v_teller v_word v_bytes) sz)) {gX2_unit : Int32 → Int32 → Int32 → Int32 → Int32 → (Nat → Int32) → Int32 → Option (Int64 × Int32 × Int32)} (hgX2_unit : ∀ (D : va_G) (cI cJ cZ cS : ClassId) (tb : Nat) (a_t a_bytes : Nat) (sz : Nat) (v_length : Int32) (v_place : Int32) (v_fault : Int32) (v_teller : Int32) (v_word : Int32) (v_bytes : Nat → Int32) (x1 : Int32) (rr : Int64) (kk' : Int32 × Int32) (hf : gX2_unit v_length v_place v_fault v_teller v_word v_bytes x1 = some (rr, kk')), Met l yX2_unit (Cond.code yX2_unit cX2_unit 3 (some .long) :: wA) (rX2_unit dd) (q_Pre D cI cJ cZ cS tb [.ref a_t, .int x1] sz (wX2_unit cI cJ cZ cS a_t a_bytes v_length v_place v_fault v_teller v_word v_bytes)) (q_Rl D rr (va_A (wX2_unit cI cJ cZ cS a_t a_bytes v_length v_place v_fault v_teller v_word v_bytes) sz) ((fun k : Int32 × Int32 => (wX2_unit cI cJ cZ cS a_t a_bytes v_length k.1 k.2 v_teller v_word v_bytes)) kk')) 0 0 (va_A (wX2_unit cI cJ cZ cS a_t a_bytes v_length v_place v_fault v_teller v_word v_bytes) sz)) (fx : q_Fx p s m args meth c cX2_unit 3 RX2 (some .long) D cI cJ cZ cS tb A) : ∀ {v_place : Int32} {v_fault : Int32} {y1 : Int32} {H : Heap} {locs : List Loc} {ls : Array Slot}, q_H D A s (wX2_unit cI cJ cZ cS a_t a_bytes v_length v_place v_fault v_teller v_word v_bytes) H locs → lv_has ls 3 [(0, .ref a_t), (1, .int y1)] → fX2_unit_63 gX2_anyOf gX2_unit v_length v_teller v_word v_bytes v_place v_fault y1 = some (rr, kk') → W p l e (rX2_unit (dd + 1)) s m args below meth c H locs 0 0 (MQ below (q_Rl D rr A ((fun k : Int32 × Int32 => (wX2_unit cI cJ cZ cS a_t a_bytes v_length k.1 k.2 v_teller v_word v_bytes)) kk')) args s 0 0 A) (F0 m 63 ls []) := by
  intro v_place v_fault y1 H locs ls h hl hf
  have hx := fx.1
  have hb := fx.2.1
  unfold fX2_unit_63 at hf
  refine lv_iload_n hx hb dX2_unit_63 rfl (lv_at hl 1 rfl) ?_
  refine lv_bipush (v := 6) hx hb dX2_unit_64 (by decide) ?_
  refine lv_icmp_ge (tgt := 90) hx hb dX2_unit_66 (by decide) (fun c9 => ?_) (fun c9 => ?_)
  · have hf := it_t c9 hf
    exact LX2_unit_90 hgX2_anyOf hgX2_unit fx h (lv_sub hl [0] rfl) hf
  have hf := it_f c9 hf
  refine lv_aload_n hx hb dX2_unit_69 rfl (lv_at hl 0 rfl) ?_
  refine lv_bipush (v := 40) hx hb dX2_unit_70 (by decide) ?_
  obtain ⟨r10, k10, hg, hf⟩ := bR_inv hf
  refine q_ci (rest := []) (ws' := (wX2_unit cI cJ cZ cS a_t a_bytes v_length k10 v_fault v_teller v_word v_bytes)) (w1 := (wX2_passes cI cJ cZ cS a_t a_bytes v_length k10 v_fault v_teller v_word v_bytes)) fx h [0, 1] rfl rfl rfl rfl (q_runV fx h hl.1 [0, 1] rfl rfl (tX2_passes l D cI cJ cZ cS tb a_t a_bytes H.size v_length v_place v_fault v_teller v_word v_bytes 40 r10 k10 hg) mvX2_passes k_304 ⟨rfl, rfl⟩ (room_X2_unit_X2_passes dd) rfl rfl rfl rfl (Nat.le_of_ble_eq_true rfl) dX2_unit_72 ⟨Nat.le_of_ble_eq_true rfl, Nat.le_of_ble_eq_true rfl⟩) (fun H locs h => ?_)
  refine lv_if_eq (tgt := 90) hx hb dX2_unit_75 (by decide) (fun c11 => ?_) (fun c11 => ?_)
  · have hf := it_t c11 hf
    exact LX2_unit_90 hgX2_anyOf hgX2_unit fx h (lv_sub hl [0] rfl) hf
  have hf := it_f c11 hf
  refine lv_aload_n hx hb dX2_unit_78 rfl (lv_at hl 0 rfl) ?_
  refine lv_aload_n hx hb dX2_unit_79 rfl (lv_at hl 0 rfl) ?_
  refine lv_iload_n hx hb dX2_unit_80 rfl (lv_at hl 1 rfl) ?_
  refine lv_iconst (v := 1) hx hb dX2_unit_81 (by decide) ?_
  refine lv_iadd hx hb dX2_unit_82 ?_
  obtain ⟨r12, k12, hg, hf⟩ := bR_inv hf
  refine q_cl (rest := [.ref a_t]) (ws' := (wX2_unit cI cJ cZ cS a_t a_bytes v_length k12.1 k12.2 v_teller v_word v_bytes)) (w1 := (wX2_anyOf cI cJ cZ cS a_t a_bytes v_length k12.1 k12.2 v_teller v_word v_bytes)) fx h [0, 1] rfl rfl rfl rfl (q_runV fx h hl.1 [0, 1] rfl rfl (hgX2_anyOf D cI cJ cZ cS tb a_t a_bytes H.size v_length k10 v_fault v_teller v_word v_bytes (y1 + 1) r12 k12 hg) mvX2_anyOf k_278 ⟨rfl, rfl⟩ (room_X2_unit_X2_anyOf dd) rfl rfl rfl rfl (Nat.le_of_ble_eq_true rfl) dX2_unit_83 ⟨Nat.le_of_ble_eq_true rfl, Nat.le_of_ble_eq_true rfl⟩) (fun H locs h => ?_)
  obtain ⟨r13, k13, hg, hf⟩ := bR_inv hf
  refine q_cl (rest := []) (ws' := (wX2_unit cI cJ cZ cS a_t a_bytes v_length k13.1 k13.2 v_teller v_word v_bytes)) (w1 := (wX2_closed cI cJ cZ cS a_t a_bytes v_length k13.1 k13.2 v_teller v_word v_bytes)) fx h [0, 1] rfl rfl rfl rfl (q_runV fx h hl.1 [0, 1] rfl rfl (tX2_closed l D cI cJ cZ cS tb a_t a_bytes H.size v_length k12.1 k12.2 v_teller v_word v_bytes r12 r13 k13 hg) mvX2_closed k_309 ⟨rfl, rfl⟩ (room_X2_unit_X2_closed dd) rfl rfl rfl rfl (Nat.le_of_ble_eq_true rfl) dX2_unit_86 ⟨Nat.le_of_ble_eq_true rfl, Nat.le_of_ble_eq_true rfl⟩) (fun H locs h => ?_)
  exact q_retl (fun k : Int32 × Int32 => (wX2_unit cI cJ cZ cS a_t a_bytes v_length k.1 k.2 v_teller v_word v_bytes)) fx hf h dX2_unit_89
def fX2_unit_36 (gX2_anyOf : Int32 → Int32 → Int32 → Int32 → Int32 → (Nat → Int32) → Int32 → Option (Int64 × Int32 × Int32)) (gX2_unit : Int32 → Int32 → Int32 → Int32 → Int32 → (Nat → Int32) → Int32 → Option (Int64 × Int32 × Int32)) (v_length : Int32) (v_teller : Int32) (v_word : Int32) (v_bytes : Nat → Int32) (v_place : Int32) (v_fault : Int32) (y1 : Int32) : Option (Int64 × Int32 × Int32) :=
  (if (6 : Int32) ≤ y1 then (
  fX2_unit_63 gX2_anyOf gX2_unit v_length v_teller v_word v_bytes v_place v_fault y1)
  else (
  bR (fX2_passes v_length v_place v_fault v_bytes 33) (fun r15 k15 =>
  (if r15 = 0 then (
  fX2_unit_63 gX2_anyOf gX2_unit v_length v_teller v_word v_bytes k15 v_fault y1)
  else (
  bR (gX2_unit v_length k15 v_fault v_teller v_word v_bytes (y1 + 1)) (fun r17 k17 =>
  some (r17 ^^^ (-1), (k17.1, k17.2))))))))
set_option maxRecDepth 100000 in
set_option maxHeartbeats 4000000 in
theorem LX2_unit_36 {p : Program} {l : Launch} {e : Env} {s : State} {m : MethodId} {args : Array Value} {below : List Frame} {meth : Method} {c : Code} {D : va_G} {cI cJ cZ cS : ClassId} {tb : Nat} {A : Nat → Prop} {a_t a_bytes : Nat} {v_length : Int32} {v_teller : Int32} {v_word : Int32} {v_bytes : Nat → Int32} {rr : Int64} {kk' : Int32 × Int32} {dd : Nat} {gX2_anyOf : Int32 → Int32 → Int32 → Int32 → Int32 → (Nat → Int32) → Int32 → Option (Int64 × Int32 × Int32)} (hgX2_anyOf : ∀ (D : va_G) (cI cJ cZ cS : ClassId) (tb : Nat) (a_t a_bytes : Nat) (sz : Nat) (v_length : Int32) (v_place : Int32) (v_fault : Int32) (v_teller : Int32) (v_word : Int32) (v_bytes : Nat → Int32) (x1 : Int32) (rr : Int64) (kk' : Int32 × Int32) (hf : gX2_anyOf v_length v_place v_fault v_teller v_word v_bytes x1 = some (rr, kk')), Met l yX2_anyOf (Cond.code yX2_anyOf cX2_anyOf 5 (some .long) :: wA) (rX2_anyOf dd) (q_Pre D cI cJ cZ cS tb [.ref a_t, .int x1] sz (wX2_anyOf cI cJ cZ cS a_t a_bytes v_length v_place v_fault v_teller v_word v_bytes)) (q_Rl D rr (va_A (wX2_anyOf cI cJ cZ cS a_t a_bytes v_length v_place v_fault v_teller v_word v_bytes) sz) ((fun k : Int32 × Int32 => (wX2_anyOf cI cJ cZ cS a_t a_bytes v_length k.1 k.2 v_teller v_word v_bytes)) kk')) 0 0 (va_A (wX2_anyOf cI cJ cZ cS a_t a_bytes v_length v_place v_fault v_teller v_word v_bytes) sz)) {gX2_unit : Int32 → Int32 → Int32 → Int32 → Int32 → (Nat → Int32) → Int32 → Option (Int64 × Int32 × Int32)} (hgX2_unit : ∀ (D : va_G) (cI cJ cZ cS : ClassId) (tb : Nat) (a_t a_bytes : Nat) (sz : Nat) (v_length : Int32) (v_place : Int32) (v_fault : Int32) (v_teller : Int32) (v_word : Int32) (v_bytes : Nat → Int32) (x1 : Int32) (rr : Int64) (kk' : Int32 × Int32) (hf : gX2_unit v_length v_place v_fault v_teller v_word v_bytes x1 = some (rr, kk')), Met l yX2_unit (Cond.code yX2_unit cX2_unit 3 (some .long) :: wA) (rX2_unit dd) (q_Pre D cI cJ cZ cS tb [.ref a_t, .int x1] sz (wX2_unit cI cJ cZ cS a_t a_bytes v_length v_place v_fault v_teller v_word v_bytes)) (q_Rl D rr (va_A (wX2_unit cI cJ cZ cS a_t a_bytes v_length v_place v_fault v_teller v_word v_bytes) sz) ((fun k : Int32 × Int32 => (wX2_unit cI cJ cZ cS a_t a_bytes v_length k.1 k.2 v_teller v_word v_bytes)) kk')) 0 0 (va_A (wX2_unit cI cJ cZ cS a_t a_bytes v_length v_place v_fault v_teller v_word v_bytes) sz)) (fx : q_Fx p s m args meth c cX2_unit 3 RX2 (some .long) D cI cJ cZ cS tb A) : ∀ {v_place : Int32} {v_fault : Int32} {y1 : Int32} {H : Heap} {locs : List Loc} {ls : Array Slot}, q_H D A s (wX2_unit cI cJ cZ cS a_t a_bytes v_length v_place v_fault v_teller v_word v_bytes) H locs → lv_has ls 3 [(0, .ref a_t), (1, .int y1)] → fX2_unit_36 gX2_anyOf gX2_unit v_length v_teller v_word v_bytes v_place v_fault y1 = some (rr, kk') → W p l e (rX2_unit (dd + 1)) s m args below meth c H locs 0 0 (MQ below (q_Rl D rr A ((fun k : Int32 × Int32 => (wX2_unit cI cJ cZ cS a_t a_bytes v_length k.1 k.2 v_teller v_word v_bytes)) kk')) args s 0 0 A) (F0 m 36 ls []) := by
  intro v_place v_fault y1 H locs ls h hl hf
  have hx := fx.1
  have hb := fx.2.1
  unfold fX2_unit_36 at hf
  refine lv_iload_n hx hb dX2_unit_36 rfl (lv_at hl 1 rfl) ?_
  refine lv_bipush (v := 6) hx hb dX2_unit_37 (by decide) ?_
  refine lv_icmp_ge (tgt := 63) hx hb dX2_unit_39 (by decide) (fun c14 => ?_) (fun c14 => ?_)
  · have hf := it_t c14 hf
    exact LX2_unit_63 hgX2_anyOf hgX2_unit fx h (lv_sub hl [0, 1] rfl) hf
  have hf := it_f c14 hf
  refine lv_aload_n hx hb dX2_unit_42 rfl (lv_at hl 0 rfl) ?_
  refine lv_bipush (v := 33) hx hb dX2_unit_43 (by decide) ?_
  obtain ⟨r15, k15, hg, hf⟩ := bR_inv hf
  refine q_ci (rest := []) (ws' := (wX2_unit cI cJ cZ cS a_t a_bytes v_length k15 v_fault v_teller v_word v_bytes)) (w1 := (wX2_passes cI cJ cZ cS a_t a_bytes v_length k15 v_fault v_teller v_word v_bytes)) fx h [0, 1] rfl rfl rfl rfl (q_runV fx h hl.1 [0, 1] rfl rfl (tX2_passes l D cI cJ cZ cS tb a_t a_bytes H.size v_length v_place v_fault v_teller v_word v_bytes 33 r15 k15 hg) mvX2_passes k_304 ⟨rfl, rfl⟩ (room_X2_unit_X2_passes dd) rfl rfl rfl rfl (Nat.le_of_ble_eq_true rfl) dX2_unit_45 ⟨Nat.le_of_ble_eq_true rfl, Nat.le_of_ble_eq_true rfl⟩) (fun H locs h => ?_)
  refine lv_if_eq (tgt := 63) hx hb dX2_unit_48 (by decide) (fun c16 => ?_) (fun c16 => ?_)
  · have hf := it_t c16 hf
    exact LX2_unit_63 hgX2_anyOf hgX2_unit fx h (lv_sub hl [0, 1] rfl) hf
  have hf := it_f c16 hf
  refine lv_aload_n hx hb dX2_unit_51 rfl (lv_at hl 0 rfl) ?_
  refine lv_iload_n hx hb dX2_unit_52 rfl (lv_at hl 1 rfl) ?_
  refine lv_iconst (v := 1) hx hb dX2_unit_53 (by decide) ?_
  refine lv_iadd hx hb dX2_unit_54 ?_
  obtain ⟨r17, k17, hg, hf⟩ := bR_inv hf
  refine q_cl (rest := []) (ws' := (wX2_unit cI cJ cZ cS a_t a_bytes v_length k17.1 k17.2 v_teller v_word v_bytes)) (w1 := (wX2_unit cI cJ cZ cS a_t a_bytes v_length k17.1 k17.2 v_teller v_word v_bytes)) fx h [0, 1] rfl rfl rfl rfl (q_runV fx h hl.1 [0, 1] rfl rfl (hgX2_unit D cI cJ cZ cS tb a_t a_bytes H.size v_length k15 v_fault v_teller v_word v_bytes (y1 + 1) r17 k17 hg) mvX2_unit k_286 ⟨rfl, rfl⟩ (room_X2_unit_X2_unit dd) rfl rfl rfl rfl (Nat.le_of_ble_eq_true rfl) dX2_unit_55 ⟨Nat.le_of_ble_eq_true rfl, Nat.le_of_ble_eq_true rfl⟩) (fun H locs h => ?_)
  refine q_ldc2 fx k_303 dX2_unit_58 ?_
  refine lv_lxor hx hb dX2_unit_61 ?_
  exact q_retl (fun k : Int32 × Int32 => (wX2_unit cI cJ cZ cS a_t a_bytes v_length k.1 k.2 v_teller v_word v_bytes)) fx hf h dX2_unit_62
def fX2_unit (gX2_anyOf : Int32 → Int32 → Int32 → Int32 → Int32 → (Nat → Int32) → Int32 → Option (Int64 × Int32 × Int32)) (gX2_unit : Int32 → Int32 → Int32 → Int32 → Int32 → (Nat → Int32) → Int32 → Option (Int64 × Int32 × Int32)) (v_length : Int32) (v_place : Int32) (v_fault : Int32) (v_teller : Int32) (v_word : Int32) (v_bytes : Nat → Int32) (x1 : Int32) : Option (Int64 × Int32 × Int32) :=
  bR (fX2_sign v_length v_place v_fault v_bytes) (fun r18 k18 =>
  (if r18 < 97 then (
  fX2_unit_36 gX2_anyOf gX2_unit v_length v_teller v_word v_bytes v_place v_fault x1)
  else (
  (if (104 : Int32) < r18 then (
  fX2_unit_36 gX2_anyOf gX2_unit v_length v_teller v_word v_bytes v_place v_fault x1)
  else (
  nm (v_place + 1) (fun u21 =>
  bR (fX2_listsWith v_word (r18 - 97)) (fun r22 k22 =>
  some (r22, (u21, v_fault)))))))))
set_option maxRecDepth 100000 in
set_option maxHeartbeats 4000000 in
theorem uX2_unit (dd : Nat) (l : Launch) {gX2_anyOf : Int32 → Int32 → Int32 → Int32 → Int32 → (Nat → Int32) → Int32 → Option (Int64 × Int32 × Int32)} (hgX2_anyOf : ∀ (D : va_G) (cI cJ cZ cS : ClassId) (tb : Nat) (a_t a_bytes : Nat) (sz : Nat) (v_length : Int32) (v_place : Int32) (v_fault : Int32) (v_teller : Int32) (v_word : Int32) (v_bytes : Nat → Int32) (x1 : Int32) (rr : Int64) (kk' : Int32 × Int32) (hf : gX2_anyOf v_length v_place v_fault v_teller v_word v_bytes x1 = some (rr, kk')), Met l yX2_anyOf (Cond.code yX2_anyOf cX2_anyOf 5 (some .long) :: wA) (rX2_anyOf dd) (q_Pre D cI cJ cZ cS tb [.ref a_t, .int x1] sz (wX2_anyOf cI cJ cZ cS a_t a_bytes v_length v_place v_fault v_teller v_word v_bytes)) (q_Rl D rr (va_A (wX2_anyOf cI cJ cZ cS a_t a_bytes v_length v_place v_fault v_teller v_word v_bytes) sz) ((fun k : Int32 × Int32 => (wX2_anyOf cI cJ cZ cS a_t a_bytes v_length k.1 k.2 v_teller v_word v_bytes)) kk')) 0 0 (va_A (wX2_anyOf cI cJ cZ cS a_t a_bytes v_length v_place v_fault v_teller v_word v_bytes) sz)) {gX2_unit : Int32 → Int32 → Int32 → Int32 → Int32 → (Nat → Int32) → Int32 → Option (Int64 × Int32 × Int32)} (hgX2_unit : ∀ (D : va_G) (cI cJ cZ cS : ClassId) (tb : Nat) (a_t a_bytes : Nat) (sz : Nat) (v_length : Int32) (v_place : Int32) (v_fault : Int32) (v_teller : Int32) (v_word : Int32) (v_bytes : Nat → Int32) (x1 : Int32) (rr : Int64) (kk' : Int32 × Int32) (hf : gX2_unit v_length v_place v_fault v_teller v_word v_bytes x1 = some (rr, kk')), Met l yX2_unit (Cond.code yX2_unit cX2_unit 3 (some .long) :: wA) (rX2_unit dd) (q_Pre D cI cJ cZ cS tb [.ref a_t, .int x1] sz (wX2_unit cI cJ cZ cS a_t a_bytes v_length v_place v_fault v_teller v_word v_bytes)) (q_Rl D rr (va_A (wX2_unit cI cJ cZ cS a_t a_bytes v_length v_place v_fault v_teller v_word v_bytes) sz) ((fun k : Int32 × Int32 => (wX2_unit cI cJ cZ cS a_t a_bytes v_length k.1 k.2 v_teller v_word v_bytes)) kk')) 0 0 (va_A (wX2_unit cI cJ cZ cS a_t a_bytes v_length v_place v_fault v_teller v_word v_bytes) sz)) (D : va_G) (cI cJ cZ cS : ClassId) (tb : Nat) (a_t a_bytes : Nat) (sz : Nat) (v_length : Int32) (v_place : Int32) (v_fault : Int32) (v_teller : Int32) (v_word : Int32) (v_bytes : Nat → Int32) (x1 : Int32) (rr : Int64) (kk' : Int32 × Int32) (hf : fX2_unit gX2_anyOf gX2_unit v_length v_place v_fault v_teller v_word v_bytes x1 = some (rr, kk')) : Met l yX2_unit (Cond.code yX2_unit cX2_unit 3 (some .long) :: wA) (rX2_unit (dd + 1)) (q_Pre D cI cJ cZ cS tb [.ref a_t, .int x1] sz (wX2_unit cI cJ cZ cS a_t a_bytes v_length v_place v_fault v_teller v_word v_bytes)) (q_Rl D rr (va_A (wX2_unit cI cJ cZ cS a_t a_bytes v_length v_place v_fault v_teller v_word v_bytes) sz) ((fun k : Int32 × Int32 => (wX2_unit cI cJ cZ cS a_t a_bytes v_length k.1 k.2 v_teller v_word v_bytes)) kk')) 0 0 (va_A (wX2_unit cI cJ cZ cS a_t a_bytes v_length v_place v_fault v_teller v_word v_bytes) sz) := by
  refine q_enter (Qf := fun A => (q_Rl D rr A ((fun k : Int32 × Int32 => (wX2_unit cI cJ cZ cS a_t a_bytes v_length k.1 k.2 v_teller v_word v_bytes)) kk'))) (by decide) rfl (Nat.le_of_ble_eq_true rfl) ?_
  intro p e s m below meth c A ls fx hname h hl
  have hx := fx.1
  have hb := fx.2.1
  have hl : lv_has ls 3 [(0, .ref a_t), (1, .int x1)] := hl
  generalize h9 : s.heap = H at h ⊢
  clear h9
  generalize h9 : ([] : List Loc) = locs at h ⊢
  clear h9
  unfold fX2_unit at hf
  refine lv_aload_n hx hb dX2_unit_0 rfl (lv_at hl 0 rfl) ?_
  obtain ⟨r18, k18, hg, hf⟩ := bR_inv hf
  refine q_ci (rest := []) (ws' := (wX2_unit cI cJ cZ cS a_t a_bytes v_length v_place v_fault v_teller v_word v_bytes)) (w1 := (wX2_sign cI cJ cZ cS a_t a_bytes v_length v_place v_fault v_teller v_word v_bytes)) fx h [0, 1] rfl rfl rfl rfl (q_runV fx h hl.1 [0, 1] rfl rfl (tX2_sign l D cI cJ cZ cS tb a_t a_bytes H.size v_length v_place v_fault v_teller v_word v_bytes r18 k18 hg) mvX2_sign k_290 ⟨rfl, rfl⟩ (room_X2_unit_X2_sign dd) rfl rfl rfl rfl (Nat.le_of_ble_eq_true rfl) dX2_unit_1 ⟨Nat.le_of_ble_eq_true rfl, Nat.le_of_ble_eq_true rfl⟩) (fun H locs h => ?_)
  refine lv_istore_n (lv' := [(2, .int r18), (0, .ref a_t), (1, .int x1)]) hx hb dX2_unit_4 rfl hl (by decide) rfl (fun ls hl => ?_)
  refine lv_iload_n hx hb dX2_unit_5 rfl (lv_at hl 0 rfl) ?_
  refine lv_bipush (v := 97) hx hb dX2_unit_6 (by decide) ?_
  refine lv_icmp_lt (tgt := 36) hx hb dX2_unit_8 (by decide) (fun c19 => ?_) (fun c19 => ?_)
  · have hf := it_t c19 hf
    exact LX2_unit_36 hgX2_anyOf hgX2_unit fx h (lv_sub hl [1, 2] rfl) hf
  have hf := it_f c19 hf
  refine lv_iload_n hx hb dX2_unit_11 rfl (lv_at hl 0 rfl) ?_
  refine lv_bipush (v := 104) hx hb dX2_unit_12 (by decide) ?_
  refine lv_icmp_gt (tgt := 36) hx hb dX2_unit_14 (by decide) (fun c20 => ?_) (fun c20 => ?_)
  · have hf := it_t c20 hf
    exact LX2_unit_36 hgX2_anyOf hgX2_unit fx h (lv_sub hl [1, 2] rfl) hf
  have hf := it_f c20 hf
  refine lv_aload_n hx hb dX2_unit_17 rfl (lv_at hl 1 rfl) ?_
  refine lv_dup hx hb dX2_unit_18 rfl ?_
  refine q_get (v := .int v_place) fx inX2 h 0 rfl rfl 2 (by decide) k_120 rfl dX2_unit_19 ?_
  refine lv_iconst (v := 1) hx hb dX2_unit_22 (by decide) ?_
  refine lv_iadd hx hb dX2_unit_23 ?_
  obtain ⟨u21, eu21, hf⟩ := nm_inv hf
  refine lv_eqi eu21 ?_
  refine q_put (v := .int u21) (ws' := (wX2_unit cI cJ cZ cS a_t a_bytes v_length u21 v_fault v_teller v_word v_bytes)) fx inX2 tyX2 tyX2_ok nmX2 h 0 rfl rfl 2 (by decide) k_120 rfl rfl rfl (Nat.le_of_ble_eq_true rfl) rfl dX2_unit_24 (fun H locs h => ?_)
  refine lv_aload_n hx hb dX2_unit_27 rfl (lv_at hl 1 rfl) ?_
  refine lv_iload_n hx hb dX2_unit_28 rfl (lv_at hl 0 rfl) ?_
  refine lv_bipush (v := 97) hx hb dX2_unit_29 (by decide) ?_
  refine lv_isub hx hb dX2_unit_31 ?_
  obtain ⟨r22, k22, hg, hf⟩ := bR_inv hf
  refine q_cl (rest := []) (ws' := (wX2_unit cI cJ cZ cS a_t a_bytes v_length u21 v_fault v_teller v_word v_bytes)) (w1 := (wX2_listsWith cI cJ cZ cS a_t a_bytes v_length u21 v_fault v_teller v_word)) fx h [0] rfl rfl rfl rfl (q_runV fx h hl.1 [0] rfl rfl (tX2_listsWith l D cI cJ cZ cS tb a_t a_bytes H.size v_length u21 v_fault v_teller v_word (r18 - 97) r22 k22 hg) mvX2_listsWith k_294 ⟨rfl, rfl⟩ (room_X2_unit_X2_listsWith dd) rfl rfl rfl rfl (Nat.le_of_ble_eq_true rfl) dX2_unit_32 ⟨Nat.le_of_ble_eq_true rfl, Nat.le_of_ble_eq_true rfl⟩) (fun H locs h => ?_)
  exact q_retl (fun k : Int32 × Int32 => (wX2_unit cI cJ cZ cS a_t a_bytes v_length k.1 k.2 v_teller v_word v_bytes)) fx hf h dX2_unit_35
/-! X2_allOf -/
def fX2_allOf_9 (gX2_unit : Int32 → Int32 → Int32 → Int32 → Int32 → (Nat → Int32) → Int32 → Option (Int64 × Int32 × Int32)) (v_length : Int32) (v_teller : Int32) (v_word : Int32) (v_bytes : Nat → Int32) (ag9 : Int32 → Int32 → Int32 → Int64 → Int32 → Option (Int64 × Int32 × Int32)) (v_place : Int32) (v_fault : Int32) (y1 : Int32) (y2 : Int64) (y4 : Int32) : Option (Int64 × Int32 × Int32) :=
  (if (60 : Int32) ≤ y4 then (
  some (y2, (v_place, v_fault)))
  else (
  bR (fX2_passes v_length v_place v_fault v_bytes 38) (fun r2 k2 =>
  (if r2 = 0 then (
  some (y2, (k2, v_fault)))
  else (
  bR (gX2_unit v_length k2 v_fault v_teller v_word v_bytes y1) (fun r4 k4 =>
  nm (y2 &&& r4) (fun u5 =>
  nm (y4 + 1) (fun u6 =>
  ag9 k4.1 k4.2 y1 u5 u6))))))))
set_option maxRecDepth 100000 in
set_option maxHeartbeats 4000000 in
theorem LX2_allOf_9 {p : Program} {l : Launch} {e : Env} {s : State} {m : MethodId} {args : Array Value} {below : List Frame} {meth : Method} {c : Code} {D : va_G} {cI cJ cZ cS : ClassId} {tb : Nat} {A : Nat → Prop} {a_t a_bytes : Nat} {v_length : Int32} {v_teller : Int32} {v_word : Int32} {v_bytes : Nat → Int32} {rr : Int64} {kk' : Int32 × Int32} {dd : Nat} {gX2_unit : Int32 → Int32 → Int32 → Int32 → Int32 → (Nat → Int32) → Int32 → Option (Int64 × Int32 × Int32)} (hgX2_unit : ∀ (D : va_G) (cI cJ cZ cS : ClassId) (tb : Nat) (a_t a_bytes : Nat) (sz : Nat) (v_length : Int32) (v_place : Int32) (v_fault : Int32) (v_teller : Int32) (v_word : Int32) (v_bytes : Nat → Int32) (x1 : Int32) (rr : Int64) (kk' : Int32 × Int32) (hf : gX2_unit v_length v_place v_fault v_teller v_word v_bytes x1 = some (rr, kk')), Met l yX2_unit (Cond.code yX2_unit cX2_unit 3 (some .long) :: wA) (rX2_unit dd) (q_Pre D cI cJ cZ cS tb [.ref a_t, .int x1] sz (wX2_unit cI cJ cZ cS a_t a_bytes v_length v_place v_fault v_teller v_word v_bytes)) (q_Rl D rr (va_A (wX2_unit cI cJ cZ cS a_t a_bytes v_length v_place v_fault v_teller v_word v_bytes) sz) ((fun k : Int32 × Int32 => (wX2_unit cI cJ cZ cS a_t a_bytes v_length k.1 k.2 v_teller v_word v_bytes)) kk')) 0 0 (va_A (wX2_unit cI cJ cZ cS a_t a_bytes v_length v_place v_fault v_teller v_word v_bytes) sz)) (fx : q_Fx p s m args meth c cX2_allOf 5 RX2 (some .long) D cI cJ cZ cS tb A) {ag9 : Int32 → Int32 → Int32 → Int64 → Int32 → Option (Int64 × Int32 × Int32)} (hag9 : ∀ {v_place : Int32} {v_fault : Int32} {y1 : Int32} {y2 : Int64} {y4 : Int32} {H : Heap} {locs : List Loc} {ls : Array Slot}, q_H D A s (wX2_allOf cI cJ cZ cS a_t a_bytes v_length v_place v_fault v_teller v_word v_bytes) H locs → lv_has ls 5 [(0, .ref a_t), (1, .int y1), (2, .long y2), (4, .int y4)] → ag9 v_place v_fault y1 y2 y4 = some (rr, kk') → W p l e (rX2_allOf dd) s m args below meth c H locs 0 0 (MQ below (q_Rl D rr A ((fun k : Int32 × Int32 => (wX2_allOf cI cJ cZ cS a_t a_bytes v_length k.1 k.2 v_teller v_word v_bytes)) kk')) args s 0 0 A) (F0 m 9 ls [])) : ∀ {v_place : Int32} {v_fault : Int32} {y1 : Int32} {y2 : Int64} {y4 : Int32} {H : Heap} {locs : List Loc} {ls : Array Slot}, q_H D A s (wX2_allOf cI cJ cZ cS a_t a_bytes v_length v_place v_fault v_teller v_word v_bytes) H locs → lv_has ls 5 [(0, .ref a_t), (1, .int y1), (2, .long y2), (4, .int y4)] → fX2_allOf_9 gX2_unit v_length v_teller v_word v_bytes ag9 v_place v_fault y1 y2 y4 = some (rr, kk') → W p l e (rX2_allOf dd) s m args below meth c H locs 0 0 (MQ below (q_Rl D rr A ((fun k : Int32 × Int32 => (wX2_allOf cI cJ cZ cS a_t a_bytes v_length k.1 k.2 v_teller v_word v_bytes)) kk')) args s 0 0 A) (F0 m 9 ls []) := by
  intro v_place v_fault y1 y2 y4 H locs ls h hl hf
  have hx := fx.1
  have hb := fx.2.1
  unfold fX2_allOf_9 at hf
  refine lv_iload hx hb dX2_allOf_9 (lv_at hl 3 rfl) ?_
  refine lv_bipush (v := 60) hx hb dX2_allOf_11 (by decide) ?_
  refine lv_icmp_ge (tgt := 39) hx hb dX2_allOf_13 (by decide) (fun c1 => ?_) (fun c1 => ?_)
  · have hf := it_t c1 hf
    refine lv_lload_n hx hb dX2_allOf_39 rfl (lv_at hl 2 rfl) ?_
    exact q_retl (fun k : Int32 × Int32 => (wX2_allOf cI cJ cZ cS a_t a_bytes v_length k.1 k.2 v_teller v_word v_bytes)) fx hf h dX2_allOf_40
  have hf := it_f c1 hf
  refine lv_aload_n hx hb dX2_allOf_16 rfl (lv_at hl 0 rfl) ?_
  refine lv_bipush (v := 38) hx hb dX2_allOf_17 (by decide) ?_
  obtain ⟨r2, k2, hg, hf⟩ := bR_inv hf
  refine q_ci (rest := []) (ws' := (wX2_allOf cI cJ cZ cS a_t a_bytes v_length k2 v_fault v_teller v_word v_bytes)) (w1 := (wX2_passes cI cJ cZ cS a_t a_bytes v_length k2 v_fault v_teller v_word v_bytes)) fx h [0, 1] rfl rfl rfl rfl (q_runV fx h hl.1 [0, 1] rfl rfl (tX2_passes l D cI cJ cZ cS tb a_t a_bytes H.size v_length v_place v_fault v_teller v_word v_bytes 38 r2 k2 hg) mvX2_passes k_304 ⟨rfl, rfl⟩ (room_X2_allOf_X2_passes dd) rfl rfl rfl rfl (Nat.le_of_ble_eq_true rfl) dX2_allOf_19 ⟨Nat.le_of_ble_eq_true rfl, Nat.le_of_ble_eq_true rfl⟩) (fun H locs h => ?_)
  refine lv_if_eq (tgt := 39) hx hb dX2_allOf_22 (by decide) (fun c3 => ?_) (fun c3 => ?_)
  · have hf := it_t c3 hf
    refine lv_lload_n hx hb dX2_allOf_39 rfl (lv_at hl 2 rfl) ?_
    exact q_retl (fun k : Int32 × Int32 => (wX2_allOf cI cJ cZ cS a_t a_bytes v_length k.1 k.2 v_teller v_word v_bytes)) fx hf h dX2_allOf_40
  have hf := it_f c3 hf
  refine lv_lload_n hx hb dX2_allOf_25 rfl (lv_at hl 2 rfl) ?_
  refine lv_aload_n hx hb dX2_allOf_26 rfl (lv_at hl 0 rfl) ?_
  refine lv_iload_n hx hb dX2_allOf_27 rfl (lv_at hl 1 rfl) ?_
  obtain ⟨r4, k4, hg, hf⟩ := bR_inv hf
  refine q_cl (rest := [.long y2]) (ws' := (wX2_allOf cI cJ cZ cS a_t a_bytes v_length k4.1 k4.2 v_teller v_word v_bytes)) (w1 := (wX2_unit cI cJ cZ cS a_t a_bytes v_length k4.1 k4.2 v_teller v_word v_bytes)) fx h [0, 1] rfl rfl rfl rfl (q_runV fx h hl.1 [0, 1] rfl rfl (hgX2_unit D cI cJ cZ cS tb a_t a_bytes H.size v_length k2 v_fault v_teller v_word v_bytes y1 r4 k4 hg) mvX2_unit k_286 ⟨rfl, rfl⟩ (room_X2_allOf_X2_unit dd) rfl rfl rfl rfl (Nat.le_of_ble_eq_true rfl) dX2_allOf_28 ⟨Nat.le_of_ble_eq_true rfl, Nat.le_of_ble_eq_true rfl⟩) (fun H locs h => ?_)
  refine lv_land hx hb dX2_allOf_31 ?_
  obtain ⟨u5, eu5, hf⟩ := nm_inv hf
  refine lv_eql eu5 ?_
  refine lv_lstore_n (lv' := [(2, .long u5), (0, .ref a_t), (1, .int y1), (4, .int y4)]) hx hb dX2_allOf_32 rfl hl (by decide) rfl (fun ls hl => ?_)
  obtain ⟨u6, eu6, hf⟩ := nm_inv hf
  refine lv_iinc (v := u6) (lv' := [(4, .int u6), (2, .long u5), (0, .ref a_t), (1, .int y1)]) hx hb dX2_allOf_33 hl (k := 3) rfl (by rw [eu6]; rfl) (by decide) rfl (fun ls hl => ?_)
  refine lv_goto (tgt := 9) hx hb dX2_allOf_36 (by decide) ?_
  exact hag9 h (lv_sub hl [2, 3, 1, 0] rfl) hf
set_option maxRecDepth 100000 in
theorem EX2_allOf_9 {p : Program} {l : Launch} {e : Env} {s : State} {m : MethodId} {args : Array Value} {below : List Frame} {meth : Method} {c : Code} {D : va_G} {cI cJ cZ cS : ClassId} {tb : Nat} {A : Nat → Prop} {a_t a_bytes : Nat} {v_length : Int32} {v_teller : Int32} {v_word : Int32} {v_bytes : Nat → Int32} {rr : Int64} {kk' : Int32 × Int32} {dd : Nat} {gX2_unit : Int32 → Int32 → Int32 → Int32 → Int32 → (Nat → Int32) → Int32 → Option (Int64 × Int32 × Int32)} (hgX2_unit : ∀ (D : va_G) (cI cJ cZ cS : ClassId) (tb : Nat) (a_t a_bytes : Nat) (sz : Nat) (v_length : Int32) (v_place : Int32) (v_fault : Int32) (v_teller : Int32) (v_word : Int32) (v_bytes : Nat → Int32) (x1 : Int32) (rr : Int64) (kk' : Int32 × Int32) (hf : gX2_unit v_length v_place v_fault v_teller v_word v_bytes x1 = some (rr, kk')), Met l yX2_unit (Cond.code yX2_unit cX2_unit 3 (some .long) :: wA) (rX2_unit dd) (q_Pre D cI cJ cZ cS tb [.ref a_t, .int x1] sz (wX2_unit cI cJ cZ cS a_t a_bytes v_length v_place v_fault v_teller v_word v_bytes)) (q_Rl D rr (va_A (wX2_unit cI cJ cZ cS a_t a_bytes v_length v_place v_fault v_teller v_word v_bytes) sz) ((fun k : Int32 × Int32 => (wX2_unit cI cJ cZ cS a_t a_bytes v_length k.1 k.2 v_teller v_word v_bytes)) kk')) 0 0 (va_A (wX2_unit cI cJ cZ cS a_t a_bytes v_length v_place v_fault v_teller v_word v_bytes) sz)) (fx : q_Fx p s m args meth c cX2_allOf 5 RX2 (some .long) D cI cJ cZ cS tb A) : ∀ (n : Nat), ∀ {v_place : Int32} {v_fault : Int32} {y1 : Int32} {y2 : Int64} {y4 : Int32} {H : Heap} {locs : List Loc} {ls : Array Slot}, q_H D A s (wX2_allOf cI cJ cZ cS a_t a_bytes v_length v_place v_fault v_teller v_word v_bytes) H locs → lv_has ls 5 [(0, .ref a_t), (1, .int y1), (2, .long y2), (4, .int y4)] → ll5 (fX2_allOf_9 gX2_unit v_length v_teller v_word v_bytes) n v_place v_fault y1 y2 y4 = some (rr, kk') → W p l e (rX2_allOf dd) s m args below meth c H locs 0 0 (MQ below (q_Rl D rr A ((fun k : Int32 × Int32 => (wX2_allOf cI cJ cZ cS a_t a_bytes v_length k.1 k.2 v_teller v_word v_bytes)) kk')) args s 0 0 A) (F0 m 9 ls []) := by
  intro n
  induction n with
  | zero => intro v_place v_fault y1 y2 y4 H locs ls h hl hf; exact (ll5_z hf).elim
  | succ n ih => intro v_place v_fault y1 y2 y4 H locs ls h hl hf; exact LX2_allOf_9 hgX2_unit fx ih h hl (ll5_s hf)
def fX2_allOf (gX2_unit : Int32 → Int32 → Int32 → Int32 → Int32 → (Nat → Int32) → Int32 → Option (Int64 × Int32 × Int32)) (v_length : Int32) (v_place : Int32) (v_fault : Int32) (v_teller : Int32) (v_word : Int32) (v_bytes : Nat → Int32) (x1 : Int32) : Option (Int64 × Int32 × Int32) :=
  bR (gX2_unit v_length v_place v_fault v_teller v_word v_bytes x1) (fun r7 k7 =>
  ll5 (fX2_allOf_9 gX2_unit v_length v_teller v_word v_bytes) qF k7.1 k7.2 x1 r7 0)
set_option maxRecDepth 100000 in
set_option maxHeartbeats 4000000 in
theorem uX2_allOf (dd : Nat) (l : Launch) {gX2_unit : Int32 → Int32 → Int32 → Int32 → Int32 → (Nat → Int32) → Int32 → Option (Int64 × Int32 × Int32)} (hgX2_unit : ∀ (D : va_G) (cI cJ cZ cS : ClassId) (tb : Nat) (a_t a_bytes : Nat) (sz : Nat) (v_length : Int32) (v_place : Int32) (v_fault : Int32) (v_teller : Int32) (v_word : Int32) (v_bytes : Nat → Int32) (x1 : Int32) (rr : Int64) (kk' : Int32 × Int32) (hf : gX2_unit v_length v_place v_fault v_teller v_word v_bytes x1 = some (rr, kk')), Met l yX2_unit (Cond.code yX2_unit cX2_unit 3 (some .long) :: wA) (rX2_unit dd) (q_Pre D cI cJ cZ cS tb [.ref a_t, .int x1] sz (wX2_unit cI cJ cZ cS a_t a_bytes v_length v_place v_fault v_teller v_word v_bytes)) (q_Rl D rr (va_A (wX2_unit cI cJ cZ cS a_t a_bytes v_length v_place v_fault v_teller v_word v_bytes) sz) ((fun k : Int32 × Int32 => (wX2_unit cI cJ cZ cS a_t a_bytes v_length k.1 k.2 v_teller v_word v_bytes)) kk')) 0 0 (va_A (wX2_unit cI cJ cZ cS a_t a_bytes v_length v_place v_fault v_teller v_word v_bytes) sz)) (D : va_G) (cI cJ cZ cS : ClassId) (tb : Nat) (a_t a_bytes : Nat) (sz : Nat) (v_length : Int32) (v_place : Int32) (v_fault : Int32) (v_teller : Int32) (v_word : Int32) (v_bytes : Nat → Int32) (x1 : Int32) (rr : Int64) (kk' : Int32 × Int32) (hf : fX2_allOf gX2_unit v_length v_place v_fault v_teller v_word v_bytes x1 = some (rr, kk')) : Met l yX2_allOf (Cond.code yX2_allOf cX2_allOf 5 (some .long) :: wA) (rX2_allOf dd) (q_Pre D cI cJ cZ cS tb [.ref a_t, .int x1] sz (wX2_allOf cI cJ cZ cS a_t a_bytes v_length v_place v_fault v_teller v_word v_bytes)) (q_Rl D rr (va_A (wX2_allOf cI cJ cZ cS a_t a_bytes v_length v_place v_fault v_teller v_word v_bytes) sz) ((fun k : Int32 × Int32 => (wX2_allOf cI cJ cZ cS a_t a_bytes v_length k.1 k.2 v_teller v_word v_bytes)) kk')) 0 0 (va_A (wX2_allOf cI cJ cZ cS a_t a_bytes v_length v_place v_fault v_teller v_word v_bytes) sz) := by
  refine q_enter (Qf := fun A => (q_Rl D rr A ((fun k : Int32 × Int32 => (wX2_allOf cI cJ cZ cS a_t a_bytes v_length k.1 k.2 v_teller v_word v_bytes)) kk'))) (by decide) rfl (Nat.le_of_ble_eq_true rfl) ?_
  intro p e s m below meth c A ls fx hname h hl
  have hx := fx.1
  have hb := fx.2.1
  have hl : lv_has ls 5 [(0, .ref a_t), (1, .int x1)] := hl
  generalize h9 : s.heap = H at h ⊢
  clear h9
  generalize h9 : ([] : List Loc) = locs at h ⊢
  clear h9
  unfold fX2_allOf at hf
  refine lv_aload_n hx hb dX2_allOf_0 rfl (lv_at hl 0 rfl) ?_
  refine lv_iload_n hx hb dX2_allOf_1 rfl (lv_at hl 1 rfl) ?_
  obtain ⟨r7, k7, hg, hf⟩ := bR_inv hf
  refine q_cl (rest := []) (ws' := (wX2_allOf cI cJ cZ cS a_t a_bytes v_length k7.1 k7.2 v_teller v_word v_bytes)) (w1 := (wX2_unit cI cJ cZ cS a_t a_bytes v_length k7.1 k7.2 v_teller v_word v_bytes)) fx h [0, 1] rfl rfl rfl rfl (q_runV fx h hl.1 [0, 1] rfl rfl (hgX2_unit D cI cJ cZ cS tb a_t a_bytes H.size v_length v_place v_fault v_teller v_word v_bytes x1 r7 k7 hg) mvX2_unit k_286 ⟨rfl, rfl⟩ (room_X2_allOf_X2_unit dd) rfl rfl rfl rfl (Nat.le_of_ble_eq_true rfl) dX2_allOf_2 ⟨Nat.le_of_ble_eq_true rfl, Nat.le_of_ble_eq_true rfl⟩) (fun H locs h => ?_)
  refine lv_lstore_n (lv' := [(2, .long r7), (0, .ref a_t), (1, .int x1)]) hx hb dX2_allOf_5 rfl hl (by decide) rfl (fun ls hl => ?_)
  refine lv_iconst (v := 0) hx hb dX2_allOf_6 (by decide) ?_
  refine lv_istore (lv' := [(4, .int 0), (2, .long r7), (0, .ref a_t), (1, .int x1)]) hx hb dX2_allOf_7 hl (by decide) rfl (fun ls hl => ?_)
  exact EX2_allOf_9 hgX2_unit fx qF h (lv_sub hl [2, 3, 1, 0] rfl) hf
/-! X2_anyOf -/
def fX2_anyOf_9 (gX2_allOf : Int32 → Int32 → Int32 → Int32 → Int32 → (Nat → Int32) → Int32 → Option (Int64 × Int32 × Int32)) (v_length : Int32) (v_teller : Int32) (v_word : Int32) (v_bytes : Nat → Int32) (ag9 : Int32 → Int32 → Int32 → Int64 → Int32 → Option (Int64 × Int32 × Int32)) (v_place : Int32) (v_fault : Int32) (y1 : Int32) (y2 : Int64) (y4 : Int32) : Option (Int64 × Int32 × Int32) :=
  (if (60 : Int32) ≤ y4 then (
  some (y2, (v_place, v_fault)))
  else (
  bR (fX2_passes v_length v_place v_fault v_bytes 124) (fun r2 k2 =>
  (if r2 = 0 then (
  some (y2, (k2, v_fault)))
  else (
  bR (gX2_allOf v_length k2 v_fault v_teller v_word v_bytes y1) (fun r4 k4 =>
  nm (y2 ||| r4) (fun u5 =>
  nm (y4 + 1) (fun u6 =>
  ag9 k4.1 k4.2 y1 u5 u6))))))))
set_option maxRecDepth 100000 in
set_option maxHeartbeats 4000000 in
theorem LX2_anyOf_9 {p : Program} {l : Launch} {e : Env} {s : State} {m : MethodId} {args : Array Value} {below : List Frame} {meth : Method} {c : Code} {D : va_G} {cI cJ cZ cS : ClassId} {tb : Nat} {A : Nat → Prop} {a_t a_bytes : Nat} {v_length : Int32} {v_teller : Int32} {v_word : Int32} {v_bytes : Nat → Int32} {rr : Int64} {kk' : Int32 × Int32} {dd : Nat} {gX2_allOf : Int32 → Int32 → Int32 → Int32 → Int32 → (Nat → Int32) → Int32 → Option (Int64 × Int32 × Int32)} (hgX2_allOf : ∀ (D : va_G) (cI cJ cZ cS : ClassId) (tb : Nat) (a_t a_bytes : Nat) (sz : Nat) (v_length : Int32) (v_place : Int32) (v_fault : Int32) (v_teller : Int32) (v_word : Int32) (v_bytes : Nat → Int32) (x1 : Int32) (rr : Int64) (kk' : Int32 × Int32) (hf : gX2_allOf v_length v_place v_fault v_teller v_word v_bytes x1 = some (rr, kk')), Met l yX2_allOf (Cond.code yX2_allOf cX2_allOf 5 (some .long) :: wA) (rX2_allOf dd) (q_Pre D cI cJ cZ cS tb [.ref a_t, .int x1] sz (wX2_allOf cI cJ cZ cS a_t a_bytes v_length v_place v_fault v_teller v_word v_bytes)) (q_Rl D rr (va_A (wX2_allOf cI cJ cZ cS a_t a_bytes v_length v_place v_fault v_teller v_word v_bytes) sz) ((fun k : Int32 × Int32 => (wX2_allOf cI cJ cZ cS a_t a_bytes v_length k.1 k.2 v_teller v_word v_bytes)) kk')) 0 0 (va_A (wX2_allOf cI cJ cZ cS a_t a_bytes v_length v_place v_fault v_teller v_word v_bytes) sz)) (fx : q_Fx p s m args meth c cX2_anyOf 5 RX2 (some .long) D cI cJ cZ cS tb A) {ag9 : Int32 → Int32 → Int32 → Int64 → Int32 → Option (Int64 × Int32 × Int32)} (hag9 : ∀ {v_place : Int32} {v_fault : Int32} {y1 : Int32} {y2 : Int64} {y4 : Int32} {H : Heap} {locs : List Loc} {ls : Array Slot}, q_H D A s (wX2_anyOf cI cJ cZ cS a_t a_bytes v_length v_place v_fault v_teller v_word v_bytes) H locs → lv_has ls 5 [(0, .ref a_t), (1, .int y1), (2, .long y2), (4, .int y4)] → ag9 v_place v_fault y1 y2 y4 = some (rr, kk') → W p l e (rX2_anyOf dd) s m args below meth c H locs 0 0 (MQ below (q_Rl D rr A ((fun k : Int32 × Int32 => (wX2_anyOf cI cJ cZ cS a_t a_bytes v_length k.1 k.2 v_teller v_word v_bytes)) kk')) args s 0 0 A) (F0 m 9 ls [])) : ∀ {v_place : Int32} {v_fault : Int32} {y1 : Int32} {y2 : Int64} {y4 : Int32} {H : Heap} {locs : List Loc} {ls : Array Slot}, q_H D A s (wX2_anyOf cI cJ cZ cS a_t a_bytes v_length v_place v_fault v_teller v_word v_bytes) H locs → lv_has ls 5 [(0, .ref a_t), (1, .int y1), (2, .long y2), (4, .int y4)] → fX2_anyOf_9 gX2_allOf v_length v_teller v_word v_bytes ag9 v_place v_fault y1 y2 y4 = some (rr, kk') → W p l e (rX2_anyOf dd) s m args below meth c H locs 0 0 (MQ below (q_Rl D rr A ((fun k : Int32 × Int32 => (wX2_anyOf cI cJ cZ cS a_t a_bytes v_length k.1 k.2 v_teller v_word v_bytes)) kk')) args s 0 0 A) (F0 m 9 ls []) := by
  intro v_place v_fault y1 y2 y4 H locs ls h hl hf
  have hx := fx.1
  have hb := fx.2.1
  unfold fX2_anyOf_9 at hf
  refine lv_iload hx hb dX2_anyOf_9 (lv_at hl 3 rfl) ?_
  refine lv_bipush (v := 60) hx hb dX2_anyOf_11 (by decide) ?_
  refine lv_icmp_ge (tgt := 39) hx hb dX2_anyOf_13 (by decide) (fun c1 => ?_) (fun c1 => ?_)
  · have hf := it_t c1 hf
    refine lv_lload_n hx hb dX2_anyOf_39 rfl (lv_at hl 2 rfl) ?_
    exact q_retl (fun k : Int32 × Int32 => (wX2_anyOf cI cJ cZ cS a_t a_bytes v_length k.1 k.2 v_teller v_word v_bytes)) fx hf h dX2_anyOf_40
  have hf := it_f c1 hf
  refine lv_aload_n hx hb dX2_anyOf_16 rfl (lv_at hl 0 rfl) ?_
  refine lv_bipush (v := 124) hx hb dX2_anyOf_17 (by decide) ?_
  obtain ⟨r2, k2, hg, hf⟩ := bR_inv hf
  refine q_ci (rest := []) (ws' := (wX2_anyOf cI cJ cZ cS a_t a_bytes v_length k2 v_fault v_teller v_word v_bytes)) (w1 := (wX2_passes cI cJ cZ cS a_t a_bytes v_length k2 v_fault v_teller v_word v_bytes)) fx h [0, 1] rfl rfl rfl rfl (q_runV fx h hl.1 [0, 1] rfl rfl (tX2_passes l D cI cJ cZ cS tb a_t a_bytes H.size v_length v_place v_fault v_teller v_word v_bytes 124 r2 k2 hg) mvX2_passes k_304 ⟨rfl, rfl⟩ (room_X2_anyOf_X2_passes dd) rfl rfl rfl rfl (Nat.le_of_ble_eq_true rfl) dX2_anyOf_19 ⟨Nat.le_of_ble_eq_true rfl, Nat.le_of_ble_eq_true rfl⟩) (fun H locs h => ?_)
  refine lv_if_eq (tgt := 39) hx hb dX2_anyOf_22 (by decide) (fun c3 => ?_) (fun c3 => ?_)
  · have hf := it_t c3 hf
    refine lv_lload_n hx hb dX2_anyOf_39 rfl (lv_at hl 2 rfl) ?_
    exact q_retl (fun k : Int32 × Int32 => (wX2_anyOf cI cJ cZ cS a_t a_bytes v_length k.1 k.2 v_teller v_word v_bytes)) fx hf h dX2_anyOf_40
  have hf := it_f c3 hf
  refine lv_lload_n hx hb dX2_anyOf_25 rfl (lv_at hl 2 rfl) ?_
  refine lv_aload_n hx hb dX2_anyOf_26 rfl (lv_at hl 0 rfl) ?_
  refine lv_iload_n hx hb dX2_anyOf_27 rfl (lv_at hl 1 rfl) ?_
  obtain ⟨r4, k4, hg, hf⟩ := bR_inv hf
  refine q_cl (rest := [.long y2]) (ws' := (wX2_anyOf cI cJ cZ cS a_t a_bytes v_length k4.1 k4.2 v_teller v_word v_bytes)) (w1 := (wX2_allOf cI cJ cZ cS a_t a_bytes v_length k4.1 k4.2 v_teller v_word v_bytes)) fx h [0, 1] rfl rfl rfl rfl (q_runV fx h hl.1 [0, 1] rfl rfl (hgX2_allOf D cI cJ cZ cS tb a_t a_bytes H.size v_length k2 v_fault v_teller v_word v_bytes y1 r4 k4 hg) mvX2_allOf k_282 ⟨rfl, rfl⟩ (room_X2_anyOf_X2_allOf dd) rfl rfl rfl rfl (Nat.le_of_ble_eq_true rfl) dX2_anyOf_28 ⟨Nat.le_of_ble_eq_true rfl, Nat.le_of_ble_eq_true rfl⟩) (fun H locs h => ?_)
  refine lv_lor hx hb dX2_anyOf_31 ?_
  obtain ⟨u5, eu5, hf⟩ := nm_inv hf
  refine lv_eql eu5 ?_
  refine lv_lstore_n (lv' := [(2, .long u5), (0, .ref a_t), (1, .int y1), (4, .int y4)]) hx hb dX2_anyOf_32 rfl hl (by decide) rfl (fun ls hl => ?_)
  obtain ⟨u6, eu6, hf⟩ := nm_inv hf
  refine lv_iinc (v := u6) (lv' := [(4, .int u6), (2, .long u5), (0, .ref a_t), (1, .int y1)]) hx hb dX2_anyOf_33 hl (k := 3) rfl (by rw [eu6]; rfl) (by decide) rfl (fun ls hl => ?_)
  refine lv_goto (tgt := 9) hx hb dX2_anyOf_36 (by decide) ?_
  exact hag9 h (lv_sub hl [2, 3, 1, 0] rfl) hf
set_option maxRecDepth 100000 in
theorem EX2_anyOf_9 {p : Program} {l : Launch} {e : Env} {s : State} {m : MethodId} {args : Array Value} {below : List Frame} {meth : Method} {c : Code} {D : va_G} {cI cJ cZ cS : ClassId} {tb : Nat} {A : Nat → Prop} {a_t a_bytes : Nat} {v_length : Int32} {v_teller : Int32} {v_word : Int32} {v_bytes : Nat → Int32} {rr : Int64} {kk' : Int32 × Int32} {dd : Nat} {gX2_allOf : Int32 → Int32 → Int32 → Int32 → Int32 → (Nat → Int32) → Int32 → Option (Int64 × Int32 × Int32)} (hgX2_allOf : ∀ (D : va_G) (cI cJ cZ cS : ClassId) (tb : Nat) (a_t a_bytes : Nat) (sz : Nat) (v_length : Int32) (v_place : Int32) (v_fault : Int32) (v_teller : Int32) (v_word : Int32) (v_bytes : Nat → Int32) (x1 : Int32) (rr : Int64) (kk' : Int32 × Int32) (hf : gX2_allOf v_length v_place v_fault v_teller v_word v_bytes x1 = some (rr, kk')), Met l yX2_allOf (Cond.code yX2_allOf cX2_allOf 5 (some .long) :: wA) (rX2_allOf dd) (q_Pre D cI cJ cZ cS tb [.ref a_t, .int x1] sz (wX2_allOf cI cJ cZ cS a_t a_bytes v_length v_place v_fault v_teller v_word v_bytes)) (q_Rl D rr (va_A (wX2_allOf cI cJ cZ cS a_t a_bytes v_length v_place v_fault v_teller v_word v_bytes) sz) ((fun k : Int32 × Int32 => (wX2_allOf cI cJ cZ cS a_t a_bytes v_length k.1 k.2 v_teller v_word v_bytes)) kk')) 0 0 (va_A (wX2_allOf cI cJ cZ cS a_t a_bytes v_length v_place v_fault v_teller v_word v_bytes) sz)) (fx : q_Fx p s m args meth c cX2_anyOf 5 RX2 (some .long) D cI cJ cZ cS tb A) : ∀ (n : Nat), ∀ {v_place : Int32} {v_fault : Int32} {y1 : Int32} {y2 : Int64} {y4 : Int32} {H : Heap} {locs : List Loc} {ls : Array Slot}, q_H D A s (wX2_anyOf cI cJ cZ cS a_t a_bytes v_length v_place v_fault v_teller v_word v_bytes) H locs → lv_has ls 5 [(0, .ref a_t), (1, .int y1), (2, .long y2), (4, .int y4)] → ll5 (fX2_anyOf_9 gX2_allOf v_length v_teller v_word v_bytes) n v_place v_fault y1 y2 y4 = some (rr, kk') → W p l e (rX2_anyOf dd) s m args below meth c H locs 0 0 (MQ below (q_Rl D rr A ((fun k : Int32 × Int32 => (wX2_anyOf cI cJ cZ cS a_t a_bytes v_length k.1 k.2 v_teller v_word v_bytes)) kk')) args s 0 0 A) (F0 m 9 ls []) := by
  intro n
  induction n with
  | zero => intro v_place v_fault y1 y2 y4 H locs ls h hl hf; exact (ll5_z hf).elim
  | succ n ih => intro v_place v_fault y1 y2 y4 H locs ls h hl hf; exact LX2_anyOf_9 hgX2_allOf fx ih h hl (ll5_s hf)
def fX2_anyOf (gX2_allOf : Int32 → Int32 → Int32 → Int32 → Int32 → (Nat → Int32) → Int32 → Option (Int64 × Int32 × Int32)) (v_length : Int32) (v_place : Int32) (v_fault : Int32) (v_teller : Int32) (v_word : Int32) (v_bytes : Nat → Int32) (x1 : Int32) : Option (Int64 × Int32 × Int32) :=
  bR (gX2_allOf v_length v_place v_fault v_teller v_word v_bytes x1) (fun r7 k7 =>
  ll5 (fX2_anyOf_9 gX2_allOf v_length v_teller v_word v_bytes) qF k7.1 k7.2 x1 r7 0)
set_option maxRecDepth 100000 in
set_option maxHeartbeats 4000000 in
theorem uX2_anyOf (dd : Nat) (l : Launch) {gX2_allOf : Int32 → Int32 → Int32 → Int32 → Int32 → (Nat → Int32) → Int32 → Option (Int64 × Int32 × Int32)} (hgX2_allOf : ∀ (D : va_G) (cI cJ cZ cS : ClassId) (tb : Nat) (a_t a_bytes : Nat) (sz : Nat) (v_length : Int32) (v_place : Int32) (v_fault : Int32) (v_teller : Int32) (v_word : Int32) (v_bytes : Nat → Int32) (x1 : Int32) (rr : Int64) (kk' : Int32 × Int32) (hf : gX2_allOf v_length v_place v_fault v_teller v_word v_bytes x1 = some (rr, kk')), Met l yX2_allOf (Cond.code yX2_allOf cX2_allOf 5 (some .long) :: wA) (rX2_allOf dd) (q_Pre D cI cJ cZ cS tb [.ref a_t, .int x1] sz (wX2_allOf cI cJ cZ cS a_t a_bytes v_length v_place v_fault v_teller v_word v_bytes)) (q_Rl D rr (va_A (wX2_allOf cI cJ cZ cS a_t a_bytes v_length v_place v_fault v_teller v_word v_bytes) sz) ((fun k : Int32 × Int32 => (wX2_allOf cI cJ cZ cS a_t a_bytes v_length k.1 k.2 v_teller v_word v_bytes)) kk')) 0 0 (va_A (wX2_allOf cI cJ cZ cS a_t a_bytes v_length v_place v_fault v_teller v_word v_bytes) sz)) (D : va_G) (cI cJ cZ cS : ClassId) (tb : Nat) (a_t a_bytes : Nat) (sz : Nat) (v_length : Int32) (v_place : Int32) (v_fault : Int32) (v_teller : Int32) (v_word : Int32) (v_bytes : Nat → Int32) (x1 : Int32) (rr : Int64) (kk' : Int32 × Int32) (hf : fX2_anyOf gX2_allOf v_length v_place v_fault v_teller v_word v_bytes x1 = some (rr, kk')) : Met l yX2_anyOf (Cond.code yX2_anyOf cX2_anyOf 5 (some .long) :: wA) (rX2_anyOf dd) (q_Pre D cI cJ cZ cS tb [.ref a_t, .int x1] sz (wX2_anyOf cI cJ cZ cS a_t a_bytes v_length v_place v_fault v_teller v_word v_bytes)) (q_Rl D rr (va_A (wX2_anyOf cI cJ cZ cS a_t a_bytes v_length v_place v_fault v_teller v_word v_bytes) sz) ((fun k : Int32 × Int32 => (wX2_anyOf cI cJ cZ cS a_t a_bytes v_length k.1 k.2 v_teller v_word v_bytes)) kk')) 0 0 (va_A (wX2_anyOf cI cJ cZ cS a_t a_bytes v_length v_place v_fault v_teller v_word v_bytes) sz) := by
  refine q_enter (Qf := fun A => (q_Rl D rr A ((fun k : Int32 × Int32 => (wX2_anyOf cI cJ cZ cS a_t a_bytes v_length k.1 k.2 v_teller v_word v_bytes)) kk'))) (by decide) rfl (Nat.le_of_ble_eq_true rfl) ?_
  intro p e s m below meth c A ls fx hname h hl
  have hx := fx.1
  have hb := fx.2.1
  have hl : lv_has ls 5 [(0, .ref a_t), (1, .int x1)] := hl
  generalize h9 : s.heap = H at h ⊢
  clear h9
  generalize h9 : ([] : List Loc) = locs at h ⊢
  clear h9
  unfold fX2_anyOf at hf
  refine lv_aload_n hx hb dX2_anyOf_0 rfl (lv_at hl 0 rfl) ?_
  refine lv_iload_n hx hb dX2_anyOf_1 rfl (lv_at hl 1 rfl) ?_
  obtain ⟨r7, k7, hg, hf⟩ := bR_inv hf
  refine q_cl (rest := []) (ws' := (wX2_anyOf cI cJ cZ cS a_t a_bytes v_length k7.1 k7.2 v_teller v_word v_bytes)) (w1 := (wX2_allOf cI cJ cZ cS a_t a_bytes v_length k7.1 k7.2 v_teller v_word v_bytes)) fx h [0, 1] rfl rfl rfl rfl (q_runV fx h hl.1 [0, 1] rfl rfl (hgX2_allOf D cI cJ cZ cS tb a_t a_bytes H.size v_length v_place v_fault v_teller v_word v_bytes x1 r7 k7 hg) mvX2_allOf k_282 ⟨rfl, rfl⟩ (room_X2_anyOf_X2_allOf dd) rfl rfl rfl rfl (Nat.le_of_ble_eq_true rfl) dX2_anyOf_2 ⟨Nat.le_of_ble_eq_true rfl, Nat.le_of_ble_eq_true rfl⟩) (fun H locs h => ?_)
  refine lv_lstore_n (lv' := [(2, .long r7), (0, .ref a_t), (1, .int x1)]) hx hb dX2_anyOf_5 rfl hl (by decide) rfl (fun ls hl => ?_)
  refine lv_iconst (v := 0) hx hb dX2_anyOf_6 (by decide) ?_
  refine lv_istore (lv' := [(4, .int 0), (2, .long r7), (0, .ref a_t), (1, .int x1)]) hx hb dX2_anyOf_7 hl (by decide) rfl (fun ls hl => ?_)
  exact EX2_anyOf_9 hgX2_allOf fx qF h (lv_sub hl [2, 3, 1, 0] rfl) hf
def dX2_unit : Nat → Int32 → Int32 → Int32 → Int32 → Int32 → (Nat → Int32) → Int32 → Option (Int64 × Int32 × Int32)
  | 0 => fun _ _ _ _ _ _ _ => none
  | d + 1 => fX2_unit (fX2_anyOf (fX2_allOf (dX2_unit d))) (dX2_unit d)
def dX2_allOf (d : Nat) : Int32 → Int32 → Int32 → Int32 → Int32 → (Nat → Int32) → Int32 → Option (Int64 × Int32 × Int32) := fX2_allOf (dX2_unit d)
def dX2_anyOf (d : Nat) : Int32 → Int32 → Int32 → Int32 → Int32 → (Nat → Int32) → Int32 → Option (Int64 × Int32 × Int32) := fX2_anyOf (dX2_allOf d)
theorem tX2_unit (dd : Nat) (l : Launch) : ∀ (D : va_G) (cI cJ cZ cS : ClassId) (tb : Nat) (a_t a_bytes : Nat) (sz : Nat) (v_length : Int32) (v_place : Int32) (v_fault : Int32) (v_teller : Int32) (v_word : Int32) (v_bytes : Nat → Int32) (x1 : Int32) (rr : Int64) (kk' : Int32 × Int32) (hf : dX2_unit dd v_length v_place v_fault v_teller v_word v_bytes x1 = some (rr, kk')), Met l yX2_unit (Cond.code yX2_unit cX2_unit 3 (some .long) :: wA) (rX2_unit dd) (q_Pre D cI cJ cZ cS tb [.ref a_t, .int x1] sz (wX2_unit cI cJ cZ cS a_t a_bytes v_length v_place v_fault v_teller v_word v_bytes)) (q_Rl D rr (va_A (wX2_unit cI cJ cZ cS a_t a_bytes v_length v_place v_fault v_teller v_word v_bytes) sz) ((fun k : Int32 × Int32 => (wX2_unit cI cJ cZ cS a_t a_bytes v_length k.1 k.2 v_teller v_word v_bytes)) kk')) 0 0 (va_A (wX2_unit cI cJ cZ cS a_t a_bytes v_length v_place v_fault v_teller v_word v_bytes) sz) := by
  induction dd with
  | zero => intro D cI cJ cZ cS tb a_t a_bytes sz v_length v_place v_fault v_teller v_word v_bytes x1 rr kk' hf; have h2 : (none : Option (Int64 × Int32 × Int32)) = some (rr, kk') := hf; cases h2
  | succ dd ih => exact uX2_unit dd l (uX2_anyOf dd l (uX2_allOf dd l ih)) ih
theorem tX2_allOf (dd : Nat) (l : Launch) : ∀ (D : va_G) (cI cJ cZ cS : ClassId) (tb : Nat) (a_t a_bytes : Nat) (sz : Nat) (v_length : Int32) (v_place : Int32) (v_fault : Int32) (v_teller : Int32) (v_word : Int32) (v_bytes : Nat → Int32) (x1 : Int32) (rr : Int64) (kk' : Int32 × Int32) (hf : dX2_allOf dd v_length v_place v_fault v_teller v_word v_bytes x1 = some (rr, kk')), Met l yX2_allOf (Cond.code yX2_allOf cX2_allOf 5 (some .long) :: wA) (rX2_allOf dd) (q_Pre D cI cJ cZ cS tb [.ref a_t, .int x1] sz (wX2_allOf cI cJ cZ cS a_t a_bytes v_length v_place v_fault v_teller v_word v_bytes)) (q_Rl D rr (va_A (wX2_allOf cI cJ cZ cS a_t a_bytes v_length v_place v_fault v_teller v_word v_bytes) sz) ((fun k : Int32 × Int32 => (wX2_allOf cI cJ cZ cS a_t a_bytes v_length k.1 k.2 v_teller v_word v_bytes)) kk')) 0 0 (va_A (wX2_allOf cI cJ cZ cS a_t a_bytes v_length v_place v_fault v_teller v_word v_bytes) sz) := uX2_allOf dd l (tX2_unit dd l)
theorem tX2_anyOf (dd : Nat) (l : Launch) : ∀ (D : va_G) (cI cJ cZ cS : ClassId) (tb : Nat) (a_t a_bytes : Nat) (sz : Nat) (v_length : Int32) (v_place : Int32) (v_fault : Int32) (v_teller : Int32) (v_word : Int32) (v_bytes : Nat → Int32) (x1 : Int32) (rr : Int64) (kk' : Int32 × Int32) (hf : dX2_anyOf dd v_length v_place v_fault v_teller v_word v_bytes x1 = some (rr, kk')), Met l yX2_anyOf (Cond.code yX2_anyOf cX2_anyOf 5 (some .long) :: wA) (rX2_anyOf dd) (q_Pre D cI cJ cZ cS tb [.ref a_t, .int x1] sz (wX2_anyOf cI cJ cZ cS a_t a_bytes v_length v_place v_fault v_teller v_word v_bytes)) (q_Rl D rr (va_A (wX2_anyOf cI cJ cZ cS a_t a_bytes v_length v_place v_fault v_teller v_word v_bytes) sz) ((fun k : Int32 × Int32 => (wX2_anyOf cI cJ cZ cS a_t a_bytes v_length k.1 k.2 v_teller v_word v_bytes)) kk')) 0 0 (va_A (wX2_anyOf cI cJ cZ cS a_t a_bytes v_length v_place v_fault v_teller v_word v_bytes) sz) := uX2_anyOf dd l (tX2_allOf dd l)
/-! X2_holdsBy -/
abbrev wX2_holdsBy (cI cJ cZ cS : ClassId) (a_t a_bytes : Nat) (v_length : Int32) (v_place : Int32) (v_fault : Int32) (v_teller : Int32) (v_word : Int32) (v_bytes : Nat → Int32) : va_W := [(a_t, .inr (2, [.ref a_bytes, .int v_length, .int v_place, .int v_fault, .int v_teller, .int v_word])), (a_bytes, .inl (cI, 60, .inl v_bytes))]
abbrev rX2_holdsBy : Room := { frames := 30, cells := 0, slots := 0, locals := 874 }
def fX2_holdsBy (v_length : Int32) (v_place : Int32) (v_fault : Int32) (v_teller : Int32) (v_word : Int32) (v_bytes : Nat → Int32) (x1 : Int32) (x2 : Int32) : Option (Int64 × Int32 × Int32 × Int32 × Int32) :=
  bR (dX2_anyOf 8 v_length 0 (-1) x1 x2 v_bytes 0) (fun r1 k1 =>
  (if v_length ≤ k1.1 then (
  some (r1, (k1.1, k1.2, x1, x2)))
  else (
  bR (fX2_fail k1.1 k1.2) (fun r3 k3 =>
  some (r1, (k1.1, k3, x1, x2))))))
set_option maxRecDepth 100000 in
set_option maxHeartbeats 4000000 in
theorem tX2_holdsBy (l : Launch) (D : va_G) (cI cJ cZ cS : ClassId) (tb : Nat) (a_t a_bytes : Nat) (sz : Nat) (v_length : Int32) (v_place : Int32) (v_fault : Int32) (v_teller : Int32) (v_word : Int32) (v_bytes : Nat → Int32) (x1 : Int32) (x2 : Int32) (rr : Int64) (kk' : Int32 × Int32 × Int32 × Int32) (hf : fX2_holdsBy v_length v_place v_fault v_teller v_word v_bytes x1 x2 = some (rr, kk')) : Met l yX2_holdsBy (Cond.code yX2_holdsBy cX2_holdsBy 5 (some .long) :: wA) rX2_holdsBy (q_Pre D cI cJ cZ cS tb [.ref a_t, .int x1, .int x2] sz (wX2_holdsBy cI cJ cZ cS a_t a_bytes v_length v_place v_fault v_teller v_word v_bytes)) (q_Rl D rr (va_A (wX2_holdsBy cI cJ cZ cS a_t a_bytes v_length v_place v_fault v_teller v_word v_bytes) sz) ((fun k : Int32 × Int32 × Int32 × Int32 => (wX2_holdsBy cI cJ cZ cS a_t a_bytes v_length k.1 k.2.1 k.2.2.1 k.2.2.2 v_bytes)) kk')) 0 0 (va_A (wX2_holdsBy cI cJ cZ cS a_t a_bytes v_length v_place v_fault v_teller v_word v_bytes) sz) := by
  refine q_enter (Qf := fun A => (q_Rl D rr A ((fun k : Int32 × Int32 × Int32 × Int32 => (wX2_holdsBy cI cJ cZ cS a_t a_bytes v_length k.1 k.2.1 k.2.2.1 k.2.2.2 v_bytes)) kk'))) (by decide) rfl (Nat.le_of_ble_eq_true rfl) ?_
  intro p e s m below meth c A ls fx hname h hl
  have hx := fx.1
  have hb := fx.2.1
  have hl : lv_has ls 5 [(0, .ref a_t), (1, .int x1), (2, .int x2)] := hl
  generalize h9 : s.heap = H at h ⊢
  clear h9
  generalize h9 : ([] : List Loc) = locs at h ⊢
  clear h9
  unfold fX2_holdsBy at hf
  refine lv_aload_n hx hb dX2_holdsBy_0 rfl (lv_at hl 0 rfl) ?_
  refine lv_iload_n hx hb dX2_holdsBy_1 rfl (lv_at hl 1 rfl) ?_
  refine q_put (v := .int x1) (ws' := (wX2_holdsBy cI cJ cZ cS a_t a_bytes v_length v_place v_fault x1 v_word v_bytes)) fx inX2 tyX2 tyX2_ok nmX2 h 0 rfl rfl 4 (by decide) k_123 rfl rfl rfl (Nat.le_of_ble_eq_true rfl) rfl dX2_holdsBy_2 (fun H locs h => ?_)
  refine lv_aload_n hx hb dX2_holdsBy_5 rfl (lv_at hl 0 rfl) ?_
  refine lv_iload_n hx hb dX2_holdsBy_6 rfl (lv_at hl 2 rfl) ?_
  refine q_put (v := .int x2) (ws' := (wX2_holdsBy cI cJ cZ cS a_t a_bytes v_length v_place v_fault x1 x2 v_bytes)) fx inX2 tyX2 tyX2_ok nmX2 h 0 rfl rfl 5 (by decide) k_124 rfl rfl rfl (Nat.le_of_ble_eq_true rfl) rfl dX2_holdsBy_7 (fun H locs h => ?_)
  refine lv_aload_n hx hb dX2_holdsBy_10 rfl (lv_at hl 0 rfl) ?_
  refine lv_iconst (v := 0) hx hb dX2_holdsBy_11 (by decide) ?_
  refine q_put (v := .int 0) (ws' := (wX2_holdsBy cI cJ cZ cS a_t a_bytes v_length 0 v_fault x1 x2 v_bytes)) fx inX2 tyX2 tyX2_ok nmX2 h 0 rfl rfl 2 (by decide) k_120 rfl rfl rfl (Nat.le_of_ble_eq_true rfl) rfl dX2_holdsBy_12 (fun H locs h => ?_)
  refine lv_aload_n hx hb dX2_holdsBy_15 rfl (lv_at hl 0 rfl) ?_
  refine lv_iconst (v := -1) hx hb dX2_holdsBy_16 (by decide) ?_
  refine q_put (v := .int (-1)) (ws' := (wX2_holdsBy cI cJ cZ cS a_t a_bytes v_length 0 (-1) x1 x2 v_bytes)) fx inX2 tyX2 tyX2_ok nmX2 h 0 rfl rfl 3 (by decide) k_121 rfl rfl rfl (Nat.le_of_ble_eq_true rfl) rfl dX2_holdsBy_17 (fun H locs h => ?_)
  refine lv_aload_n hx hb dX2_holdsBy_20 rfl (lv_at hl 0 rfl) ?_
  refine lv_iconst (v := 0) hx hb dX2_holdsBy_21 (by decide) ?_
  obtain ⟨r1, k1, hg, hf⟩ := bR_inv hf
  refine q_cl (rest := []) (ws' := (wX2_holdsBy cI cJ cZ cS a_t a_bytes v_length k1.1 k1.2 x1 x2 v_bytes)) (w1 := (wX2_anyOf cI cJ cZ cS a_t a_bytes v_length k1.1 k1.2 x1 x2 v_bytes)) fx h [0, 1] rfl rfl rfl rfl (q_runV fx h hl.1 [0, 1] rfl rfl (tX2_anyOf 8 l D cI cJ cZ cS tb a_t a_bytes H.size v_length 0 (-1) x1 x2 v_bytes 0 r1 k1 hg) mvX2_anyOf k_278 ⟨rfl, rfl⟩ ⟨Nat.le_of_ble_eq_true rfl, Nat.le_of_ble_eq_true rfl⟩ rfl rfl rfl rfl (Nat.le_of_ble_eq_true rfl) dX2_holdsBy_22 ⟨Nat.le_of_ble_eq_true rfl, Nat.le_of_ble_eq_true rfl⟩) (fun H locs h => ?_)
  refine lv_lstore_n (lv' := [(3, .long r1), (0, .ref a_t), (1, .int x1), (2, .int x2)]) hx hb dX2_holdsBy_25 rfl hl (by decide) rfl (fun ls hl => ?_)
  refine lv_aload_n hx hb dX2_holdsBy_26 rfl (lv_at hl 1 rfl) ?_
  refine q_get (v := .int k1.1) fx inX2 h 0 rfl rfl 2 (by decide) k_120 rfl dX2_holdsBy_27 ?_
  refine lv_aload_n hx hb dX2_holdsBy_30 rfl (lv_at hl 1 rfl) ?_
  refine q_get (v := .int v_length) fx inX2 h 0 rfl rfl 1 (by decide) k_118 rfl dX2_holdsBy_31 ?_
  refine lv_icmp_ge (tgt := 42) hx hb dX2_holdsBy_34 (by decide) (fun c2 => ?_) (fun c2 => ?_)
  · have hf := it_t c2 hf
    refine lv_lload_n hx hb dX2_holdsBy_42 rfl (lv_at hl 0 rfl) ?_
    exact q_retl (fun k : Int32 × Int32 × Int32 × Int32 => (wX2_holdsBy cI cJ cZ cS a_t a_bytes v_length k.1 k.2.1 k.2.2.1 k.2.2.2 v_bytes)) fx hf h dX2_holdsBy_43
  have hf := it_f c2 hf
  refine lv_aload_n hx hb dX2_holdsBy_37 rfl (lv_at hl 1 rfl) ?_
  obtain ⟨r3, k3, hg, hf⟩ := bR_inv hf
  refine q_cl (rest := []) (ws' := (wX2_holdsBy cI cJ cZ cS a_t a_bytes v_length k1.1 k3 x1 x2 v_bytes)) (w1 := (wX2_fail cI cJ cZ cS a_t a_bytes v_length k1.1 k3 x1 x2)) fx h [0] rfl rfl rfl rfl (q_runV fx h hl.1 [0] rfl rfl (tX2_fail l D cI cJ cZ cS tb a_t a_bytes H.size v_length k1.1 k1.2 x1 x2 r3 k3 hg) mvX2_fail k_313 ⟨rfl, rfl⟩ ⟨Nat.le_of_ble_eq_true rfl, Nat.le_of_ble_eq_true rfl⟩ rfl rfl rfl rfl (Nat.le_of_ble_eq_true rfl) dX2_holdsBy_38 ⟨Nat.le_of_ble_eq_true rfl, Nat.le_of_ble_eq_true rfl⟩) (fun H locs h => ?_)
  refine lv_pop2_2 hx hb dX2_holdsBy_41 rfl ?_
  refine lv_lload_n hx hb dX2_holdsBy_42 rfl (lv_at hl 0 rfl) ?_
  exact q_retl (fun k : Int32 × Int32 × Int32 × Int32 => (wX2_holdsBy cI cJ cZ cS a_t a_bytes v_length k.1 k.2.1 k.2.2.1 k.2.2.2 v_bytes)) fx hf h dX2_holdsBy_43
/-! X0_tell -/
abbrev wX0_tell (cI cJ cZ cS : ClassId) (a_t a_kinds a_costs a_terms a_known : Nat) (v_size : Int32) (v_list : Int32) (v_told : Int32) (v_terms : Nat → Int64) (v_known : Nat → Int32) : va_W := [(a_t, .inr (0, [.int v_size, .int v_list, .int v_told, .ref a_kinds, .ref a_costs, .ref a_terms, .ref a_known])), (a_terms, .inl (cJ, 32, .inr (.inl v_terms))), (a_known, .inl (cI, 256, .inl v_known))]
abbrev rX0_tell : Room := { frames := 1, cells := 0, slots := 0, locals := 23 }
def fX0_tell (v_told : Int32) (v_terms : Nat → Int64) (v_known : Nat → Int32) (x1 : Int32) (x2 : Int32) (x3 : Int64) : Option (Int32 × (Nat → Int64) × (Nat → Int32)) :=
  gIn ((x1 * 4) + x2) 32 (
  nm (v_told ||| (jshl 1 x1)) (fun u2 =>
  bV (fJ7_fill_53178 256 v_known (-1)) (fun k3 =>
  some (u2, (vp_updL v_terms ((x1 * 4) + x2).toNatClampNeg x3), k3))))
set_option maxRecDepth 100000 in
set_option maxHeartbeats 4000000 in
theorem tX0_tell (l : Launch) (D : va_G) (cI cJ cZ cS : ClassId) (tb : Nat) (a_t a_kinds a_costs a_terms a_known : Nat) (sz : Nat) (v_size : Int32) (v_list : Int32) (v_told : Int32) (v_terms : Nat → Int64) (v_known : Nat → Int32) (x1 : Int32) (x2 : Int32) (x3 : Int64) (kk' : Int32 × (Nat → Int64) × (Nat → Int32)) (hf : fX0_tell v_told v_terms v_known x1 x2 x3 = some kk') : Met l yX0_tell (Cond.code yX0_tell cX0_tell 5 none :: wA) rX0_tell (q_Pre D cI cJ cZ cS tb [.ref a_t, .int x1, .int x2, .long x3] sz (wX0_tell cI cJ cZ cS a_t a_kinds a_costs a_terms a_known v_size v_list v_told v_terms v_known)) (q_Rv D (va_A (wX0_tell cI cJ cZ cS a_t a_kinds a_costs a_terms a_known v_size v_list v_told v_terms v_known) sz) ((fun k : Int32 × (Nat → Int64) × (Nat → Int32) => (wX0_tell cI cJ cZ cS a_t a_kinds a_costs a_terms a_known v_size v_list k.1 k.2.1 k.2.2)) kk')) 0 0 (va_A (wX0_tell cI cJ cZ cS a_t a_kinds a_costs a_terms a_known v_size v_list v_told v_terms v_known) sz) := by
  refine q_enter (Qf := fun A => (q_Rv D A ((fun k : Int32 × (Nat → Int64) × (Nat → Int32) => (wX0_tell cI cJ cZ cS a_t a_kinds a_costs a_terms a_known v_size v_list k.1 k.2.1 k.2.2)) kk'))) (by decide) rfl (Nat.le_of_ble_eq_true rfl) ?_
  intro p e s m below meth c A ls fx hname h hl
  have hx := fx.1
  have hb := fx.2.1
  have hl : lv_has ls 5 [(0, .ref a_t), (1, .int x1), (2, .int x2), (3, .long x3)] := hl
  generalize h9 : s.heap = H at h ⊢
  clear h9
  generalize h9 : ([] : List Loc) = locs at h ⊢
  clear h9
  unfold fX0_tell at hf
  refine lv_aload_n hx hb dX0_tell_0 rfl (lv_at hl 0 rfl) ?_
  refine q_get (v := .ref a_terms) fx inX0 h 0 rfl rfl 5 (by decide) k_92 rfl dX0_tell_1 ?_
  refine lv_iload_n hx hb dX0_tell_4 rfl (lv_at hl 1 rfl) ?_
  refine lv_iconst (v := 4) hx hb dX0_tell_5 (by decide) ?_
  refine lv_imul hx hb dX0_tell_6 ?_
  refine lv_iload_n hx hb dX0_tell_7 rfl (lv_at hl 2 rfl) ?_
  refine lv_iadd hx hb dX0_tell_8 ?_
  refine lv_lload_n hx hb dX0_tell_9 rfl (lv_at hl 3 rfl) ?_
  obtain ⟨i1, hf⟩ := gIn_inv hf
  refine q_last (ws' := (wX0_tell cI cJ cZ cS a_t a_kinds a_costs a_terms a_known v_size v_list v_told (vp_updL v_terms ((x1 * 4) + x2).toNatClampNeg x3) v_known)) fx h 1 rfl i1 rfl dX0_tell_10 (fun H locs h => ?_)
  refine lv_aload_n hx hb dX0_tell_11 rfl (lv_at hl 0 rfl) ?_
  refine lv_dup hx hb dX0_tell_12 rfl ?_
  refine q_get (v := .int v_told) fx inX0 h 0 rfl rfl 2 (by decide) k_86 rfl dX0_tell_13 ?_
  refine lv_iconst (v := 1) hx hb dX0_tell_16 (by decide) ?_
  refine lv_iload_n hx hb dX0_tell_17 rfl (lv_at hl 1 rfl) ?_
  refine lv_ishl hx hb dX0_tell_18 ?_
  refine lv_ior hx hb dX0_tell_19 ?_
  obtain ⟨u2, eu2, hf⟩ := nm_inv hf
  refine lv_eqi eu2 ?_
  refine q_put (v := .int u2) (ws' := (wX0_tell cI cJ cZ cS a_t a_kinds a_costs a_terms a_known v_size v_list u2 (vp_updL v_terms ((x1 * 4) + x2).toNatClampNeg x3) v_known)) fx inX0 tyX0 tyX0_ok nmX0 h 0 rfl rfl 2 (by decide) k_86 rfl rfl rfl (Nat.le_of_ble_eq_true rfl) rfl dX0_tell_20 (fun H locs h => ?_)
  refine lv_aload_n hx hb dX0_tell_23 rfl (lv_at hl 0 rfl) ?_
  refine q_get (v := .ref a_known) fx inX0 h 0 rfl rfl 6 (by decide) k_93 rfl dX0_tell_24 ?_
  refine lv_iconst (v := -1) hx hb dX0_tell_27 (by decide) ?_
  obtain ⟨k3, hg, hf⟩ := bV_inv hf
  refine q_cv (rest := []) (ws' := (wX0_tell cI cJ cZ cS a_t a_kinds a_costs a_terms a_known v_size v_list u2 (vp_updL v_terms ((x1 * 4) + x2).toNatClampNeg x3) k3)) (w1 := (wJ7_fill_53178 cI cJ cZ cS 256 a_known k3)) fx h [2] rfl rfl rfl rfl (q_runS fx h hl.1 [2] rfl rfl (tJ7_fill_53178 l D cI cJ cZ cS tb 256 a_known H.size v_known (-1) k3 hg) msJ7_fill_53178 k_77 ⟨rfl, rfl⟩ ⟨Nat.le_of_ble_eq_true rfl, Nat.le_of_ble_eq_true rfl⟩ rfl rfl (Nat.le_of_ble_eq_true rfl) dX0_tell_28 ⟨Nat.le_of_ble_eq_true rfl, Nat.le_of_ble_eq_true rfl⟩) (fun H locs h => ?_)
  exact q_retv (fun k : Int32 × (Nat → Int64) × (Nat → Int32) => (wX0_tell cI cJ cZ cS a_t a_kinds a_costs a_terms a_known v_size v_list k.1 k.2.1 k.2.2)) fx hf h dX0_tell_31
end
section
/-! X4_term -/
abbrev wX4_term (cI cJ cZ cS : ClassId) (a_t a_party a_party_kinds a_party_costs a_party_terms a_party_known a_kept a_tape a_tape_bytes a_telephone a_sheets a_findings : Nat) (v_isKept : Int32) (v_party_size : Int32) (v_party_list : Int32) (v_party_told : Int32) (v_party_terms : Nat → Int64) (v_party_known : Nat → Int32) (v_tape_length : Int32) (v_tape_place : Int32) (v_tape_fault : Int32) (v_tape_teller : Int32) (v_tape_word : Int32) (v_tape_bytes : Nat → Int32) (v_findings : Nat → Int32) : va_W := [(a_t, .inr (4, [.ref a_party, .ref a_kept, .int v_isKept, .ref a_tape, .ref a_telephone, .ref a_sheets, .ref a_findings])), (a_party, .inr (0, [.int v_party_size, .int v_party_list, .int v_party_told, .ref a_party_kinds, .ref a_party_costs, .ref a_party_terms, .ref a_party_known])), (a_party_terms, .inl (cJ, 32, .inr (.inl v_party_terms))), (a_party_known, .inl (cI, 256, .inl v_party_known)), (a_tape, .inr (2, [.ref a_tape_bytes, .int v_tape_length, .int v_tape_place, .int v_tape_fault, .int v_tape_teller, .int v_tape_word])), (a_tape_bytes, .inl (cI, 60, .inl v_tape_bytes)), (a_findings, .inl (cI, 7, .inl v_findings))]
abbrev rX4_term : Room := { frames := 31, cells := 0, slots := 0, locals := 898 }
def fX4_term_87 (v_party_size : Int32) (v_tape_bytes : Nat → Int32) (v_party_told : Int32) (v_party_terms : Nat → Int64) (v_party_known : Nat → Int32) (v_tape_length : Int32) (v_tape_place : Int32) (v_tape_fault : Int32) (v_tape_teller : Int32) (v_tape_word : Int32) (v_findings : Nat → Int32) (y4 : Int32) : Option (Int32 × Int32 × (Nat → Int64) × (Nat → Int32) × Int32 × Int32 × Int32 × Int32 × Int32 × (Nat → Int32)) :=
  (if (0 : Int32) ≤ y4 then (
  some ((-1) - y4, (v_party_told, v_party_terms, v_party_known, 0, v_tape_place, v_tape_fault, v_tape_teller, v_tape_word, v_findings)))
  else (
  some (1, (v_party_told, v_party_terms, v_party_known, 0, v_tape_place, v_tape_fault, v_tape_teller, v_tape_word, v_findings))))
set_option maxRecDepth 100000 in
set_option maxHeartbeats 4000000 in
theorem LX4_term_87 {p : Program} {l : Launch} {e : Env} {s : State} {m : MethodId} {args : Array Value} {below : List Frame} {meth : Method} {c : Code} {D : va_G} {cI cJ cZ cS : ClassId} {tb : Nat} {A : Nat → Prop} {a_t a_party a_party_kinds a_party_costs a_party_terms a_party_known a_kept a_tape a_tape_bytes a_telephone a_sheets a_findings : Nat} {v_isKept : Int32} {v_party_size : Int32} {v_party_list : Int32} {v_tape_bytes : Nat → Int32} {rr : Int32} {kk' : Int32 × (Nat → Int64) × (Nat → Int32) × Int32 × Int32 × Int32 × Int32 × Int32 × (Nat → Int32)} (fx : q_Fx p s m args meth c cX4_term 6 RX4 (some .int) D cI cJ cZ cS tb A) : ∀ {v_party_told : Int32} {v_party_terms : Nat → Int64} {v_party_known : Nat → Int32} {v_tape_length : Int32} {v_tape_place : Int32} {v_tape_fault : Int32} {v_tape_teller : Int32} {v_tape_word : Int32} {v_findings : Nat → Int32} {y4 : Int32} {H : Heap} {locs : List Loc} {ls : Array Slot}, q_H D A s (wX4_term cI cJ cZ cS a_t a_party a_party_kinds a_party_costs a_party_terms a_party_known a_kept a_tape a_tape_bytes a_telephone a_sheets a_findings v_isKept v_party_size v_party_list v_party_told v_party_terms v_party_known v_tape_length v_tape_place v_tape_fault v_tape_teller v_tape_word v_tape_bytes v_findings) H locs → lv_has ls 6 [(0, .ref a_t), (4, .int y4)] → fX4_term_87 v_party_size v_tape_bytes v_party_told v_party_terms v_party_known v_tape_length v_tape_place v_tape_fault v_tape_teller v_tape_word v_findings y4 = some (rr, kk') → W p l e rX4_term s m args below meth c H locs 0 0 (MQ below (q_Ri D rr A ((fun k : Int32 × (Nat → Int64) × (Nat → Int32) × Int32 × Int32 × Int32 × Int32 × Int32 × (Nat → Int32) => (wX4_term cI cJ cZ cS a_t a_party a_party_kinds a_party_costs a_party_terms a_party_known a_kept a_tape a_tape_bytes a_telephone a_sheets a_findings v_isKept v_party_size v_party_list k.1 k.2.1 k.2.2.1 k.2.2.2.1 k.2.2.2.2.1 k.2.2.2.2.2.1 k.2.2.2.2.2.2.1 k.2.2.2.2.2.2.2.1 v_tape_bytes k.2.2.2.2.2.2.2.2)) kk')) args s 0 0 A) (F0 m 87 ls []) := by
  intro v_party_told v_party_terms v_party_known v_tape_length v_tape_place v_tape_fault v_tape_teller v_tape_word v_findings y4 H locs ls h hl hf
  have hx := fx.1
  have hb := fx.2.1
  unfold fX4_term_87 at hf
  refine lv_aload_n hx hb dX4_term_87 rfl (lv_at hl 0 rfl) ?_
  refine q_get (v := .ref a_tape) fx inX4 h 0 rfl rfl 3 (by decide) k_177 rfl dX4_term_88 ?_
  refine lv_iconst (v := 0) hx hb dX4_term_91 (by decide) ?_
  refine q_putN (v := .int 0) (ws' := (wX4_term cI cJ cZ cS a_t a_party a_party_kinds a_party_costs a_party_terms a_party_known a_kept a_tape a_tape_bytes a_telephone a_sheets a_findings v_isKept v_party_size v_party_list v_party_told v_party_terms v_party_known 0 v_tape_place v_tape_fault v_tape_teller v_tape_word v_tape_bytes v_findings)) fx inX2 tyX2 tyX2_ok nmX2 h 4 rfl rfl 1 (by decide) nf_7 rfl rfl rfl (Nat.le_of_ble_eq_true rfl) rfl dX4_term_92 (fun H locs h => ?_)
  refine lv_iload hx hb dX4_term_95 (lv_at hl 1 rfl) ?_
  refine lv_if_ge (tgt := 104) hx hb dX4_term_97 (by decide) (fun c1 => ?_) (fun c1 => ?_)
  · have hf := it_t c1 hf
    refine lv_iconst (v := -1) hx hb dX4_term_104 (by decide) ?_
    refine lv_iload hx hb dX4_term_105 (lv_at hl 1 rfl) ?_
    refine lv_isub hx hb dX4_term_107 ?_
    exact q_reti (fun k : Int32 × (Nat → Int64) × (Nat → Int32) × Int32 × Int32 × Int32 × Int32 × Int32 × (Nat → Int32) => (wX4_term cI cJ cZ cS a_t a_party a_party_kinds a_party_costs a_party_terms a_party_known a_kept a_tape a_tape_bytes a_telephone a_sheets a_findings v_isKept v_party_size v_party_list k.1 k.2.1 k.2.2.1 k.2.2.2.1 k.2.2.2.2.1 k.2.2.2.2.2.1 k.2.2.2.2.2.2.1 k.2.2.2.2.2.2.2.1 v_tape_bytes k.2.2.2.2.2.2.2.2)) fx hf h dX4_term_108
  have hf := it_f c1 hf
  refine lv_iconst (v := 1) hx hb dX4_term_100 (by decide) ?_
  refine lv_goto (tgt := 108) hx hb dX4_term_101 (by decide) ?_
  exact q_reti (fun k : Int32 × (Nat → Int64) × (Nat → Int32) × Int32 × Int32 × Int32 × Int32 × Int32 × (Nat → Int32) => (wX4_term cI cJ cZ cS a_t a_party a_party_kinds a_party_costs a_party_terms a_party_known a_kept a_tape a_tape_bytes a_telephone a_sheets a_findings v_isKept v_party_size v_party_list k.1 k.2.1 k.2.2.1 k.2.2.2.1 k.2.2.2.2.1 k.2.2.2.2.2.1 k.2.2.2.2.2.2.1 k.2.2.2.2.2.2.2.1 v_tape_bytes k.2.2.2.2.2.2.2.2)) fx hf h dX4_term_108
def fX4_term_55 (v_party_size : Int32) (v_tape_bytes : Nat → Int32) (ag55 : Int32 → (Nat → Int64) → (Nat → Int32) → Int32 → Int32 → Int32 → Int32 → Int32 → (Nat → Int32) → Int32 → Int32 → Int32 → Option (Int32 × Int32 × (Nat → Int64) × (Nat → Int32) × Int32 × Int32 × Int32 × Int32 × Int32 × (Nat → Int32))) (v_party_told : Int32) (v_party_terms : Nat → Int64) (v_party_known : Nat → Int32) (v_tape_length : Int32) (v_tape_place : Int32) (v_tape_fault : Int32) (v_tape_teller : Int32) (v_tape_word : Int32) (v_findings : Nat → Int32) (y1 : Int32) (y4 : Int32) (y5 : Int32) : Option (Int32 × Int32 × (Nat → Int64) × (Nat → Int32) × Int32 × Int32 × Int32 × Int32 × Int32 × (Nat → Int32)) :=
  (if (4 : Int32) ≤ y5 then (
  fX4_term_87 v_party_size v_tape_bytes v_party_told v_party_terms v_party_known v_tape_length v_tape_place v_tape_fault v_tape_teller v_tape_word v_findings y4)
  else (
  bR (fX2_holdsBy v_tape_length v_tape_place v_tape_fault v_tape_teller v_tape_word v_tape_bytes y1 y5) (fun r3 k3 =>
  bV (fX0_tell v_party_told v_party_terms v_party_known y1 y5 r3) (fun k4 =>
  nm (y5 + 1) (fun u5 =>
  ag55 k4.1 k4.2.1 k4.2.2 v_tape_length k3.1 k3.2.1 k3.2.2.1 k3.2.2.2 v_findings y1 y4 u5)))))
set_option maxRecDepth 100000 in
set_option maxHeartbeats 4000000 in
theorem LX4_term_55 {p : Program} {l : Launch} {e : Env} {s : State} {m : MethodId} {args : Array Value} {below : List Frame} {meth : Method} {c : Code} {D : va_G} {cI cJ cZ cS : ClassId} {tb : Nat} {A : Nat → Prop} {a_t a_party a_party_kinds a_party_costs a_party_terms a_party_known a_kept a_tape a_tape_bytes a_telephone a_sheets a_findings : Nat} {v_isKept : Int32} {v_party_size : Int32} {v_party_list : Int32} {v_tape_bytes : Nat → Int32} {rr : Int32} {kk' : Int32 × (Nat → Int64) × (Nat → Int32) × Int32 × Int32 × Int32 × Int32 × Int32 × (Nat → Int32)} (fx : q_Fx p s m args meth c cX4_term 6 RX4 (some .int) D cI cJ cZ cS tb A) {ag55 : Int32 → (Nat → Int64) → (Nat → Int32) → Int32 → Int32 → Int32 → Int32 → Int32 → (Nat → Int32) → Int32 → Int32 → Int32 → Option (Int32 × Int32 × (Nat → Int64) × (Nat → Int32) × Int32 × Int32 × Int32 × Int32 × Int32 × (Nat → Int32))} (hag55 : ∀ {v_party_told : Int32} {v_party_terms : Nat → Int64} {v_party_known : Nat → Int32} {v_tape_length : Int32} {v_tape_place : Int32} {v_tape_fault : Int32} {v_tape_teller : Int32} {v_tape_word : Int32} {v_findings : Nat → Int32} {y1 : Int32} {y4 : Int32} {y5 : Int32} {H : Heap} {locs : List Loc} {ls : Array Slot}, q_H D A s (wX4_term cI cJ cZ cS a_t a_party a_party_kinds a_party_costs a_party_terms a_party_known a_kept a_tape a_tape_bytes a_telephone a_sheets a_findings v_isKept v_party_size v_party_list v_party_told v_party_terms v_party_known v_tape_length v_tape_place v_tape_fault v_tape_teller v_tape_word v_tape_bytes v_findings) H locs → lv_has ls 6 [(0, .ref a_t), (1, .int y1), (4, .int y4), (5, .int y5)] → ag55 v_party_told v_party_terms v_party_known v_tape_length v_tape_place v_tape_fault v_tape_teller v_tape_word v_findings y1 y4 y5 = some (rr, kk') → W p l e rX4_term s m args below meth c H locs 0 0 (MQ below (q_Ri D rr A ((fun k : Int32 × (Nat → Int64) × (Nat → Int32) × Int32 × Int32 × Int32 × Int32 × Int32 × (Nat → Int32) => (wX4_term cI cJ cZ cS a_t a_party a_party_kinds a_party_costs a_party_terms a_party_known a_kept a_tape a_tape_bytes a_telephone a_sheets a_findings v_isKept v_party_size v_party_list k.1 k.2.1 k.2.2.1 k.2.2.2.1 k.2.2.2.2.1 k.2.2.2.2.2.1 k.2.2.2.2.2.2.1 k.2.2.2.2.2.2.2.1 v_tape_bytes k.2.2.2.2.2.2.2.2)) kk')) args s 0 0 A) (F0 m 55 ls [])) : ∀ {v_party_told : Int32} {v_party_terms : Nat → Int64} {v_party_known : Nat → Int32} {v_tape_length : Int32} {v_tape_place : Int32} {v_tape_fault : Int32} {v_tape_teller : Int32} {v_tape_word : Int32} {v_findings : Nat → Int32} {y1 : Int32} {y4 : Int32} {y5 : Int32} {H : Heap} {locs : List Loc} {ls : Array Slot}, q_H D A s (wX4_term cI cJ cZ cS a_t a_party a_party_kinds a_party_costs a_party_terms a_party_known a_kept a_tape a_tape_bytes a_telephone a_sheets a_findings v_isKept v_party_size v_party_list v_party_told v_party_terms v_party_known v_tape_length v_tape_place v_tape_fault v_tape_teller v_tape_word v_tape_bytes v_findings) H locs → lv_has ls 6 [(0, .ref a_t), (1, .int y1), (4, .int y4), (5, .int y5)] → fX4_term_55 v_party_size v_tape_bytes ag55 v_party_told v_party_terms v_party_known v_tape_length v_tape_place v_tape_fault v_tape_teller v_tape_word v_findings y1 y4 y5 = some (rr, kk') → W p l e rX4_term s m args below meth c H locs 0 0 (MQ below (q_Ri D rr A ((fun k : Int32 × (Nat → Int64) × (Nat → Int32) × Int32 × Int32 × Int32 × Int32 × Int32 × (Nat → Int32) => (wX4_term cI cJ cZ cS a_t a_party a_party_kinds a_party_costs a_party_terms a_party_known a_kept a_tape a_tape_bytes a_telephone a_sheets a_findings v_isKept v_party_size v_party_list k.1 k.2.1 k.2.2.1 k.2.2.2.1 k.2.2.2.2.1 k.2.2.2.2.2.1 k.2.2.2.2.2.2.1 k.2.2.2.2.2.2.2.1 v_tape_bytes k.2.2.2.2.2.2.2.2)) kk')) args s 0 0 A) (F0 m 55 ls []) := by
  intro v_party_told v_party_terms v_party_known v_tape_length v_tape_place v_tape_fault v_tape_teller v_tape_word v_findings y1 y4 y5 H locs ls h hl hf
  have hx := fx.1
  have hb := fx.2.1
  unfold fX4_term_55 at hf
  refine lv_iload hx hb dX4_term_55 (lv_at hl 3 rfl) ?_
  refine lv_iconst (v := 4) hx hb dX4_term_57 (by decide) ?_
  refine lv_icmp_ge (tgt := 87) hx hb dX4_term_58 (by decide) (fun c2 => ?_) (fun c2 => ?_)
  · have hf := it_t c2 hf
    exact LX4_term_87 fx h (lv_sub hl [0, 2] rfl) hf
  have hf := it_f c2 hf
  refine lv_aload_n hx hb dX4_term_61 rfl (lv_at hl 0 rfl) ?_
  refine q_get (v := .ref a_party) fx inX4 h 0 rfl rfl 0 (by decide) k_174 rfl dX4_term_62 ?_
  refine lv_iload_n hx hb dX4_term_65 rfl (lv_at hl 1 rfl) ?_
  refine lv_iload hx hb dX4_term_66 (lv_at hl 3 rfl) ?_
  refine lv_aload_n hx hb dX4_term_68 rfl (lv_at hl 0 rfl) ?_
  refine q_get (v := .ref a_tape) fx inX4 h 0 rfl rfl 3 (by decide) k_177 rfl dX4_term_69 ?_
  refine lv_iload_n hx hb dX4_term_72 rfl (lv_at hl 1 rfl) ?_
  refine lv_iload hx hb dX4_term_73 (lv_at hl 3 rfl) ?_
  obtain ⟨r3, k3, hg, hf⟩ := bR_inv hf
  refine q_cl (rest := [.int y5, .int y1, .ref a_party]) (ws' := (wX4_term cI cJ cZ cS a_t a_party a_party_kinds a_party_costs a_party_terms a_party_known a_kept a_tape a_tape_bytes a_telephone a_sheets a_findings v_isKept v_party_size v_party_list v_party_told v_party_terms v_party_known v_tape_length k3.1 k3.2.1 k3.2.2.1 k3.2.2.2 v_tape_bytes v_findings)) (w1 := (wX2_holdsBy cI cJ cZ cS a_tape a_tape_bytes v_tape_length k3.1 k3.2.1 k3.2.2.1 k3.2.2.2 v_tape_bytes)) fx h [4, 5] rfl rfl rfl rfl (q_runV fx h hl.1 [4, 5] rfl rfl (tX2_holdsBy l D cI cJ cZ cS tb a_tape a_tape_bytes H.size v_tape_length v_tape_place v_tape_fault v_tape_teller v_tape_word v_tape_bytes y1 y5 r3 k3 hg) mvX2_holdsBy k_274 ⟨rfl, rfl⟩ ⟨Nat.le_of_ble_eq_true rfl, Nat.le_of_ble_eq_true rfl⟩ rfl rfl rfl rfl (Nat.le_of_ble_eq_true rfl) dX4_term_75 ⟨Nat.le_of_ble_eq_true rfl, Nat.le_of_ble_eq_true rfl⟩) (fun H locs h => ?_)
  obtain ⟨k4, hg, hf⟩ := bV_inv hf
  refine q_cv (rest := []) (ws' := (wX4_term cI cJ cZ cS a_t a_party a_party_kinds a_party_costs a_party_terms a_party_known a_kept a_tape a_tape_bytes a_telephone a_sheets a_findings v_isKept v_party_size v_party_list k4.1 k4.2.1 k4.2.2 v_tape_length k3.1 k3.2.1 k3.2.2.1 k3.2.2.2 v_tape_bytes v_findings)) (w1 := (wX0_tell cI cJ cZ cS a_party a_party_kinds a_party_costs a_party_terms a_party_known v_party_size v_party_list k4.1 k4.2.1 k4.2.2)) fx h [1, 2, 3] rfl rfl rfl rfl (q_runV fx h hl.1 [1, 2, 3] rfl rfl (tX0_tell l D cI cJ cZ cS tb a_party a_party_kinds a_party_costs a_party_terms a_party_known H.size v_party_size v_party_list v_party_told v_party_terms v_party_known y1 y5 r3 k4 hg) mvX0_tell k_326 ⟨rfl, rfl⟩ ⟨Nat.le_of_ble_eq_true rfl, Nat.le_of_ble_eq_true rfl⟩ rfl rfl rfl rfl (Nat.le_of_ble_eq_true rfl) dX4_term_78 ⟨Nat.le_of_ble_eq_true rfl, Nat.le_of_ble_eq_true rfl⟩) (fun H locs h => ?_)
  obtain ⟨u5, eu5, hf⟩ := nm_inv hf
  refine lv_iinc (v := u5) (lv' := [(5, .int u5), (0, .ref a_t), (1, .int y1), (4, .int y4)]) hx hb dX4_term_81 hl (k := 3) rfl (by rw [eu5]; rfl) (by decide) rfl (fun ls hl => ?_)
  refine lv_goto (tgt := 55) hx hb dX4_term_84 (by decide) ?_
  exact hag55 h (lv_sub hl [1, 2, 3, 0] rfl) hf
set_option maxRecDepth 100000 in
theorem EX4_term_55 {p : Program} {l : Launch} {e : Env} {s : State} {m : MethodId} {args : Array Value} {below : List Frame} {meth : Method} {c : Code} {D : va_G} {cI cJ cZ cS : ClassId} {tb : Nat} {A : Nat → Prop} {a_t a_party a_party_kinds a_party_costs a_party_terms a_party_known a_kept a_tape a_tape_bytes a_telephone a_sheets a_findings : Nat} {v_isKept : Int32} {v_party_size : Int32} {v_party_list : Int32} {v_tape_bytes : Nat → Int32} {rr : Int32} {kk' : Int32 × (Nat → Int64) × (Nat → Int32) × Int32 × Int32 × Int32 × Int32 × Int32 × (Nat → Int32)} (fx : q_Fx p s m args meth c cX4_term 6 RX4 (some .int) D cI cJ cZ cS tb A) : ∀ (n : Nat), ∀ {v_party_told : Int32} {v_party_terms : Nat → Int64} {v_party_known : Nat → Int32} {v_tape_length : Int32} {v_tape_place : Int32} {v_tape_fault : Int32} {v_tape_teller : Int32} {v_tape_word : Int32} {v_findings : Nat → Int32} {y1 : Int32} {y4 : Int32} {y5 : Int32} {H : Heap} {locs : List Loc} {ls : Array Slot}, q_H D A s (wX4_term cI cJ cZ cS a_t a_party a_party_kinds a_party_costs a_party_terms a_party_known a_kept a_tape a_tape_bytes a_telephone a_sheets a_findings v_isKept v_party_size v_party_list v_party_told v_party_terms v_party_known v_tape_length v_tape_place v_tape_fault v_tape_teller v_tape_word v_tape_bytes v_findings) H locs → lv_has ls 6 [(0, .ref a_t), (1, .int y1), (4, .int y4), (5, .int y5)] → ll12 (fX4_term_55 v_party_size v_tape_bytes) n v_party_told v_party_terms v_party_known v_tape_length v_tape_place v_tape_fault v_tape_teller v_tape_word v_findings y1 y4 y5 = some (rr, kk') → W p l e rX4_term s m args below meth c H locs 0 0 (MQ below (q_Ri D rr A ((fun k : Int32 × (Nat → Int64) × (Nat → Int32) × Int32 × Int32 × Int32 × Int32 × Int32 × (Nat → Int32) => (wX4_term cI cJ cZ cS a_t a_party a_party_kinds a_party_costs a_party_terms a_party_known a_kept a_tape a_tape_bytes a_telephone a_sheets a_findings v_isKept v_party_size v_party_list k.1 k.2.1 k.2.2.1 k.2.2.2.1 k.2.2.2.2.1 k.2.2.2.2.2.1 k.2.2.2.2.2.2.1 k.2.2.2.2.2.2.2.1 v_tape_bytes k.2.2.2.2.2.2.2.2)) kk')) args s 0 0 A) (F0 m 55 ls []) := by
  intro n
  induction n with
  | zero => intro v_party_told v_party_terms v_party_known v_tape_length v_tape_place v_tape_fault v_tape_teller v_tape_word v_findings y1 y4 y5 H locs ls h hl hf; exact (ll12_z hf).elim
  | succ n ih => intro v_party_told v_party_terms v_party_known v_tape_length v_tape_place v_tape_fault v_tape_teller v_tape_word v_findings y1 y4 y5 H locs ls h hl hf; exact LX4_term_55 fx ih h hl (ll12_s hf)
def fX4_term (v_party_size : Int32) (v_party_told : Int32) (v_party_terms : Nat → Int64) (v_party_known : Nat → Int32) (v_tape_length : Int32) (v_tape_place : Int32) (v_tape_fault : Int32) (v_tape_teller : Int32) (v_tape_word : Int32) (v_tape_bytes : Nat → Int32) (v_findings : Nat → Int32) (x1 : Int32) : Option (Int32 × Int32 × (Nat → Int64) × (Nat → Int32) × Int32 × Int32 × Int32 × Int32 × Int32 × (Nat → Int32)) :=
  bR (fX0_has v_party_size x1) (fun r6 k6 =>
  (if r6 = 0 then (
  bR (fX4_found v_findings (-1000000001)) (fun r11 k11 =>
  some (r11, (v_party_told, v_party_terms, v_party_known, v_tape_length, v_tape_place, v_tape_fault, v_tape_teller, v_tape_word, k11))))
  else (
  bR (fX2_holdsBy v_tape_length v_tape_place v_tape_fault v_tape_teller v_tape_word v_tape_bytes x1 0) (fun r8 k8 =>
  (if (0 : Int32) ≤ k8.2.1 then (
  fX4_term_87 v_party_size v_tape_bytes v_party_told v_party_terms v_party_known v_tape_length k8.1 k8.2.1 k8.2.2.1 k8.2.2.2 v_findings k8.2.1)
  else (
  bV (fX0_tell v_party_told v_party_terms v_party_known x1 0 r8) (fun k10 =>
  ll12 (fX4_term_55 v_party_size v_tape_bytes) qF k10.1 k10.2.1 k10.2.2 v_tape_length k8.1 k8.2.1 k8.2.2.1 k8.2.2.2 v_findings x1 k8.2.1 1)))))))
set_option maxRecDepth 100000 in
set_option maxHeartbeats 4000000 in
theorem tX4_term (l : Launch) (D : va_G) (cI cJ cZ cS : ClassId) (tb : Nat) (a_t a_party a_party_kinds a_party_costs a_party_terms a_party_known a_kept a_tape a_tape_bytes a_telephone a_sheets a_findings : Nat) (sz : Nat) (v_isKept : Int32) (v_party_size : Int32) (v_party_list : Int32) (v_party_told : Int32) (v_party_terms : Nat → Int64) (v_party_known : Nat → Int32) (v_tape_length : Int32) (v_tape_place : Int32) (v_tape_fault : Int32) (v_tape_teller : Int32) (v_tape_word : Int32) (v_tape_bytes : Nat → Int32) (v_findings : Nat → Int32) (x1 : Int32) (rr : Int32) (kk' : Int32 × (Nat → Int64) × (Nat → Int32) × Int32 × Int32 × Int32 × Int32 × Int32 × (Nat → Int32)) (hf : fX4_term v_party_size v_party_told v_party_terms v_party_known v_tape_length v_tape_place v_tape_fault v_tape_teller v_tape_word v_tape_bytes v_findings x1 = some (rr, kk')) : Met l yX4_term (Cond.code yX4_term cX4_term 6 (some .int) :: wA) rX4_term (q_Pre D cI cJ cZ cS tb [.ref a_t, .int x1] sz (wX4_term cI cJ cZ cS a_t a_party a_party_kinds a_party_costs a_party_terms a_party_known a_kept a_tape a_tape_bytes a_telephone a_sheets a_findings v_isKept v_party_size v_party_list v_party_told v_party_terms v_party_known v_tape_length v_tape_place v_tape_fault v_tape_teller v_tape_word v_tape_bytes v_findings)) (q_Ri D rr (va_A (wX4_term cI cJ cZ cS a_t a_party a_party_kinds a_party_costs a_party_terms a_party_known a_kept a_tape a_tape_bytes a_telephone a_sheets a_findings v_isKept v_party_size v_party_list v_party_told v_party_terms v_party_known v_tape_length v_tape_place v_tape_fault v_tape_teller v_tape_word v_tape_bytes v_findings) sz) ((fun k : Int32 × (Nat → Int64) × (Nat → Int32) × Int32 × Int32 × Int32 × Int32 × Int32 × (Nat → Int32) => (wX4_term cI cJ cZ cS a_t a_party a_party_kinds a_party_costs a_party_terms a_party_known a_kept a_tape a_tape_bytes a_telephone a_sheets a_findings v_isKept v_party_size v_party_list k.1 k.2.1 k.2.2.1 k.2.2.2.1 k.2.2.2.2.1 k.2.2.2.2.2.1 k.2.2.2.2.2.2.1 k.2.2.2.2.2.2.2.1 v_tape_bytes k.2.2.2.2.2.2.2.2)) kk')) 0 0 (va_A (wX4_term cI cJ cZ cS a_t a_party a_party_kinds a_party_costs a_party_terms a_party_known a_kept a_tape a_tape_bytes a_telephone a_sheets a_findings v_isKept v_party_size v_party_list v_party_told v_party_terms v_party_known v_tape_length v_tape_place v_tape_fault v_tape_teller v_tape_word v_tape_bytes v_findings) sz) := by
  refine q_enter (Qf := fun A => (q_Ri D rr A ((fun k : Int32 × (Nat → Int64) × (Nat → Int32) × Int32 × Int32 × Int32 × Int32 × Int32 × (Nat → Int32) => (wX4_term cI cJ cZ cS a_t a_party a_party_kinds a_party_costs a_party_terms a_party_known a_kept a_tape a_tape_bytes a_telephone a_sheets a_findings v_isKept v_party_size v_party_list k.1 k.2.1 k.2.2.1 k.2.2.2.1 k.2.2.2.2.1 k.2.2.2.2.2.1 k.2.2.2.2.2.2.1 k.2.2.2.2.2.2.2.1 v_tape_bytes k.2.2.2.2.2.2.2.2)) kk'))) (by decide) rfl (Nat.le_of_ble_eq_true rfl) ?_
  intro p e s m below meth c A ls fx hname h hl
  have hx := fx.1
  have hb := fx.2.1
  have hl : lv_has ls 6 [(0, .ref a_t), (1, .int x1)] := hl
  generalize h9 : s.heap = H at h ⊢
  clear h9
  generalize h9 : ([] : List Loc) = locs at h ⊢
  clear h9
  unfold fX4_term at hf
  refine lv_aload_n hx hb dX4_term_0 rfl (lv_at hl 0 rfl) ?_
  refine q_get (v := .ref a_party) fx inX4 h 0 rfl rfl 0 (by decide) k_174 rfl dX4_term_1 ?_
  refine lv_iload_n hx hb dX4_term_4 rfl (lv_at hl 1 rfl) ?_
  obtain ⟨r6, k6, hg, hf⟩ := bR_inv hf
  refine q_ci (rest := []) (ws' := (wX4_term cI cJ cZ cS a_t a_party a_party_kinds a_party_costs a_party_terms a_party_known a_kept a_tape a_tape_bytes a_telephone a_sheets a_findings v_isKept v_party_size v_party_list v_party_told v_party_terms v_party_known v_tape_length v_tape_place v_tape_fault v_tape_teller v_tape_word v_tape_bytes v_findings)) (w1 := (wX0_has cI cJ cZ cS a_party a_party_kinds a_party_costs a_party_terms a_party_known v_party_size v_party_list v_party_told)) fx h [1] rfl rfl rfl rfl (q_runV fx h hl.1 [1] rfl rfl (tX0_has l D cI cJ cZ cS tb a_party a_party_kinds a_party_costs a_party_terms a_party_known H.size v_party_size v_party_list v_party_told x1 r6 k6 hg) mvX0_has k_220 ⟨rfl, rfl⟩ ⟨Nat.le_of_ble_eq_true rfl, Nat.le_of_ble_eq_true rfl⟩ rfl rfl rfl rfl (Nat.le_of_ble_eq_true rfl) dX4_term_5 ⟨Nat.le_of_ble_eq_true rfl, Nat.le_of_ble_eq_true rfl⟩) (fun H locs h => ?_)
  refine lv_if_ne (tgt := 18) hx hb dX4_term_8 (by decide) (fun c7 => ?_) (fun c7 => ?_)
  · have hf := it_f c7 hf
    refine lv_aload_n hx hb dX4_term_18 rfl (lv_at hl 0 rfl) ?_
    refine q_get (v := .ref a_tape) fx inX4 h 0 rfl rfl 3 (by decide) k_177 rfl dX4_term_19 ?_
    refine lv_iload_n hx hb dX4_term_22 rfl (lv_at hl 1 rfl) ?_
    refine lv_iconst (v := 0) hx hb dX4_term_23 (by decide) ?_
    obtain ⟨r8, k8, hg, hf⟩ := bR_inv hf
    refine q_cl (rest := []) (ws' := (wX4_term cI cJ cZ cS a_t a_party a_party_kinds a_party_costs a_party_terms a_party_known a_kept a_tape a_tape_bytes a_telephone a_sheets a_findings v_isKept v_party_size v_party_list v_party_told v_party_terms v_party_known v_tape_length k8.1 k8.2.1 k8.2.2.1 k8.2.2.2 v_tape_bytes v_findings)) (w1 := (wX2_holdsBy cI cJ cZ cS a_tape a_tape_bytes v_tape_length k8.1 k8.2.1 k8.2.2.1 k8.2.2.2 v_tape_bytes)) fx h [4, 5] rfl rfl rfl rfl (q_runV fx h hl.1 [4, 5] rfl rfl (tX2_holdsBy l D cI cJ cZ cS tb a_tape a_tape_bytes H.size v_tape_length v_tape_place v_tape_fault v_tape_teller v_tape_word v_tape_bytes x1 0 r8 k8 hg) mvX2_holdsBy k_274 ⟨rfl, rfl⟩ ⟨Nat.le_of_ble_eq_true rfl, Nat.le_of_ble_eq_true rfl⟩ rfl rfl rfl rfl (Nat.le_of_ble_eq_true rfl) dX4_term_24 ⟨Nat.le_of_ble_eq_true rfl, Nat.le_of_ble_eq_true rfl⟩) (fun H locs h => ?_)
    refine lv_lstore_n (lv' := [(2, .long r8), (0, .ref a_t), (1, .int x1)]) hx hb dX4_term_27 rfl hl (by decide) rfl (fun ls hl => ?_)
    refine lv_aload_n hx hb dX4_term_28 rfl (lv_at hl 1 rfl) ?_
    refine q_get (v := .ref a_tape) fx inX4 h 0 rfl rfl 3 (by decide) k_177 rfl dX4_term_29 ?_
    refine q_getN (v := .int k8.2.1) fx inX2 h 4 rfl rfl 3 (by decide) nf_8 rfl dX4_term_32 ?_
    refine lv_istore (lv' := [(4, .int k8.2.1), (2, .long r8), (0, .ref a_t), (1, .int x1)]) hx hb dX4_term_35 hl (by decide) rfl (fun ls hl => ?_)
    refine lv_iload hx hb dX4_term_37 (lv_at hl 0 rfl) ?_
    refine lv_if_ge (tgt := 87) hx hb dX4_term_39 (by decide) (fun c9 => ?_) (fun c9 => ?_)
    · have hf := it_t c9 hf
      exact LX4_term_87 fx h (lv_sub hl [2, 0] rfl) hf
    have hf := it_f c9 hf
    refine lv_aload_n hx hb dX4_term_42 rfl (lv_at hl 2 rfl) ?_
    refine q_get (v := .ref a_party) fx inX4 h 0 rfl rfl 0 (by decide) k_174 rfl dX4_term_43 ?_
    refine lv_iload_n hx hb dX4_term_46 rfl (lv_at hl 3 rfl) ?_
    refine lv_iconst (v := 0) hx hb dX4_term_47 (by decide) ?_
    refine lv_lload_n hx hb dX4_term_48 rfl (lv_at hl 1 rfl) ?_
    obtain ⟨k10, hg, hf⟩ := bV_inv hf
    refine q_cv (rest := []) (ws' := (wX4_term cI cJ cZ cS a_t a_party a_party_kinds a_party_costs a_party_terms a_party_known a_kept a_tape a_tape_bytes a_telephone a_sheets a_findings v_isKept v_party_size v_party_list k10.1 k10.2.1 k10.2.2 v_tape_length k8.1 k8.2.1 k8.2.2.1 k8.2.2.2 v_tape_bytes v_findings)) (w1 := (wX0_tell cI cJ cZ cS a_party a_party_kinds a_party_costs a_party_terms a_party_known v_party_size v_party_list k10.1 k10.2.1 k10.2.2)) fx h [1, 2, 3] rfl rfl rfl rfl (q_runV fx h hl.1 [1, 2, 3] rfl rfl (tX0_tell l D cI cJ cZ cS tb a_party a_party_kinds a_party_costs a_party_terms a_party_known H.size v_party_size v_party_list v_party_told v_party_terms v_party_known x1 0 r8 k10 hg) mvX0_tell k_326 ⟨rfl, rfl⟩ ⟨Nat.le_of_ble_eq_true rfl, Nat.le_of_ble_eq_true rfl⟩ rfl rfl rfl rfl (Nat.le_of_ble_eq_true rfl) dX4_term_49 ⟨Nat.le_of_ble_eq_true rfl, Nat.le_of_ble_eq_true rfl⟩) (fun H locs h => ?_)
    refine lv_iconst (v := 1) hx hb dX4_term_52 (by decide) ?_
    refine lv_istore (lv' := [(5, .int 1), (4, .int k8.2.1), (2, .long r8), (0, .ref a_t), (1, .int x1)]) hx hb dX4_term_53 hl (by decide) rfl (fun ls hl => ?_)
    exact EX4_term_55 fx qF h (lv_sub hl [3, 4, 1, 0] rfl) hf
  have hf := it_t c7 hf
  refine lv_aload_n hx hb dX4_term_11 rfl (lv_at hl 0 rfl) ?_
  refine q_ldc fx k_206 dX4_term_12 ?_
  obtain ⟨r11, k11, hg, hf⟩ := bR_inv hf
  refine q_ci (rest := []) (ws' := (wX4_term cI cJ cZ cS a_t a_party a_party_kinds a_party_costs a_party_terms a_party_known a_kept a_tape a_tape_bytes a_telephone a_sheets a_findings v_isKept v_party_size v_party_list v_party_told v_party_terms v_party_known v_tape_length v_tape_place v_tape_fault v_tape_teller v_tape_word v_tape_bytes k11)) (w1 := (wX4_found cI cJ cZ cS a_t a_party a_kept a_tape a_telephone a_sheets a_findings v_isKept k11)) fx h [0, 6] rfl rfl rfl rfl (q_runV fx h hl.1 [0, 6] rfl rfl (tX4_found l D cI cJ cZ cS tb a_t a_party a_kept a_tape a_telephone a_sheets a_findings H.size v_isKept v_findings (-1000000001) r11 k11 hg) mvX4_found k_207 ⟨rfl, rfl⟩ ⟨Nat.le_of_ble_eq_true rfl, Nat.le_of_ble_eq_true rfl⟩ rfl rfl rfl rfl (Nat.le_of_ble_eq_true rfl) dX4_term_14 ⟨Nat.le_of_ble_eq_true rfl, Nat.le_of_ble_eq_true rfl⟩) (fun H locs h => ?_)
  exact q_reti (fun k : Int32 × (Nat → Int64) × (Nat → Int32) × Int32 × Int32 × Int32 × Int32 × Int32 × (Nat → Int32) => (wX4_term cI cJ cZ cS a_t a_party a_party_kinds a_party_costs a_party_terms a_party_known a_kept a_tape a_tape_bytes a_telephone a_sheets a_findings v_isKept v_party_size v_party_list k.1 k.2.1 k.2.2.1 k.2.2.2.1 k.2.2.2.2.1 k.2.2.2.2.2.1 k.2.2.2.2.2.2.1 k.2.2.2.2.2.2.2.1 v_tape_bytes k.2.2.2.2.2.2.2.2)) fx hf h dX4_term_17
/-! X2_append -/
abbrev wX2_append (cI cJ cZ cS : ClassId) (a_t a_bytes : Nat) (v_length : Int32) (v_place : Int32) (v_fault : Int32) (v_teller : Int32) (v_word : Int32) (v_bytes : Nat → Int32) : va_W := [(a_t, .inr (2, [.ref a_bytes, .int v_length, .int v_place, .int v_fault, .int v_teller, .int v_word])), (a_bytes, .inl (cI, 60, .inl v_bytes))]
abbrev rX2_append : Room := { frames := 0, cells := 0, slots := 0, locals := 0 }
def fX2_append_4 (ag4 : Int32 → (Nat → Int32) → Int32 → Int32 → Option (Int32 × Int32 × (Nat → Int32))) (v_length : Int32) (v_bytes : Nat → Int32) (y1 : Int32) (y3 : Int32) : Option (Int32 × Int32 × (Nat → Int32)) :=
  (if y3 < 0 then (
  some (v_length, (v_length, v_bytes)))
  else (
  gIn v_length 60 (
  nm (v_length + 1) (fun u3 =>
  nm (y3 + (-1)) (fun u4 =>
  ag4 u3 (upd v_bytes v_length.toNatClampNeg ((jushr y1 (8 * y3)) &&& 255)) y1 u4)))))
set_option maxRecDepth 100000 in
set_option maxHeartbeats 4000000 in
theorem LX2_append_4 {p : Program} {l : Launch} {e : Env} {s : State} {m : MethodId} {args : Array Value} {below : List Frame} {meth : Method} {c : Code} {D : va_G} {cI cJ cZ cS : ClassId} {tb : Nat} {A : Nat → Prop} {a_t a_bytes : Nat} {v_place : Int32} {v_fault : Int32} {v_teller : Int32} {v_word : Int32} {rr : Int32} {kk' : Int32 × (Nat → Int32)} (fx : q_Fx p s m args meth c cX2_append 4 RX2 (some .int) D cI cJ cZ cS tb A) {ag4 : Int32 → (Nat → Int32) → Int32 → Int32 → Option (Int32 × Int32 × (Nat → Int32))} (hag4 : ∀ {v_length : Int32} {v_bytes : Nat → Int32} {y1 : Int32} {y3 : Int32} {H : Heap} {locs : List Loc} {ls : Array Slot}, q_H D A s (wX2_append cI cJ cZ cS a_t a_bytes v_length v_place v_fault v_teller v_word v_bytes) H locs → lv_has ls 4 [(0, .ref a_t), (1, .int y1), (3, .int y3)] → ag4 v_length v_bytes y1 y3 = some (rr, kk') → W p l e rX2_append s m args below meth c H locs 0 0 (MQ below (q_Ri D rr A ((fun k : Int32 × (Nat → Int32) => (wX2_append cI cJ cZ cS a_t a_bytes k.1 v_place v_fault v_teller v_word k.2)) kk')) args s 0 0 A) (F0 m 4 ls [])) : ∀ {v_length : Int32} {v_bytes : Nat → Int32} {y1 : Int32} {y3 : Int32} {H : Heap} {locs : List Loc} {ls : Array Slot}, q_H D A s (wX2_append cI cJ cZ cS a_t a_bytes v_length v_place v_fault v_teller v_word v_bytes) H locs → lv_has ls 4 [(0, .ref a_t), (1, .int y1), (3, .int y3)] → fX2_append_4 ag4 v_length v_bytes y1 y3 = some (rr, kk') → W p l e rX2_append s m args below meth c H locs 0 0 (MQ below (q_Ri D rr A ((fun k : Int32 × (Nat → Int32) => (wX2_append cI cJ cZ cS a_t a_bytes k.1 v_place v_fault v_teller v_word k.2)) kk')) args s 0 0 A) (F0 m 4 ls []) := by
  intro v_length v_bytes y1 y3 H locs ls h hl hf
  have hx := fx.1
  have hb := fx.2.1
  unfold fX2_append_4 at hf
  refine lv_iload_n hx hb dX2_append_4 rfl (lv_at hl 2 rfl) ?_
  refine lv_if_lt (tgt := 43) hx hb dX2_append_5 (by decide) (fun c1 => ?_) (fun c1 => ?_)
  · have hf := it_t c1 hf
    refine lv_aload_n hx hb dX2_append_43 rfl (lv_at hl 0 rfl) ?_
    refine q_get (v := .int v_length) fx inX2 h 0 rfl rfl 1 (by decide) k_118 rfl dX2_append_44 ?_
    exact q_reti (fun k : Int32 × (Nat → Int32) => (wX2_append cI cJ cZ cS a_t a_bytes k.1 v_place v_fault v_teller v_word k.2)) fx hf h dX2_append_47
  have hf := it_f c1 hf
  refine lv_aload_n hx hb dX2_append_8 rfl (lv_at hl 0 rfl) ?_
  refine q_get (v := .ref a_bytes) fx inX2 h 0 rfl rfl 0 (by decide) k_117 rfl dX2_append_9 ?_
  refine lv_aload_n hx hb dX2_append_12 rfl (lv_at hl 0 rfl) ?_
  refine q_get (v := .int v_length) fx inX2 h 0 rfl rfl 1 (by decide) k_118 rfl dX2_append_13 ?_
  refine lv_iload_n hx hb dX2_append_16 rfl (lv_at hl 1 rfl) ?_
  refine lv_bipush (v := 8) hx hb dX2_append_17 (by decide) ?_
  refine lv_iload_n hx hb dX2_append_19 rfl (lv_at hl 2 rfl) ?_
  refine lv_imul hx hb dX2_append_20 ?_
  refine lv_iushr hx hb dX2_append_21 rfl ?_
  refine lv_sipush (v := 255) hx hb dX2_append_22 (by decide) ?_
  refine lv_iand hx hb dX2_append_25 ?_
  obtain ⟨i2, hf⟩ := gIn_inv hf
  refine q_iast (ws' := (wX2_append cI cJ cZ cS a_t a_bytes v_length v_place v_fault v_teller v_word (upd v_bytes v_length.toNatClampNeg ((jushr y1 (8 * y3)) &&& 255)))) fx h 1 rfl i2 rfl dX2_append_26 (fun H locs h => ?_)
  refine lv_aload_n hx hb dX2_append_27 rfl (lv_at hl 0 rfl) ?_
  refine lv_dup hx hb dX2_append_28 rfl ?_
  refine q_get (v := .int v_length) fx inX2 h 0 rfl rfl 1 (by decide) k_118 rfl dX2_append_29 ?_
  refine lv_iconst (v := 1) hx hb dX2_append_32 (by decide) ?_
  refine lv_iadd hx hb dX2_append_33 ?_
  obtain ⟨u3, eu3, hf⟩ := nm_inv hf
  refine lv_eqi eu3 ?_
  refine q_put (v := .int u3) (ws' := (wX2_append cI cJ cZ cS a_t a_bytes u3 v_place v_fault v_teller v_word (upd v_bytes v_length.toNatClampNeg ((jushr y1 (8 * y3)) &&& 255)))) fx inX2 tyX2 tyX2_ok nmX2 h 0 rfl rfl 1 (by decide) k_118 rfl rfl rfl (Nat.le_of_ble_eq_true rfl) rfl dX2_append_34 (fun H locs h => ?_)
  obtain ⟨u4, eu4, hf⟩ := nm_inv hf
  refine lv_iinc (v := u4) (lv' := [(3, .int u4), (0, .ref a_t), (1, .int y1)]) hx hb dX2_append_37 hl (k := 2) rfl (by rw [eu4]; rfl) (by decide) rfl (fun ls hl => ?_)
  refine lv_goto (tgt := 4) hx hb dX2_append_40 (by decide) ?_
  exact hag4 h (lv_sub hl [1, 2, 0] rfl) hf
set_option maxRecDepth 100000 in
theorem EX2_append_4 {p : Program} {l : Launch} {e : Env} {s : State} {m : MethodId} {args : Array Value} {below : List Frame} {meth : Method} {c : Code} {D : va_G} {cI cJ cZ cS : ClassId} {tb : Nat} {A : Nat → Prop} {a_t a_bytes : Nat} {v_place : Int32} {v_fault : Int32} {v_teller : Int32} {v_word : Int32} {rr : Int32} {kk' : Int32 × (Nat → Int32)} (fx : q_Fx p s m args meth c cX2_append 4 RX2 (some .int) D cI cJ cZ cS tb A) : ∀ (n : Nat), ∀ {v_length : Int32} {v_bytes : Nat → Int32} {y1 : Int32} {y3 : Int32} {H : Heap} {locs : List Loc} {ls : Array Slot}, q_H D A s (wX2_append cI cJ cZ cS a_t a_bytes v_length v_place v_fault v_teller v_word v_bytes) H locs → lv_has ls 4 [(0, .ref a_t), (1, .int y1), (3, .int y3)] → ll4 (fX2_append_4 ) n v_length v_bytes y1 y3 = some (rr, kk') → W p l e rX2_append s m args below meth c H locs 0 0 (MQ below (q_Ri D rr A ((fun k : Int32 × (Nat → Int32) => (wX2_append cI cJ cZ cS a_t a_bytes k.1 v_place v_fault v_teller v_word k.2)) kk')) args s 0 0 A) (F0 m 4 ls []) := by
  intro n
  induction n with
  | zero => intro v_length v_bytes y1 y3 H locs ls h hl hf; exact (ll4_z hf).elim
  | succ n ih => intro v_length v_bytes y1 y3 H locs ls h hl hf; exact LX2_append_4 fx ih h hl (ll4_s hf)
def fX2_append (v_length : Int32) (v_bytes : Nat → Int32) (x1 : Int32) (x2 : Int32) : Option (Int32 × Int32 × (Nat → Int32)) :=
  nm (x2 - 1) (fun u5 =>
  ll4 (fX2_append_4 ) qF v_length v_bytes x1 u5)
set_option maxRecDepth 100000 in
set_option maxHeartbeats 4000000 in
theorem tX2_append (l : Launch) (D : va_G) (cI cJ cZ cS : ClassId) (tb : Nat) (a_t a_bytes : Nat) (sz : Nat) (v_length : Int32) (v_place : Int32) (v_fault : Int32) (v_teller : Int32) (v_word : Int32) (v_bytes : Nat → Int32) (x1 : Int32) (x2 : Int32) (rr : Int32) (kk' : Int32 × (Nat → Int32)) (hf : fX2_append v_length v_bytes x1 x2 = some (rr, kk')) : Met l yX2_append (Cond.code yX2_append cX2_append 4 (some .int) :: wA) rX2_append (q_Pre D cI cJ cZ cS tb [.ref a_t, .int x1, .int x2] sz (wX2_append cI cJ cZ cS a_t a_bytes v_length v_place v_fault v_teller v_word v_bytes)) (q_Ri D rr (va_A (wX2_append cI cJ cZ cS a_t a_bytes v_length v_place v_fault v_teller v_word v_bytes) sz) ((fun k : Int32 × (Nat → Int32) => (wX2_append cI cJ cZ cS a_t a_bytes k.1 v_place v_fault v_teller v_word k.2)) kk')) 0 0 (va_A (wX2_append cI cJ cZ cS a_t a_bytes v_length v_place v_fault v_teller v_word v_bytes) sz) := by
  refine q_enter (Qf := fun A => (q_Ri D rr A ((fun k : Int32 × (Nat → Int32) => (wX2_append cI cJ cZ cS a_t a_bytes k.1 v_place v_fault v_teller v_word k.2)) kk'))) (by decide) rfl (Nat.le_of_ble_eq_true rfl) ?_
  intro p e s m below meth c A ls fx hname h hl
  have hx := fx.1
  have hb := fx.2.1
  have hl : lv_has ls 4 [(0, .ref a_t), (1, .int x1), (2, .int x2)] := hl
  generalize h9 : s.heap = H at h ⊢
  clear h9
  generalize h9 : ([] : List Loc) = locs at h ⊢
  clear h9
  unfold fX2_append at hf
  refine lv_iload_n hx hb dX2_append_0 rfl (lv_at hl 2 rfl) ?_
  refine lv_iconst (v := 1) hx hb dX2_append_1 (by decide) ?_
  refine lv_isub hx hb dX2_append_2 ?_
  obtain ⟨u5, eu5, hf⟩ := nm_inv hf
  refine lv_eqi eu5 ?_
  refine lv_istore_n (lv' := [(3, .int u5), (0, .ref a_t), (1, .int x1), (2, .int x2)]) hx hb dX2_append_3 rfl hl (by decide) rfl (fun ls hl => ?_)
  exact EX2_append_4 fx qF h (lv_sub hl [1, 2, 0] rfl) hf
/-! X4_feed -/
abbrev wX4_feed (cI cJ cZ cS : ClassId) (a_t a_party a_kept a_tape a_tape_bytes a_telephone a_sheets a_findings : Nat) (v_isKept : Int32) (v_tape_length : Int32) (v_tape_place : Int32) (v_tape_fault : Int32) (v_tape_teller : Int32) (v_tape_word : Int32) (v_tape_bytes : Nat → Int32) (v_findings : Nat → Int32) : va_W := [(a_t, .inr (4, [.ref a_party, .ref a_kept, .int v_isKept, .ref a_tape, .ref a_telephone, .ref a_sheets, .ref a_findings])), (a_tape, .inr (2, [.ref a_tape_bytes, .int v_tape_length, .int v_tape_place, .int v_tape_fault, .int v_tape_teller, .int v_tape_word])), (a_tape_bytes, .inl (cI, 60, .inl v_tape_bytes)), (a_findings, .inl (cI, 7, .inl v_findings))]
abbrev rX4_feed : Room := { frames := 1, cells := 0, slots := 0, locals := 23 }
def fX4_feed_10 (v_tape_length : Int32) (v_tape_bytes : Nat → Int32) (v_findings : Nat → Int32) : Option (Int32 × Int32 × (Nat → Int32) × (Nat → Int32)) :=
  bR (fX4_found v_findings (-1000000001)) (fun r1 k1 =>
  some (r1, (v_tape_length, v_tape_bytes, k1)))
set_option maxRecDepth 100000 in
set_option maxHeartbeats 4000000 in
theorem LX4_feed_10 {p : Program} {l : Launch} {e : Env} {s : State} {m : MethodId} {args : Array Value} {below : List Frame} {meth : Method} {c : Code} {D : va_G} {cI cJ cZ cS : ClassId} {tb : Nat} {A : Nat → Prop} {a_t a_party a_kept a_tape a_tape_bytes a_telephone a_sheets a_findings : Nat} {v_isKept : Int32} {v_tape_place : Int32} {v_tape_fault : Int32} {v_tape_teller : Int32} {v_tape_word : Int32} {rr : Int32} {kk' : Int32 × (Nat → Int32) × (Nat → Int32)} (fx : q_Fx p s m args meth c cX4_feed 3 RX4 (some .int) D cI cJ cZ cS tb A) : ∀ {v_tape_length : Int32} {v_tape_bytes : Nat → Int32} {v_findings : Nat → Int32} {H : Heap} {locs : List Loc} {ls : Array Slot}, q_H D A s (wX4_feed cI cJ cZ cS a_t a_party a_kept a_tape a_tape_bytes a_telephone a_sheets a_findings v_isKept v_tape_length v_tape_place v_tape_fault v_tape_teller v_tape_word v_tape_bytes v_findings) H locs → lv_has ls 3 [(0, .ref a_t)] → fX4_feed_10 v_tape_length v_tape_bytes v_findings = some (rr, kk') → W p l e rX4_feed s m args below meth c H locs 0 0 (MQ below (q_Ri D rr A ((fun k : Int32 × (Nat → Int32) × (Nat → Int32) => (wX4_feed cI cJ cZ cS a_t a_party a_kept a_tape a_tape_bytes a_telephone a_sheets a_findings v_isKept k.1 v_tape_place v_tape_fault v_tape_teller v_tape_word k.2.1 k.2.2)) kk')) args s 0 0 A) (F0 m 10 ls []) := by
  intro v_tape_length v_tape_bytes v_findings H locs ls h hl hf
  have hx := fx.1
  have hb := fx.2.1
  unfold fX4_feed_10 at hf
  refine lv_aload_n hx hb dX4_feed_10 rfl (lv_at hl 0 rfl) ?_
  refine q_ldc fx k_206 dX4_feed_11 ?_
  obtain ⟨r1, k1, hg, hf⟩ := bR_inv hf
  refine q_ci (rest := []) (ws' := (wX4_feed cI cJ cZ cS a_t a_party a_kept a_tape a_tape_bytes a_telephone a_sheets a_findings v_isKept v_tape_length v_tape_place v_tape_fault v_tape_teller v_tape_word v_tape_bytes k1)) (w1 := (wX4_found cI cJ cZ cS a_t a_party a_kept a_tape a_telephone a_sheets a_findings v_isKept k1)) fx h [0, 3] rfl rfl rfl rfl (q_runV fx h hl.1 [0, 3] rfl rfl (tX4_found l D cI cJ cZ cS tb a_t a_party a_kept a_tape a_telephone a_sheets a_findings H.size v_isKept v_findings (-1000000001) r1 k1 hg) mvX4_found k_207 ⟨rfl, rfl⟩ ⟨Nat.le_of_ble_eq_true rfl, Nat.le_of_ble_eq_true rfl⟩ rfl rfl rfl rfl (Nat.le_of_ble_eq_true rfl) dX4_feed_13 ⟨Nat.le_of_ble_eq_true rfl, Nat.le_of_ble_eq_true rfl⟩) (fun H locs h => ?_)
  exact q_reti (fun k : Int32 × (Nat → Int32) × (Nat → Int32) => (wX4_feed cI cJ cZ cS a_t a_party a_kept a_tape a_tape_bytes a_telephone a_sheets a_findings v_isKept k.1 v_tape_place v_tape_fault v_tape_teller v_tape_word k.2.1 k.2.2)) fx hf h dX4_feed_16
def fX4_feed (v_tape_length : Int32) (v_tape_bytes : Nat → Int32) (v_findings : Nat → Int32) (x1 : Int32) (x2 : Int32) : Option (Int32 × Int32 × (Nat → Int32) × (Nat → Int32)) :=
  (if x2 < 1 then (
  fX4_feed_10  v_tape_length v_tape_bytes v_findings)
  else (
  (if x2 ≤ 4 then (
  (if (60 - v_tape_length) < x2 then (
  bR (fX4_found v_findings (-1000000002)) (fun r5 k5 =>
  some (r5, (v_tape_length, v_tape_bytes, k5))))
  else (
  bR (fX2_append v_tape_length v_tape_bytes x1 x2) (fun r6 k6 =>
  some (r6, (k6.1, k6.2, v_findings))))))
  else (
  fX4_feed_10  v_tape_length v_tape_bytes v_findings))))
set_option maxRecDepth 100000 in
set_option maxHeartbeats 4000000 in
theorem tX4_feed (l : Launch) (D : va_G) (cI cJ cZ cS : ClassId) (tb : Nat) (a_t a_party a_kept a_tape a_tape_bytes a_telephone a_sheets a_findings : Nat) (sz : Nat) (v_isKept : Int32) (v_tape_length : Int32) (v_tape_place : Int32) (v_tape_fault : Int32) (v_tape_teller : Int32) (v_tape_word : Int32) (v_tape_bytes : Nat → Int32) (v_findings : Nat → Int32) (x1 : Int32) (x2 : Int32) (rr : Int32) (kk' : Int32 × (Nat → Int32) × (Nat → Int32)) (hf : fX4_feed v_tape_length v_tape_bytes v_findings x1 x2 = some (rr, kk')) : Met l yX4_feed (Cond.code yX4_feed cX4_feed 3 (some .int) :: wA) rX4_feed (q_Pre D cI cJ cZ cS tb [.ref a_t, .int x1, .int x2] sz (wX4_feed cI cJ cZ cS a_t a_party a_kept a_tape a_tape_bytes a_telephone a_sheets a_findings v_isKept v_tape_length v_tape_place v_tape_fault v_tape_teller v_tape_word v_tape_bytes v_findings)) (q_Ri D rr (va_A (wX4_feed cI cJ cZ cS a_t a_party a_kept a_tape a_tape_bytes a_telephone a_sheets a_findings v_isKept v_tape_length v_tape_place v_tape_fault v_tape_teller v_tape_word v_tape_bytes v_findings) sz) ((fun k : Int32 × (Nat → Int32) × (Nat → Int32) => (wX4_feed cI cJ cZ cS a_t a_party a_kept a_tape a_tape_bytes a_telephone a_sheets a_findings v_isKept k.1 v_tape_place v_tape_fault v_tape_teller v_tape_word k.2.1 k.2.2)) kk')) 0 0 (va_A (wX4_feed cI cJ cZ cS a_t a_party a_kept a_tape a_tape_bytes a_telephone a_sheets a_findings v_isKept v_tape_length v_tape_place v_tape_fault v_tape_teller v_tape_word v_tape_bytes v_findings) sz) := by
  refine q_enter (Qf := fun A => (q_Ri D rr A ((fun k : Int32 × (Nat → Int32) × (Nat → Int32) => (wX4_feed cI cJ cZ cS a_t a_party a_kept a_tape a_tape_bytes a_telephone a_sheets a_findings v_isKept k.1 v_tape_place v_tape_fault v_tape_teller v_tape_word k.2.1 k.2.2)) kk'))) (by decide) rfl (Nat.le_of_ble_eq_true rfl) ?_
  intro p e s m below meth c A ls fx hname h hl
  have hx := fx.1
  have hb := fx.2.1
  have hl : lv_has ls 3 [(0, .ref a_t), (1, .int x1), (2, .int x2)] := hl
  generalize h9 : s.heap = H at h ⊢
  clear h9
  generalize h9 : ([] : List Loc) = locs at h ⊢
  clear h9
  unfold fX4_feed at hf
  refine lv_iload_n hx hb dX4_feed_0 rfl (lv_at hl 2 rfl) ?_
  refine lv_iconst (v := 1) hx hb dX4_feed_1 (by decide) ?_
  refine lv_icmp_lt (tgt := 10) hx hb dX4_feed_2 (by decide) (fun c2 => ?_) (fun c2 => ?_)
  · have hf := it_t c2 hf
    exact LX4_feed_10 fx h (lv_sub hl [0] rfl) hf
  have hf := it_f c2 hf
  refine lv_iload_n hx hb dX4_feed_5 rfl (lv_at hl 2 rfl) ?_
  refine lv_iconst (v := 4) hx hb dX4_feed_6 (by decide) ?_
  refine lv_icmp_le (tgt := 17) hx hb dX4_feed_7 (by decide) (fun c3 => ?_) (fun c3 => ?_)
  · have hf := it_t c3 hf
    refine lv_iload_n hx hb dX4_feed_17 rfl (lv_at hl 2 rfl) ?_
    refine lv_bipush (v := 60) hx hb dX4_feed_18 (by decide) ?_
    refine lv_aload_n hx hb dX4_feed_20 rfl (lv_at hl 0 rfl) ?_
    refine q_get (v := .ref a_tape) fx inX4 h 0 rfl rfl 3 (by decide) k_177 rfl dX4_feed_21 ?_
    refine q_getN (v := .int v_tape_length) fx inX2 h 1 rfl rfl 1 (by decide) nf_7 rfl dX4_feed_24 ?_
    refine lv_isub hx hb dX4_feed_27 ?_
    refine lv_icmp_gt (tgt := 43) hx hb dX4_feed_28 (by decide) (fun c4 => ?_) (fun c4 => ?_)
    · have hf := it_t c4 hf
      refine lv_aload_n hx hb dX4_feed_43 rfl (lv_at hl 0 rfl) ?_
      refine q_ldc fx k_215 dX4_feed_44 ?_
      obtain ⟨r5, k5, hg, hf⟩ := bR_inv hf
      refine q_ci (rest := []) (ws' := (wX4_feed cI cJ cZ cS a_t a_party a_kept a_tape a_tape_bytes a_telephone a_sheets a_findings v_isKept v_tape_length v_tape_place v_tape_fault v_tape_teller v_tape_word v_tape_bytes k5)) (w1 := (wX4_found cI cJ cZ cS a_t a_party a_kept a_tape a_telephone a_sheets a_findings v_isKept k5)) fx h [0, 3] rfl rfl rfl rfl (q_runV fx h hl.1 [0, 3] rfl rfl (tX4_found l D cI cJ cZ cS tb a_t a_party a_kept a_tape a_telephone a_sheets a_findings H.size v_isKept v_findings (-1000000002) r5 k5 hg) mvX4_found k_207 ⟨rfl, rfl⟩ ⟨Nat.le_of_ble_eq_true rfl, Nat.le_of_ble_eq_true rfl⟩ rfl rfl rfl rfl (Nat.le_of_ble_eq_true rfl) dX4_feed_46 ⟨Nat.le_of_ble_eq_true rfl, Nat.le_of_ble_eq_true rfl⟩) (fun H locs h => ?_)
      exact q_reti (fun k : Int32 × (Nat → Int32) × (Nat → Int32) => (wX4_feed cI cJ cZ cS a_t a_party a_kept a_tape a_tape_bytes a_telephone a_sheets a_findings v_isKept k.1 v_tape_place v_tape_fault v_tape_teller v_tape_word k.2.1 k.2.2)) fx hf h dX4_feed_49
    have hf := it_f c4 hf
    refine lv_aload_n hx hb dX4_feed_31 rfl (lv_at hl 0 rfl) ?_
    refine q_get (v := .ref a_tape) fx inX4 h 0 rfl rfl 3 (by decide) k_177 rfl dX4_feed_32 ?_
    refine lv_iload_n hx hb dX4_feed_35 rfl (lv_at hl 1 rfl) ?_
    refine lv_iload_n hx hb dX4_feed_36 rfl (lv_at hl 2 rfl) ?_
    obtain ⟨r6, k6, hg, hf⟩ := bR_inv hf
    refine q_ci (rest := []) (ws' := (wX4_feed cI cJ cZ cS a_t a_party a_kept a_tape a_tape_bytes a_telephone a_sheets a_findings v_isKept k6.1 v_tape_place v_tape_fault v_tape_teller v_tape_word k6.2 v_findings)) (w1 := (wX2_append cI cJ cZ cS a_tape a_tape_bytes k6.1 v_tape_place v_tape_fault v_tape_teller v_tape_word k6.2)) fx h [1, 2] rfl rfl rfl rfl (q_runV fx h hl.1 [1, 2] rfl rfl (tX2_append l D cI cJ cZ cS tb a_tape a_tape_bytes H.size v_tape_length v_tape_place v_tape_fault v_tape_teller v_tape_word v_tape_bytes x1 x2 r6 k6 hg) mvX2_append k_334 ⟨rfl, rfl⟩ ⟨Nat.le_of_ble_eq_true rfl, Nat.le_of_ble_eq_true rfl⟩ rfl rfl rfl rfl (Nat.le_of_ble_eq_true rfl) dX4_feed_37 ⟨Nat.le_of_ble_eq_true rfl, Nat.le_of_ble_eq_true rfl⟩) (fun H locs h => ?_)
    refine lv_goto (tgt := 49) hx hb dX4_feed_40 (by decide) ?_
    exact q_reti (fun k : Int32 × (Nat → Int32) × (Nat → Int32) => (wX4_feed cI cJ cZ cS a_t a_party a_kept a_tape a_tape_bytes a_telephone a_sheets a_findings v_isKept k.1 v_tape_place v_tape_fault v_tape_teller v_tape_word k.2.1 k.2.2)) fx hf h dX4_feed_49
  have hf := it_f c3 hf
  exact LX4_feed_10 fx h (lv_sub hl [0] rfl) hf
/-! X4_wipe -/
abbrev wX4_wipe (cI cJ cZ cS : ClassId) (a_t a_party a_kept a_tape a_tape_bytes a_telephone a_sheets a_findings : Nat) (v_isKept : Int32) (v_tape_length : Int32) (v_tape_place : Int32) (v_tape_fault : Int32) (v_tape_teller : Int32) (v_tape_word : Int32) : va_W := [(a_t, .inr (4, [.ref a_party, .ref a_kept, .int v_isKept, .ref a_tape, .ref a_telephone, .ref a_sheets, .ref a_findings])), (a_tape, .inr (2, [.ref a_tape_bytes, .int v_tape_length, .int v_tape_place, .int v_tape_fault, .int v_tape_teller, .int v_tape_word]))]
abbrev rX4_wipe : Room := { frames := 0, cells := 0, slots := 0, locals := 0 }
def fX4_wipe (v_tape_length : Int32) : Option (Int32 × Int32) :=
  some (v_tape_length, 0)
set_option maxRecDepth 100000 in
set_option maxHeartbeats 4000000 in
theorem tX4_wipe (l : Launch) (D : va_G) (cI cJ cZ cS : ClassId) (tb : Nat) (a_t a_party a_kept a_tape a_tape_bytes a_telephone a_sheets a_findings : Nat) (sz : Nat) (v_isKept : Int32) (v_tape_length : Int32) (v_tape_place : Int32) (v_tape_fault : Int32) (v_tape_teller : Int32) (v_tape_word : Int32) (rr : Int32) (kk' : Int32) (hf : fX4_wipe v_tape_length = some (rr, kk')) : Met l yX4_wipe (Cond.code yX4_wipe cX4_wipe 2 (some .int) :: wA) rX4_wipe (q_Pre D cI cJ cZ cS tb [.ref a_t] sz (wX4_wipe cI cJ cZ cS a_t a_party a_kept a_tape a_tape_bytes a_telephone a_sheets a_findings v_isKept v_tape_length v_tape_place v_tape_fault v_tape_teller v_tape_word)) (q_Ri D rr (va_A (wX4_wipe cI cJ cZ cS a_t a_party a_kept a_tape a_tape_bytes a_telephone a_sheets a_findings v_isKept v_tape_length v_tape_place v_tape_fault v_tape_teller v_tape_word) sz) ((fun k : Int32 => (wX4_wipe cI cJ cZ cS a_t a_party a_kept a_tape a_tape_bytes a_telephone a_sheets a_findings v_isKept k v_tape_place v_tape_fault v_tape_teller v_tape_word)) kk')) 0 0 (va_A (wX4_wipe cI cJ cZ cS a_t a_party a_kept a_tape a_tape_bytes a_telephone a_sheets a_findings v_isKept v_tape_length v_tape_place v_tape_fault v_tape_teller v_tape_word) sz) := by
  refine q_enter (Qf := fun A => (q_Ri D rr A ((fun k : Int32 => (wX4_wipe cI cJ cZ cS a_t a_party a_kept a_tape a_tape_bytes a_telephone a_sheets a_findings v_isKept k v_tape_place v_tape_fault v_tape_teller v_tape_word)) kk'))) (by decide) rfl (Nat.le_of_ble_eq_true rfl) ?_
  intro p e s m below meth c A ls fx hname h hl
  have hx := fx.1
  have hb := fx.2.1
  have hl : lv_has ls 2 [(0, .ref a_t)] := hl
  generalize h9 : s.heap = H at h ⊢
  clear h9
  generalize h9 : ([] : List Loc) = locs at h ⊢
  clear h9
  unfold fX4_wipe at hf
  refine lv_aload_n hx hb dX4_wipe_0 rfl (lv_at hl 0 rfl) ?_
  refine q_get (v := .ref a_tape) fx inX4 h 0 rfl rfl 3 (by decide) k_177 rfl dX4_wipe_1 ?_
  refine q_getN (v := .int v_tape_length) fx inX2 h 1 rfl rfl 1 (by decide) nf_7 rfl dX4_wipe_4 ?_
  refine lv_istore_n (lv' := [(1, .int v_tape_length), (0, .ref a_t)]) hx hb dX4_wipe_7 rfl hl (by decide) rfl (fun ls hl => ?_)
  refine lv_aload_n hx hb dX4_wipe_8 rfl (lv_at hl 1 rfl) ?_
  refine q_get (v := .ref a_tape) fx inX4 h 0 rfl rfl 3 (by decide) k_177 rfl dX4_wipe_9 ?_
  refine lv_iconst (v := 0) hx hb dX4_wipe_12 (by decide) ?_
  refine q_putN (v := .int 0) (ws' := (wX4_wipe cI cJ cZ cS a_t a_party a_kept a_tape a_tape_bytes a_telephone a_sheets a_findings v_isKept 0 v_tape_place v_tape_fault v_tape_teller v_tape_word)) fx inX2 tyX2 tyX2_ok nmX2 h 1 rfl rfl 1 (by decide) nf_7 rfl rfl rfl (Nat.le_of_ble_eq_true rfl) rfl dX4_wipe_13 (fun H locs h => ?_)
  refine lv_iload_n hx hb dX4_wipe_16 rfl (lv_at hl 0 rfl) ?_
  exact q_reti (fun k : Int32 => (wX4_wipe cI cJ cZ cS a_t a_party a_kept a_tape a_tape_bytes a_telephone a_sheets a_findings v_isKept k v_tape_place v_tape_fault v_tape_teller v_tape_word)) fx hf h dX4_wipe_17
/-! X0_lists -/
abbrev wX0_lists (cI cJ cZ cS : ClassId) (a_t a_kinds a_costs a_terms a_known : Nat) (v_size : Int32) (v_list : Int32) (v_told : Int32) : va_W := [(a_t, .inr (0, [.int v_size, .int v_list, .int v_told, .ref a_kinds, .ref a_costs, .ref a_terms, .ref a_known]))]
abbrev rX0_lists : Room := { frames := 0, cells := 0, slots := 0, locals := 0 }
def fX0_lists (v_size : Int32) : Option (Int32 × Unit) :=
  some (jshl 1 v_size, ())
set_option maxRecDepth 100000 in
set_option maxHeartbeats 4000000 in
theorem tX0_lists (l : Launch) (D : va_G) (cI cJ cZ cS : ClassId) (tb : Nat) (a_t a_kinds a_costs a_terms a_known : Nat) (sz : Nat) (v_size : Int32) (v_list : Int32) (v_told : Int32) (rr : Int32) (kk' : Unit) (hf : fX0_lists v_size = some (rr, kk')) : Met l yX0_lists (Cond.code yX0_lists cX0_lists 1 (some .int) :: wA) rX0_lists (q_Pre D cI cJ cZ cS tb [.ref a_t] sz (wX0_lists cI cJ cZ cS a_t a_kinds a_costs a_terms a_known v_size v_list v_told)) (q_Ri D rr (va_A (wX0_lists cI cJ cZ cS a_t a_kinds a_costs a_terms a_known v_size v_list v_told) sz) ((fun k : Unit => (wX0_lists cI cJ cZ cS a_t a_kinds a_costs a_terms a_known v_size v_list v_told)) kk')) 0 0 (va_A (wX0_lists cI cJ cZ cS a_t a_kinds a_costs a_terms a_known v_size v_list v_told) sz) := by
  refine q_enter (Qf := fun A => (q_Ri D rr A ((fun k : Unit => (wX0_lists cI cJ cZ cS a_t a_kinds a_costs a_terms a_known v_size v_list v_told)) kk'))) (by decide) rfl (Nat.le_of_ble_eq_true rfl) ?_
  intro p e s m below meth c A ls fx hname h hl
  have hx := fx.1
  have hb := fx.2.1
  have hl : lv_has ls 1 [(0, .ref a_t)] := hl
  generalize h9 : s.heap = H at h ⊢
  clear h9
  generalize h9 : ([] : List Loc) = locs at h ⊢
  clear h9
  unfold fX0_lists at hf
  refine lv_iconst (v := 1) hx hb dX0_lists_0 (by decide) ?_
  refine lv_aload_n hx hb dX0_lists_1 rfl (lv_at hl 0 rfl) ?_
  refine q_get (v := .int v_size) fx inX0 h 0 rfl rfl 0 (by decide) k_80 rfl dX0_lists_2 ?_
  refine lv_ishl hx hb dX0_lists_5 ?_
  exact q_reti (fun k : Unit => (wX0_lists cI cJ cZ cS a_t a_kinds a_costs a_terms a_known v_size v_list v_told)) fx hf h dX0_lists_6
/-! X0_isSet -/
abbrev wX0_isSet (cI cJ cZ cS : ClassId) (a_t a_kinds a_costs a_terms a_known : Nat) (v_size : Int32) (v_list : Int32) (v_told : Int32) : va_W := [(a_t, .inr (0, [.int v_size, .int v_list, .int v_told, .ref a_kinds, .ref a_costs, .ref a_terms, .ref a_known]))]
abbrev rX0_isSet : Room := { frames := 1, cells := 0, slots := 0, locals := 20 }
def fX0_isSet (v_size : Int32) (x1 : Int32) : Option (Int32 × Unit) :=
  (if x1 < 0 then (
  some (0, ()))
  else (
  bR (fX0_lists v_size) (fun r2 k2 =>
  (if r2 ≤ x1 then (
  some (0, ()))
  else (
  some (1, ()))))))
set_option maxRecDepth 100000 in
set_option maxHeartbeats 4000000 in
theorem tX0_isSet (l : Launch) (D : va_G) (cI cJ cZ cS : ClassId) (tb : Nat) (a_t a_kinds a_costs a_terms a_known : Nat) (sz : Nat) (v_size : Int32) (v_list : Int32) (v_told : Int32) (x1 : Int32) (rr : Int32) (kk' : Unit) (hf : fX0_isSet v_size x1 = some (rr, kk')) : Met l yX0_isSet (Cond.code yX0_isSet cX0_isSet 2 (some .boolean) :: wA) rX0_isSet (q_Pre D cI cJ cZ cS tb [.ref a_t, .int x1] sz (wX0_isSet cI cJ cZ cS a_t a_kinds a_costs a_terms a_known v_size v_list v_told)) (q_Ri D rr (va_A (wX0_isSet cI cJ cZ cS a_t a_kinds a_costs a_terms a_known v_size v_list v_told) sz) ((fun k : Unit => (wX0_isSet cI cJ cZ cS a_t a_kinds a_costs a_terms a_known v_size v_list v_told)) kk')) 0 0 (va_A (wX0_isSet cI cJ cZ cS a_t a_kinds a_costs a_terms a_known v_size v_list v_told) sz) := by
  refine q_enter (Qf := fun A => (q_Ri D rr A ((fun k : Unit => (wX0_isSet cI cJ cZ cS a_t a_kinds a_costs a_terms a_known v_size v_list v_told)) kk'))) (by decide) rfl (Nat.le_of_ble_eq_true rfl) ?_
  intro p e s m below meth c A ls fx hname h hl
  have hx := fx.1
  have hb := fx.2.1
  have hl : lv_has ls 2 [(0, .ref a_t), (1, .int x1)] := hl
  generalize h9 : s.heap = H at h ⊢
  clear h9
  generalize h9 : ([] : List Loc) = locs at h ⊢
  clear h9
  unfold fX0_isSet at hf
  refine lv_iload_n hx hb dX0_isSet_0 rfl (lv_at hl 1 rfl) ?_
  refine lv_if_lt (tgt := 16) hx hb dX0_isSet_1 (by decide) (fun c1 => ?_) (fun c1 => ?_)
  · have hf := it_t c1 hf
    refine lv_iconst (v := 0) hx hb dX0_isSet_16 (by decide) ?_
    exact q_retz (fun k : Unit => (wX0_isSet cI cJ cZ cS a_t a_kinds a_costs a_terms a_known v_size v_list v_told)) fx rfl hf h dX0_isSet_17
  have hf := it_f c1 hf
  refine lv_iload_n hx hb dX0_isSet_4 rfl (lv_at hl 1 rfl) ?_
  refine lv_aload_n hx hb dX0_isSet_5 rfl (lv_at hl 0 rfl) ?_
  obtain ⟨r2, k2, hg, hf⟩ := bR_inv hf
  refine q_ci (rest := [.int x1]) (ws' := (wX0_isSet cI cJ cZ cS a_t a_kinds a_costs a_terms a_known v_size v_list v_told)) (w1 := (wX0_lists cI cJ cZ cS a_t a_kinds a_costs a_terms a_known v_size v_list v_told)) fx h [0] rfl rfl rfl rfl (q_runV fx h hl.1 [0] rfl rfl (tX0_lists l D cI cJ cZ cS tb a_t a_kinds a_costs a_terms a_known H.size v_size v_list v_told r2 k2 hg) mvX0_lists k_350 ⟨rfl, rfl⟩ ⟨Nat.le_of_ble_eq_true rfl, Nat.le_of_ble_eq_true rfl⟩ rfl rfl rfl rfl (Nat.le_of_ble_eq_true rfl) dX0_isSet_6 ⟨Nat.le_of_ble_eq_true rfl, Nat.le_of_ble_eq_true rfl⟩) (fun H locs h => ?_)
  refine lv_icmp_ge (tgt := 16) hx hb dX0_isSet_9 (by decide) (fun c3 => ?_) (fun c3 => ?_)
  · have hf := it_t c3 hf
    refine lv_iconst (v := 0) hx hb dX0_isSet_16 (by decide) ?_
    exact q_retz (fun k : Unit => (wX0_isSet cI cJ cZ cS a_t a_kinds a_costs a_terms a_known v_size v_list v_told)) fx rfl hf h dX0_isSet_17
  have hf := it_f c3 hf
  refine lv_iconst (v := 1) hx hb dX0_isSet_12 (by decide) ?_
  refine lv_goto (tgt := 17) hx hb dX0_isSet_13 (by decide) ?_
  exact q_retz (fun k : Unit => (wX0_isSet cI cJ cZ cS a_t a_kinds a_costs a_terms a_known v_size v_list v_told)) fx rfl hf h dX0_isSet_17
/-! X4_list -/
abbrev wX4_list (cI cJ cZ cS : ClassId) (a_t a_party a_party_kinds a_party_costs a_party_terms a_party_known a_kept a_tape a_telephone a_sheets a_findings : Nat) (v_isKept : Int32) (v_party_size : Int32) (v_party_list : Int32) (v_party_told : Int32) (v_findings : Nat → Int32) : va_W := [(a_t, .inr (4, [.ref a_party, .ref a_kept, .int v_isKept, .ref a_tape, .ref a_telephone, .ref a_sheets, .ref a_findings])), (a_party, .inr (0, [.int v_party_size, .int v_party_list, .int v_party_told, .ref a_party_kinds, .ref a_party_costs, .ref a_party_terms, .ref a_party_known])), (a_findings, .inl (cI, 7, .inl v_findings))]
abbrev rX4_list : Room := { frames := 2, cells := 0, slots := 0, locals := 41 }
def fX4_list (v_party_size : Int32) (v_party_list : Int32) (v_findings : Nat → Int32) (x1 : Int32) : Option (Int32 × Int32 × (Nat → Int32)) :=
  bR (fX0_isSet v_party_size x1) (fun r1 k1 =>
  (if r1 = 0 then (
  bR (fX4_found v_findings (-1000000001)) (fun r3 k3 =>
  some (r3, (v_party_list, k3))))
  else (
  some (v_party_list, (x1, v_findings)))))
set_option maxRecDepth 100000 in
set_option maxHeartbeats 4000000 in
theorem tX4_list (l : Launch) (D : va_G) (cI cJ cZ cS : ClassId) (tb : Nat) (a_t a_party a_party_kinds a_party_costs a_party_terms a_party_known a_kept a_tape a_telephone a_sheets a_findings : Nat) (sz : Nat) (v_isKept : Int32) (v_party_size : Int32) (v_party_list : Int32) (v_party_told : Int32) (v_findings : Nat → Int32) (x1 : Int32) (rr : Int32) (kk' : Int32 × (Nat → Int32)) (hf : fX4_list v_party_size v_party_list v_findings x1 = some (rr, kk')) : Met l yX4_list (Cond.code yX4_list cX4_list 3 (some .int) :: wA) rX4_list (q_Pre D cI cJ cZ cS tb [.ref a_t, .int x1] sz (wX4_list cI cJ cZ cS a_t a_party a_party_kinds a_party_costs a_party_terms a_party_known a_kept a_tape a_telephone a_sheets a_findings v_isKept v_party_size v_party_list v_party_told v_findings)) (q_Ri D rr (va_A (wX4_list cI cJ cZ cS a_t a_party a_party_kinds a_party_costs a_party_terms a_party_known a_kept a_tape a_telephone a_sheets a_findings v_isKept v_party_size v_party_list v_party_told v_findings) sz) ((fun k : Int32 × (Nat → Int32) => (wX4_list cI cJ cZ cS a_t a_party a_party_kinds a_party_costs a_party_terms a_party_known a_kept a_tape a_telephone a_sheets a_findings v_isKept v_party_size k.1 v_party_told k.2)) kk')) 0 0 (va_A (wX4_list cI cJ cZ cS a_t a_party a_party_kinds a_party_costs a_party_terms a_party_known a_kept a_tape a_telephone a_sheets a_findings v_isKept v_party_size v_party_list v_party_told v_findings) sz) := by
  refine q_enter (Qf := fun A => (q_Ri D rr A ((fun k : Int32 × (Nat → Int32) => (wX4_list cI cJ cZ cS a_t a_party a_party_kinds a_party_costs a_party_terms a_party_known a_kept a_tape a_telephone a_sheets a_findings v_isKept v_party_size k.1 v_party_told k.2)) kk'))) (by decide) rfl (Nat.le_of_ble_eq_true rfl) ?_
  intro p e s m below meth c A ls fx hname h hl
  have hx := fx.1
  have hb := fx.2.1
  have hl : lv_has ls 3 [(0, .ref a_t), (1, .int x1)] := hl
  generalize h9 : s.heap = H at h ⊢
  clear h9
  generalize h9 : ([] : List Loc) = locs at h ⊢
  clear h9
  unfold fX4_list at hf
  refine lv_aload_n hx hb dX4_list_0 rfl (lv_at hl 0 rfl) ?_
  refine q_get (v := .ref a_party) fx inX4 h 0 rfl rfl 0 (by decide) k_174 rfl dX4_list_1 ?_
  refine lv_iload_n hx hb dX4_list_4 rfl (lv_at hl 1 rfl) ?_
  obtain ⟨r1, k1, hg, hf⟩ := bR_inv hf
  refine q_ci (rest := []) (ws' := (wX4_list cI cJ cZ cS a_t a_party a_party_kinds a_party_costs a_party_terms a_party_known a_kept a_tape a_telephone a_sheets a_findings v_isKept v_party_size v_party_list v_party_told v_findings)) (w1 := (wX0_isSet cI cJ cZ cS a_party a_party_kinds a_party_costs a_party_terms a_party_known v_party_size v_party_list v_party_told)) fx h [1] rfl rfl rfl rfl (q_runV fx h hl.1 [1] rfl rfl (tX0_isSet l D cI cJ cZ cS tb a_party a_party_kinds a_party_costs a_party_terms a_party_known H.size v_party_size v_party_list v_party_told x1 r1 k1 hg) mvX0_isSet k_346 ⟨rfl, rfl⟩ ⟨Nat.le_of_ble_eq_true rfl, Nat.le_of_ble_eq_true rfl⟩ rfl rfl rfl rfl (Nat.le_of_ble_eq_true rfl) dX4_list_5 ⟨Nat.le_of_ble_eq_true rfl, Nat.le_of_ble_eq_true rfl⟩) (fun H locs h => ?_)
  refine lv_if_ne (tgt := 18) hx hb dX4_list_8 (by decide) (fun c2 => ?_) (fun c2 => ?_)
  · have hf := it_f c2 hf
    refine lv_aload_n hx hb dX4_list_18 rfl (lv_at hl 0 rfl) ?_
    refine q_get (v := .ref a_party) fx inX4 h 0 rfl rfl 0 (by decide) k_174 rfl dX4_list_19 ?_
    refine q_getN (v := .int v_party_list) fx inX0 h 1 rfl rfl 1 (by decide) nf_3 rfl dX4_list_22 ?_
    refine lv_istore_n (lv' := [(2, .int v_party_list), (0, .ref a_t), (1, .int x1)]) hx hb dX4_list_25 rfl hl (by decide) rfl (fun ls hl => ?_)
    refine lv_aload_n hx hb dX4_list_26 rfl (lv_at hl 1 rfl) ?_
    refine q_get (v := .ref a_party) fx inX4 h 0 rfl rfl 0 (by decide) k_174 rfl dX4_list_27 ?_
    refine lv_iload_n hx hb dX4_list_30 rfl (lv_at hl 2 rfl) ?_
    refine q_putN (v := .int x1) (ws' := (wX4_list cI cJ cZ cS a_t a_party a_party_kinds a_party_costs a_party_terms a_party_known a_kept a_tape a_telephone a_sheets a_findings v_isKept v_party_size x1 v_party_told v_findings)) fx inX0 tyX0 tyX0_ok nmX0 h 1 rfl rfl 1 (by decide) nf_3 rfl rfl rfl (Nat.le_of_ble_eq_true rfl) rfl dX4_list_31 (fun H locs h => ?_)
    refine lv_iload_n hx hb dX4_list_34 rfl (lv_at hl 0 rfl) ?_
    exact q_reti (fun k : Int32 × (Nat → Int32) => (wX4_list cI cJ cZ cS a_t a_party a_party_kinds a_party_costs a_party_terms a_party_known a_kept a_tape a_telephone a_sheets a_findings v_isKept v_party_size k.1 v_party_told k.2)) fx hf h dX4_list_35
  have hf := it_t c2 hf
  refine lv_aload_n hx hb dX4_list_11 rfl (lv_at hl 0 rfl) ?_
  refine q_ldc fx k_206 dX4_list_12 ?_
  obtain ⟨r3, k3, hg, hf⟩ := bR_inv hf
  refine q_ci (rest := []) (ws' := (wX4_list cI cJ cZ cS a_t a_party a_party_kinds a_party_costs a_party_terms a_party_known a_kept a_tape a_telephone a_sheets a_findings v_isKept v_party_size v_party_list v_party_told k3)) (w1 := (wX4_found cI cJ cZ cS a_t a_party a_kept a_tape a_telephone a_sheets a_findings v_isKept k3)) fx h [0, 2] rfl rfl rfl rfl (q_runV fx h hl.1 [0, 2] rfl rfl (tX4_found l D cI cJ cZ cS tb a_t a_party a_kept a_tape a_telephone a_sheets a_findings H.size v_isKept v_findings (-1000000001) r3 k3 hg) mvX4_found k_207 ⟨rfl, rfl⟩ ⟨Nat.le_of_ble_eq_true rfl, Nat.le_of_ble_eq_true rfl⟩ rfl rfl rfl rfl (Nat.le_of_ble_eq_true rfl) dX4_list_14 ⟨Nat.le_of_ble_eq_true rfl, Nat.le_of_ble_eq_true rfl⟩) (fun H locs h => ?_)
  exact q_reti (fun k : Int32 × (Nat → Int32) => (wX4_list cI cJ cZ cS a_t a_party a_party_kinds a_party_costs a_party_terms a_party_known a_kept a_tape a_telephone a_sheets a_findings v_isKept v_party_size k.1 v_party_told k.2)) fx hf h dX4_list_17
/-! X0_isSettled -/
abbrev wX0_isSettled (cI cJ cZ cS : ClassId) (a_t a_kinds a_costs a_terms a_known : Nat) (v_size : Int32) (v_list : Int32) (v_told : Int32) (v_kinds : Nat → Int32) (v_terms : Nat → Int64) (v_known : Nat → Int32) : va_W := [(a_t, .inr (0, [.int v_size, .int v_list, .int v_told, .ref a_kinds, .ref a_costs, .ref a_terms, .ref a_known])), (a_kinds, .inl (cI, 8, .inl v_kinds)), (a_terms, .inl (cJ, 32, .inr (.inl v_terms))), (a_known, .inl (cI, 256, .inl v_known))]
abbrev rX0_isSettled : Room := { frames := 4, cells := 0, slots := 0, locals := 90 }
def fX0_isSettled (v_size : Int32) (v_kinds : Nat → Int32) (v_terms : Nat → Int64) (v_known : Nat → Int32) (x1 : Int32) : Option (Int32 × (Nat → Int32)) :=
  bR (fX0_comers v_size v_kinds v_terms v_known x1) (fun r1 k1 =>
  (if r1 = x1 then (
  some (1, k1))
  else (
  some (0, k1))))
set_option maxRecDepth 100000 in
set_option maxHeartbeats 4000000 in
theorem tX0_isSettled (l : Launch) (D : va_G) (cI cJ cZ cS : ClassId) (tb : Nat) (a_t a_kinds a_costs a_terms a_known : Nat) (sz : Nat) (v_size : Int32) (v_list : Int32) (v_told : Int32) (v_kinds : Nat → Int32) (v_terms : Nat → Int64) (v_known : Nat → Int32) (x1 : Int32) (rr : Int32) (kk' : (Nat → Int32)) (hf : fX0_isSettled v_size v_kinds v_terms v_known x1 = some (rr, kk')) : Met l yX0_isSettled (Cond.code yX0_isSettled cX0_isSettled 2 (some .boolean) :: wA) rX0_isSettled (q_Pre D cI cJ cZ cS tb [.ref a_t, .int x1] sz (wX0_isSettled cI cJ cZ cS a_t a_kinds a_costs a_terms a_known v_size v_list v_told v_kinds v_terms v_known)) (q_Ri D rr (va_A (wX0_isSettled cI cJ cZ cS a_t a_kinds a_costs a_terms a_known v_size v_list v_told v_kinds v_terms v_known) sz) ((fun k : (Nat → Int32) => (wX0_isSettled cI cJ cZ cS a_t a_kinds a_costs a_terms a_known v_size v_list v_told v_kinds v_terms k)) kk')) 0 0 (va_A (wX0_isSettled cI cJ cZ cS a_t a_kinds a_costs a_terms a_known v_size v_list v_told v_kinds v_terms v_known) sz) := by
  refine q_enter (Qf := fun A => (q_Ri D rr A ((fun k : (Nat → Int32) => (wX0_isSettled cI cJ cZ cS a_t a_kinds a_costs a_terms a_known v_size v_list v_told v_kinds v_terms k)) kk'))) (by decide) rfl (Nat.le_of_ble_eq_true rfl) ?_
  intro p e s m below meth c A ls fx hname h hl
  have hx := fx.1
  have hb := fx.2.1
  have hl : lv_has ls 2 [(0, .ref a_t), (1, .int x1)] := hl
  generalize h9 : s.heap = H at h ⊢
  clear h9
  generalize h9 : ([] : List Loc) = locs at h ⊢
  clear h9
  unfold fX0_isSettled at hf
  refine lv_aload_n hx hb dX0_isSettled_0 rfl (lv_at hl 0 rfl) ?_
  refine lv_iload_n hx hb dX0_isSettled_1 rfl (lv_at hl 1 rfl) ?_
  obtain ⟨r1, k1, hg, hf⟩ := bR_inv hf
  refine q_ci (rest := []) (ws' := (wX0_isSettled cI cJ cZ cS a_t a_kinds a_costs a_terms a_known v_size v_list v_told v_kinds v_terms k1)) (w1 := (wX0_comers cI cJ cZ cS a_t a_kinds a_costs a_terms a_known v_size v_list v_told v_kinds v_terms k1)) fx h [0, 1, 2, 3] rfl rfl rfl rfl (q_runV fx h hl.1 [0, 1, 2, 3] rfl rfl (tX0_comers l D cI cJ cZ cS tb a_t a_kinds a_costs a_terms a_known H.size v_size v_list v_told v_kinds v_terms v_known x1 r1 k1 hg) mvX0_comers k_362 ⟨rfl, rfl⟩ ⟨Nat.le_of_ble_eq_true rfl, Nat.le_of_ble_eq_true rfl⟩ rfl rfl rfl rfl (Nat.le_of_ble_eq_true rfl) dX0_isSettled_2 ⟨Nat.le_of_ble_eq_true rfl, Nat.le_of_ble_eq_true rfl⟩) (fun H locs h => ?_)
  refine lv_iload_n hx hb dX0_isSettled_5 rfl (lv_at hl 1 rfl) ?_
  refine lv_icmp_ne (tgt := 13) hx hb dX0_isSettled_6 (by decide) (fun c2 => ?_) (fun c2 => ?_)
  · have hf := it_f c2 hf
    refine lv_iconst (v := 0) hx hb dX0_isSettled_13 (by decide) ?_
    exact q_retz (fun k : (Nat → Int32) => (wX0_isSettled cI cJ cZ cS a_t a_kinds a_costs a_terms a_known v_size v_list v_told v_kinds v_terms k)) fx rfl hf h dX0_isSettled_14
  have hf := it_t c2 hf
  refine lv_iconst (v := 1) hx hb dX0_isSettled_9 (by decide) ?_
  refine lv_goto (tgt := 14) hx hb dX0_isSettled_10 (by decide) ?_
  exact q_retz (fun k : (Nat → Int32) => (wX0_isSettled cI cJ cZ cS a_t a_kinds a_costs a_terms a_known v_size v_list v_told v_kinds v_terms k)) fx rfl hf h dX0_isSettled_14
/-! X0_costsOf -/
abbrev wX0_costsOf (cI cJ cZ cS : ClassId) (a_t a_kinds a_costs a_terms a_known : Nat) (v_size : Int32) (v_list : Int32) (v_told : Int32) (v_costs : Nat → Int32) : va_W := [(a_t, .inr (0, [.int v_size, .int v_list, .int v_told, .ref a_kinds, .ref a_costs, .ref a_terms, .ref a_known])), (a_costs, .inl (cI, 8, .inl v_costs))]
abbrev rX0_costsOf : Room := { frames := 1, cells := 0, slots := 0, locals := 21 }
def fX0_costsOf_31 (v_size : Int32) (v_costs : Nat → Int32) (ag4 : Int32 → Int32 → Int32 → Option (Int32 × Unit)) (s0 : Int32) (s1 : Int32) (y1 : Int32) (y3 : Int32) : Option (Int32 × Unit) :=
  nm (s0 + s1) (fun u1 =>
  nm (y3 + 1) (fun u2 =>
  ag4 y1 u1 u2))
set_option maxRecDepth 100000 in
set_option maxHeartbeats 4000000 in
theorem LX0_costsOf_31 {p : Program} {l : Launch} {e : Env} {s : State} {m : MethodId} {args : Array Value} {below : List Frame} {meth : Method} {c : Code} {D : va_G} {cI cJ cZ cS : ClassId} {tb : Nat} {A : Nat → Prop} {a_t a_kinds a_costs a_terms a_known : Nat} {v_size : Int32} {v_list : Int32} {v_told : Int32} {v_costs : Nat → Int32} {rr : Int32} {kk' : Unit} (fx : q_Fx p s m args meth c cX0_costsOf 4 RX0 (some .int) D cI cJ cZ cS tb A) {ag4 : Int32 → Int32 → Int32 → Option (Int32 × Unit)} (hag4 : ∀ {y1 : Int32} {y2 : Int32} {y3 : Int32} {H : Heap} {locs : List Loc} {ls : Array Slot}, q_H D A s (wX0_costsOf cI cJ cZ cS a_t a_kinds a_costs a_terms a_known v_size v_list v_told v_costs) H locs → lv_has ls 4 [(0, .ref a_t), (1, .int y1), (2, .int y2), (3, .int y3)] → ag4 y1 y2 y3 = some (rr, kk') → W p l e rX0_costsOf s m args below meth c H locs 0 0 (MQ below (q_Ri D rr A ((fun k : Unit => (wX0_costsOf cI cJ cZ cS a_t a_kinds a_costs a_terms a_known v_size v_list v_told v_costs)) kk')) args s 0 0 A) (F0 m 4 ls [])) : ∀ {s0 : Int32} {s1 : Int32} {y1 : Int32} {y3 : Int32} {H : Heap} {locs : List Loc} {ls : Array Slot}, q_H D A s (wX0_costsOf cI cJ cZ cS a_t a_kinds a_costs a_terms a_known v_size v_list v_told v_costs) H locs → lv_has ls 4 [(0, .ref a_t), (1, .int y1), (3, .int y3)] → fX0_costsOf_31 v_size v_costs ag4 s0 s1 y1 y3 = some (rr, kk') → W p l e rX0_costsOf s m args below meth c H locs 0 0 (MQ below (q_Ri D rr A ((fun k : Unit => (wX0_costsOf cI cJ cZ cS a_t a_kinds a_costs a_terms a_known v_size v_list v_told v_costs)) kk')) args s 0 0 A) (F0 m 31 ls [.int s1, .int s0]) := by
  intro s0 s1 y1 y3 H locs ls h hl hf
  have hx := fx.1
  have hb := fx.2.1
  unfold fX0_costsOf_31 at hf
  refine lv_iadd hx hb dX0_costsOf_31 ?_
  obtain ⟨u1, eu1, hf⟩ := nm_inv hf
  refine lv_eqi eu1 ?_
  refine lv_istore_n (lv' := [(2, .int u1), (0, .ref a_t), (1, .int y1), (3, .int y3)]) hx hb dX0_costsOf_32 rfl hl (by decide) rfl (fun ls hl => ?_)
  obtain ⟨u2, eu2, hf⟩ := nm_inv hf
  refine lv_iinc (v := u2) (lv' := [(3, .int u2), (2, .int u1), (0, .ref a_t), (1, .int y1)]) hx hb dX0_costsOf_33 hl (k := 3) rfl (by rw [eu2]; rfl) (by decide) rfl (fun ls hl => ?_)
  refine lv_goto (tgt := 4) hx hb dX0_costsOf_36 (by decide) ?_
  exact hag4 h (lv_sub hl [2, 3, 1, 0] rfl) hf
def fX0_costsOf_4 (v_size : Int32) (v_costs : Nat → Int32) (ag4 : Int32 → Int32 → Int32 → Option (Int32 × Unit)) (y1 : Int32) (y2 : Int32) (y3 : Int32) : Option (Int32 × Unit) :=
  (if v_size ≤ y3 then (
  some (y2, ()))
  else (
  bR (fX4_isOn y3 y1) (fun r4 k4 =>
  (if r4 = 0 then (
  fX0_costsOf_31 v_size v_costs ag4 y2 0 y1 y3)
  else (
  gIn y3 8 (
  fX0_costsOf_31 v_size v_costs ag4 y2 (v_costs y3.toNatClampNeg) y1 y3))))))
set_option maxRecDepth 100000 in
set_option maxHeartbeats 4000000 in
theorem LX0_costsOf_4 {p : Program} {l : Launch} {e : Env} {s : State} {m : MethodId} {args : Array Value} {below : List Frame} {meth : Method} {c : Code} {D : va_G} {cI cJ cZ cS : ClassId} {tb : Nat} {A : Nat → Prop} {a_t a_kinds a_costs a_terms a_known : Nat} {v_size : Int32} {v_list : Int32} {v_told : Int32} {v_costs : Nat → Int32} {rr : Int32} {kk' : Unit} (fx : q_Fx p s m args meth c cX0_costsOf 4 RX0 (some .int) D cI cJ cZ cS tb A) {ag4 : Int32 → Int32 → Int32 → Option (Int32 × Unit)} (hag4 : ∀ {y1 : Int32} {y2 : Int32} {y3 : Int32} {H : Heap} {locs : List Loc} {ls : Array Slot}, q_H D A s (wX0_costsOf cI cJ cZ cS a_t a_kinds a_costs a_terms a_known v_size v_list v_told v_costs) H locs → lv_has ls 4 [(0, .ref a_t), (1, .int y1), (2, .int y2), (3, .int y3)] → ag4 y1 y2 y3 = some (rr, kk') → W p l e rX0_costsOf s m args below meth c H locs 0 0 (MQ below (q_Ri D rr A ((fun k : Unit => (wX0_costsOf cI cJ cZ cS a_t a_kinds a_costs a_terms a_known v_size v_list v_told v_costs)) kk')) args s 0 0 A) (F0 m 4 ls [])) : ∀ {y1 : Int32} {y2 : Int32} {y3 : Int32} {H : Heap} {locs : List Loc} {ls : Array Slot}, q_H D A s (wX0_costsOf cI cJ cZ cS a_t a_kinds a_costs a_terms a_known v_size v_list v_told v_costs) H locs → lv_has ls 4 [(0, .ref a_t), (1, .int y1), (2, .int y2), (3, .int y3)] → fX0_costsOf_4 v_size v_costs ag4 y1 y2 y3 = some (rr, kk') → W p l e rX0_costsOf s m args below meth c H locs 0 0 (MQ below (q_Ri D rr A ((fun k : Unit => (wX0_costsOf cI cJ cZ cS a_t a_kinds a_costs a_terms a_known v_size v_list v_told v_costs)) kk')) args s 0 0 A) (F0 m 4 ls []) := by
  intro y1 y2 y3 H locs ls h hl hf
  have hx := fx.1
  have hb := fx.2.1
  unfold fX0_costsOf_4 at hf
  refine lv_iload_n hx hb dX0_costsOf_4 rfl (lv_at hl 3 rfl) ?_
  refine lv_aload_n hx hb dX0_costsOf_5 rfl (lv_at hl 0 rfl) ?_
  refine q_get (v := .int v_size) fx inX0 h 0 rfl rfl 0 (by decide) k_80 rfl dX0_costsOf_6 ?_
  refine lv_icmp_ge (tgt := 39) hx hb dX0_costsOf_9 (by decide) (fun c3 => ?_) (fun c3 => ?_)
  · have hf := it_t c3 hf
    refine lv_iload_n hx hb dX0_costsOf_39 rfl (lv_at hl 2 rfl) ?_
    exact q_reti (fun k : Unit => (wX0_costsOf cI cJ cZ cS a_t a_kinds a_costs a_terms a_known v_size v_list v_told v_costs)) fx hf h dX0_costsOf_40
  have hf := it_f c3 hf
  refine lv_iload_n hx hb dX0_costsOf_12 rfl (lv_at hl 2 rfl) ?_
  refine lv_iload_n hx hb dX0_costsOf_13 rfl (lv_at hl 3 rfl) ?_
  refine lv_iload_n hx hb dX0_costsOf_14 rfl (lv_at hl 1 rfl) ?_
  obtain ⟨r4, k4, hg, hf⟩ := bR_inv hf
  refine q_ci (rest := [.int y2]) (ws' := (wX0_costsOf cI cJ cZ cS a_t a_kinds a_costs a_terms a_known v_size v_list v_told v_costs)) (w1 := (wX4_isOn cI cJ cZ cS)) fx h [] rfl rfl rfl rfl (q_runSN fx h hl.1 [] rfl rfl (tX4_isOn l D cI cJ cZ cS tb H.size y3 y1 r4 k4 hg) msX4_isOn nm_3 ⟨rfl, rfl⟩ ⟨Nat.le_of_ble_eq_true rfl, Nat.le_of_ble_eq_true rfl⟩ rfl rfl (Nat.le_of_ble_eq_true rfl) dX0_costsOf_15 ⟨Nat.le_of_ble_eq_true rfl, Nat.le_of_ble_eq_true rfl⟩) (fun H locs h => ?_)
  refine lv_if_eq (tgt := 30) hx hb dX0_costsOf_18 (by decide) (fun c5 => ?_) (fun c5 => ?_)
  · have hf := it_t c5 hf
    refine lv_iconst (v := 0) hx hb dX0_costsOf_30 (by decide) ?_
    exact LX0_costsOf_31 fx hag4 h (lv_sub hl [0, 1, 3] rfl) hf
  have hf := it_f c5 hf
  refine lv_aload_n hx hb dX0_costsOf_21 rfl (lv_at hl 0 rfl) ?_
  refine q_get (v := .ref a_costs) fx inX0 h 0 rfl rfl 4 (by decide) k_90 rfl dX0_costsOf_22 ?_
  refine lv_iload_n hx hb dX0_costsOf_25 rfl (lv_at hl 3 rfl) ?_
  obtain ⟨i6, hf⟩ := gIn_inv hf
  refine q_iald fx h 1 rfl i6 dX0_costsOf_26 ?_
  refine lv_goto (tgt := 31) hx hb dX0_costsOf_27 (by decide) ?_
  exact LX0_costsOf_31 fx hag4 h (lv_sub hl [0, 1, 3] rfl) hf
set_option maxRecDepth 100000 in
theorem EX0_costsOf_4 {p : Program} {l : Launch} {e : Env} {s : State} {m : MethodId} {args : Array Value} {below : List Frame} {meth : Method} {c : Code} {D : va_G} {cI cJ cZ cS : ClassId} {tb : Nat} {A : Nat → Prop} {a_t a_kinds a_costs a_terms a_known : Nat} {v_size : Int32} {v_list : Int32} {v_told : Int32} {v_costs : Nat → Int32} {rr : Int32} {kk' : Unit} (fx : q_Fx p s m args meth c cX0_costsOf 4 RX0 (some .int) D cI cJ cZ cS tb A) : ∀ (n : Nat), ∀ {y1 : Int32} {y2 : Int32} {y3 : Int32} {H : Heap} {locs : List Loc} {ls : Array Slot}, q_H D A s (wX0_costsOf cI cJ cZ cS a_t a_kinds a_costs a_terms a_known v_size v_list v_told v_costs) H locs → lv_has ls 4 [(0, .ref a_t), (1, .int y1), (2, .int y2), (3, .int y3)] → ll3 (fX0_costsOf_4 v_size v_costs) n y1 y2 y3 = some (rr, kk') → W p l e rX0_costsOf s m args below meth c H locs 0 0 (MQ below (q_Ri D rr A ((fun k : Unit => (wX0_costsOf cI cJ cZ cS a_t a_kinds a_costs a_terms a_known v_size v_list v_told v_costs)) kk')) args s 0 0 A) (F0 m 4 ls []) := by
  intro n
  induction n with
  | zero => intro y1 y2 y3 H locs ls h hl hf; exact (ll3_z hf).elim
  | succ n ih => intro y1 y2 y3 H locs ls h hl hf; exact LX0_costsOf_4 fx ih h hl (ll3_s hf)
def fX0_costsOf (v_size : Int32) (v_costs : Nat → Int32) (x1 : Int32) : Option (Int32 × Unit) :=
  ll3 (fX0_costsOf_4 v_size v_costs) qF x1 0 0
set_option maxRecDepth 100000 in
set_option maxHeartbeats 4000000 in
theorem tX0_costsOf (l : Launch) (D : va_G) (cI cJ cZ cS : ClassId) (tb : Nat) (a_t a_kinds a_costs a_terms a_known : Nat) (sz : Nat) (v_size : Int32) (v_list : Int32) (v_told : Int32) (v_costs : Nat → Int32) (x1 : Int32) (rr : Int32) (kk' : Unit) (hf : fX0_costsOf v_size v_costs x1 = some (rr, kk')) : Met l yX0_costsOf (Cond.code yX0_costsOf cX0_costsOf 4 (some .int) :: wA) rX0_costsOf (q_Pre D cI cJ cZ cS tb [.ref a_t, .int x1] sz (wX0_costsOf cI cJ cZ cS a_t a_kinds a_costs a_terms a_known v_size v_list v_told v_costs)) (q_Ri D rr (va_A (wX0_costsOf cI cJ cZ cS a_t a_kinds a_costs a_terms a_known v_size v_list v_told v_costs) sz) ((fun k : Unit => (wX0_costsOf cI cJ cZ cS a_t a_kinds a_costs a_terms a_known v_size v_list v_told v_costs)) kk')) 0 0 (va_A (wX0_costsOf cI cJ cZ cS a_t a_kinds a_costs a_terms a_known v_size v_list v_told v_costs) sz) := by
  refine q_enter (Qf := fun A => (q_Ri D rr A ((fun k : Unit => (wX0_costsOf cI cJ cZ cS a_t a_kinds a_costs a_terms a_known v_size v_list v_told v_costs)) kk'))) (by decide) rfl (Nat.le_of_ble_eq_true rfl) ?_
  intro p e s m below meth c A ls fx hname h hl
  have hx := fx.1
  have hb := fx.2.1
  have hl : lv_has ls 4 [(0, .ref a_t), (1, .int x1)] := hl
  generalize h9 : s.heap = H at h ⊢
  clear h9
  generalize h9 : ([] : List Loc) = locs at h ⊢
  clear h9
  unfold fX0_costsOf at hf
  refine lv_iconst (v := 0) hx hb dX0_costsOf_0 (by decide) ?_
  refine lv_istore_n (lv' := [(2, .int 0), (0, .ref a_t), (1, .int x1)]) hx hb dX0_costsOf_1 rfl hl (by decide) rfl (fun ls hl => ?_)
  refine lv_iconst (v := 0) hx hb dX0_costsOf_2 (by decide) ?_
  refine lv_istore_n (lv' := [(3, .int 0), (2, .int 0), (0, .ref a_t), (1, .int x1)]) hx hb dX0_costsOf_3 rfl hl (by decide) rfl (fun ls hl => ?_)
  exact EX0_costsOf_4 fx qF h (lv_sub hl [2, 3, 1, 0] rfl) hf
/-! X4_now -/
abbrev wX4_now (cI cJ cZ cS : ClassId) (a_t a_party a_party_kinds a_party_costs a_party_terms a_party_known a_kept a_tape a_telephone a_sheets a_findings : Nat) (v_isKept : Int32) (v_party_size : Int32) (v_party_list : Int32) (v_party_told : Int32) (v_party_kinds : Nat → Int32) (v_party_costs : Nat → Int32) (v_party_terms : Nat → Int64) (v_party_known : Nat → Int32) (v_findings : Nat → Int32) : va_W := [(a_t, .inr (4, [.ref a_party, .ref a_kept, .int v_isKept, .ref a_tape, .ref a_telephone, .ref a_sheets, .ref a_findings])), (a_party, .inr (0, [.int v_party_size, .int v_party_list, .int v_party_told, .ref a_party_kinds, .ref a_party_costs, .ref a_party_terms, .ref a_party_known])), (a_party_kinds, .inl (cI, 8, .inl v_party_kinds)), (a_party_costs, .inl (cI, 8, .inl v_party_costs)), (a_party_terms, .inl (cJ, 32, .inr (.inl v_party_terms))), (a_party_known, .inl (cI, 256, .inl v_party_known)), (a_findings, .inl (cI, 7, .inl v_findings))]
abbrev rX4_now : Room := { frames := 5, cells := 0, slots := 0, locals := 111 }
def fX4_now (v_party_size : Int32) (v_party_list : Int32) (v_party_kinds : Nat → Int32) (v_party_costs : Nat → Int32) (v_party_terms : Nat → Int64) (v_party_known : Nat → Int32) (v_findings : Nat → Int32) (x1 : Int32) : Option (Int32 × (Nat → Int32) × (Nat → Int32)) :=
  (if (x1).toInt < 0 ∨ 4 < (x1).toInt then (
  bR (fX4_found v_findings (-1000000001)) (fun r2 k2 =>
  some (r2, (v_party_known, k2))))
  else (if x1 = 0 then (
  some (v_party_list, (v_party_known, v_findings)))
  else (if x1 = 1 then (
  bR (fJ6_bitCount_0f7a4 v_party_list) (fun r5 k5 =>
  some (r5, (v_party_known, v_findings))))
  else (if x1 = 2 then (
  bR (fX0_comers v_party_size v_party_kinds v_party_terms v_party_known v_party_list) (fun r7 k7 =>
  some (r7, (k7, v_findings))))
  else (if x1 = 3 then (
  bR (fX0_isSettled v_party_size v_party_kinds v_party_terms v_party_known v_party_list) (fun r9 k9 =>
  bR (fX4_oneIf r9) (fun r10 k10 =>
  some (r10, (k9, v_findings)))))
  else (if x1 = 4 then (
  bR (fX0_costsOf v_party_size v_party_costs v_party_list) (fun r12 k12 =>
  some (r12, (v_party_known, v_findings))))
  else none))))))
set_option maxRecDepth 100000 in
set_option maxHeartbeats 4000000 in
theorem tX4_now (l : Launch) (D : va_G) (cI cJ cZ cS : ClassId) (tb : Nat) (a_t a_party a_party_kinds a_party_costs a_party_terms a_party_known a_kept a_tape a_telephone a_sheets a_findings : Nat) (sz : Nat) (v_isKept : Int32) (v_party_size : Int32) (v_party_list : Int32) (v_party_told : Int32) (v_party_kinds : Nat → Int32) (v_party_costs : Nat → Int32) (v_party_terms : Nat → Int64) (v_party_known : Nat → Int32) (v_findings : Nat → Int32) (x1 : Int32) (rr : Int32) (kk' : (Nat → Int32) × (Nat → Int32)) (hf : fX4_now v_party_size v_party_list v_party_kinds v_party_costs v_party_terms v_party_known v_findings x1 = some (rr, kk')) : Met l yX4_now (Cond.code yX4_now cX4_now 2 (some .int) :: wA) rX4_now (q_Pre D cI cJ cZ cS tb [.ref a_t, .int x1] sz (wX4_now cI cJ cZ cS a_t a_party a_party_kinds a_party_costs a_party_terms a_party_known a_kept a_tape a_telephone a_sheets a_findings v_isKept v_party_size v_party_list v_party_told v_party_kinds v_party_costs v_party_terms v_party_known v_findings)) (q_Ri D rr (va_A (wX4_now cI cJ cZ cS a_t a_party a_party_kinds a_party_costs a_party_terms a_party_known a_kept a_tape a_telephone a_sheets a_findings v_isKept v_party_size v_party_list v_party_told v_party_kinds v_party_costs v_party_terms v_party_known v_findings) sz) ((fun k : (Nat → Int32) × (Nat → Int32) => (wX4_now cI cJ cZ cS a_t a_party a_party_kinds a_party_costs a_party_terms a_party_known a_kept a_tape a_telephone a_sheets a_findings v_isKept v_party_size v_party_list v_party_told v_party_kinds v_party_costs v_party_terms k.1 k.2)) kk')) 0 0 (va_A (wX4_now cI cJ cZ cS a_t a_party a_party_kinds a_party_costs a_party_terms a_party_known a_kept a_tape a_telephone a_sheets a_findings v_isKept v_party_size v_party_list v_party_told v_party_kinds v_party_costs v_party_terms v_party_known v_findings) sz) := by
  refine q_enter (Qf := fun A => (q_Ri D rr A ((fun k : (Nat → Int32) × (Nat → Int32) => (wX4_now cI cJ cZ cS a_t a_party a_party_kinds a_party_costs a_party_terms a_party_known a_kept a_tape a_telephone a_sheets a_findings v_isKept v_party_size v_party_list v_party_told v_party_kinds v_party_costs v_party_terms k.1 k.2)) kk'))) (by decide) rfl (Nat.le_of_ble_eq_true rfl) ?_
  intro p e s m below meth c A ls fx hname h hl
  have hx := fx.1
  have hb := fx.2.1
  have hl : lv_has ls 2 [(0, .ref a_t), (1, .int x1)] := hl
  generalize h9 : s.heap = H at h ⊢
  clear h9
  generalize h9 : ([] : List Loc) = locs at h ⊢
  clear h9
  unfold fX4_now at hf
  refine lv_iload_n hx hb dX4_now_0 rfl (lv_at hl 1 rfl) ?_
  rcases it_or hf with ⟨c1, hf⟩ | ⟨c1, hf⟩
  · refine lv_tableOut (tgt := 103) hx hb dX4_now_1 c1 (by decide) ?_
    refine lv_aload_n hx hb dX4_now_103 rfl (lv_at hl 0 rfl) ?_
    refine q_ldc fx k_206 dX4_now_104 ?_
    obtain ⟨r2, k2, hg, hf⟩ := bR_inv hf
    refine q_ci (rest := []) (ws' := (wX4_now cI cJ cZ cS a_t a_party a_party_kinds a_party_costs a_party_terms a_party_known a_kept a_tape a_telephone a_sheets a_findings v_isKept v_party_size v_party_list v_party_told v_party_kinds v_party_costs v_party_terms v_party_known k2)) (w1 := (wX4_found cI cJ cZ cS a_t a_party a_kept a_tape a_telephone a_sheets a_findings v_isKept k2)) fx h [0, 6] rfl rfl rfl rfl (q_runV fx h hl.1 [0, 6] rfl rfl (tX4_found l D cI cJ cZ cS tb a_t a_party a_kept a_tape a_telephone a_sheets a_findings H.size v_isKept v_findings (-1000000001) r2 k2 hg) mvX4_found k_207 ⟨rfl, rfl⟩ ⟨Nat.le_of_ble_eq_true rfl, Nat.le_of_ble_eq_true rfl⟩ rfl rfl rfl rfl (Nat.le_of_ble_eq_true rfl) dX4_now_106 ⟨Nat.le_of_ble_eq_true rfl, Nat.le_of_ble_eq_true rfl⟩) (fun H locs h => ?_)
    exact q_reti (fun k : (Nat → Int32) × (Nat → Int32) => (wX4_now cI cJ cZ cS a_t a_party a_party_kinds a_party_costs a_party_terms a_party_known a_kept a_tape a_telephone a_sheets a_findings v_isKept v_party_size v_party_list v_party_told v_party_kinds v_party_costs v_party_terms k.1 k.2)) fx hf h dX4_now_109
  have c1 := not_or.mp c1
  rcases it_or hf with ⟨c3, hf⟩ | ⟨c3, hf⟩
  · refine lv_tableIn (off := 35) (tgt := 36) hx hb dX4_now_1 c1.1 c1.2 (by rw [c3]; rfl) (by decide) ?_
    refine lv_aload_n hx hb dX4_now_36 rfl (lv_at hl 0 rfl) ?_
    refine q_get (v := .ref a_party) fx inX4 h 0 rfl rfl 0 (by decide) k_174 rfl dX4_now_37 ?_
    refine q_getN (v := .int v_party_list) fx inX0 h 1 rfl rfl 1 (by decide) nf_3 rfl dX4_now_40 ?_
    exact q_reti (fun k : (Nat → Int32) × (Nat → Int32) => (wX4_now cI cJ cZ cS a_t a_party a_party_kinds a_party_costs a_party_terms a_party_known a_kept a_tape a_telephone a_sheets a_findings v_isKept v_party_size v_party_list v_party_told v_party_kinds v_party_costs v_party_terms k.1 k.2)) fx hf h dX4_now_43
  rcases it_or hf with ⟨c4, hf⟩ | ⟨c4, hf⟩
  · refine lv_tableIn (off := 43) (tgt := 44) hx hb dX4_now_1 c1.1 c1.2 (by rw [c4]; rfl) (by decide) ?_
    refine lv_aload_n hx hb dX4_now_44 rfl (lv_at hl 0 rfl) ?_
    refine q_get (v := .ref a_party) fx inX4 h 0 rfl rfl 0 (by decide) k_174 rfl dX4_now_45 ?_
    refine q_getN (v := .int v_party_list) fx inX0 h 1 rfl rfl 1 (by decide) nf_3 rfl dX4_now_48 ?_
    obtain ⟨r5, k5, hg, hf⟩ := bR_inv hf
    refine q_ci (rest := []) (ws' := (wX4_now cI cJ cZ cS a_t a_party a_party_kinds a_party_costs a_party_terms a_party_known a_kept a_tape a_telephone a_sheets a_findings v_isKept v_party_size v_party_list v_party_told v_party_kinds v_party_costs v_party_terms v_party_known v_findings)) (w1 := (wJ6_bitCount_0f7a4 cI cJ cZ cS)) fx h [] rfl rfl rfl rfl (q_runS fx h hl.1 [] rfl rfl (tJ6_bitCount_0f7a4 l D cI cJ cZ cS tb H.size v_party_list r5 k5 hg) msJ6_bitCount_0f7a4 k_239 ⟨rfl, rfl⟩ ⟨Nat.le_of_ble_eq_true rfl, Nat.le_of_ble_eq_true rfl⟩ rfl rfl (Nat.le_of_ble_eq_true rfl) dX4_now_51 ⟨Nat.le_of_ble_eq_true rfl, Nat.le_of_ble_eq_true rfl⟩) (fun H locs h => ?_)
    exact q_reti (fun k : (Nat → Int32) × (Nat → Int32) => (wX4_now cI cJ cZ cS a_t a_party a_party_kinds a_party_costs a_party_terms a_party_known a_kept a_tape a_telephone a_sheets a_findings v_isKept v_party_size v_party_list v_party_told v_party_kinds v_party_costs v_party_terms k.1 k.2)) fx hf h dX4_now_54
  rcases it_or hf with ⟨c6, hf⟩ | ⟨c6, hf⟩
  · refine lv_tableIn (off := 54) (tgt := 55) hx hb dX4_now_1 c1.1 c1.2 (by rw [c6]; rfl) (by decide) ?_
    refine lv_aload_n hx hb dX4_now_55 rfl (lv_at hl 0 rfl) ?_
    refine q_get (v := .ref a_party) fx inX4 h 0 rfl rfl 0 (by decide) k_174 rfl dX4_now_56 ?_
    refine lv_aload_n hx hb dX4_now_59 rfl (lv_at hl 0 rfl) ?_
    refine q_get (v := .ref a_party) fx inX4 h 0 rfl rfl 0 (by decide) k_174 rfl dX4_now_60 ?_
    refine q_getN (v := .int v_party_list) fx inX0 h 1 rfl rfl 1 (by decide) nf_3 rfl dX4_now_63 ?_
    obtain ⟨r7, k7, hg, hf⟩ := bR_inv hf
    refine q_ci (rest := []) (ws' := (wX4_now cI cJ cZ cS a_t a_party a_party_kinds a_party_costs a_party_terms a_party_known a_kept a_tape a_telephone a_sheets a_findings v_isKept v_party_size v_party_list v_party_told v_party_kinds v_party_costs v_party_terms k7 v_findings)) (w1 := (wX0_comers cI cJ cZ cS a_party a_party_kinds a_party_costs a_party_terms a_party_known v_party_size v_party_list v_party_told v_party_kinds v_party_terms k7)) fx h [1, 2, 4, 5] rfl rfl rfl rfl (q_runV fx h hl.1 [1, 2, 4, 5] rfl rfl (tX0_comers l D cI cJ cZ cS tb a_party a_party_kinds a_party_costs a_party_terms a_party_known H.size v_party_size v_party_list v_party_told v_party_kinds v_party_terms v_party_known v_party_list r7 k7 hg) mvX0_comers k_224 ⟨rfl, rfl⟩ ⟨Nat.le_of_ble_eq_true rfl, Nat.le_of_ble_eq_true rfl⟩ rfl rfl rfl rfl (Nat.le_of_ble_eq_true rfl) dX4_now_66 ⟨Nat.le_of_ble_eq_true rfl, Nat.le_of_ble_eq_true rfl⟩) (fun H locs h => ?_)
    exact q_reti (fun k : (Nat → Int32) × (Nat → Int32) => (wX4_now cI cJ cZ cS a_t a_party a_party_kinds a_party_costs a_party_terms a_party_known a_kept a_tape a_telephone a_sheets a_findings v_isKept v_party_size v_party_list v_party_told v_party_kinds v_party_costs v_party_terms k.1 k.2)) fx hf h dX4_now_69
  rcases it_or hf with ⟨c8, hf⟩ | ⟨c8, hf⟩
  · refine lv_tableIn (off := 69) (tgt := 70) hx hb dX4_now_1 c1.1 c1.2 (by rw [c8]; rfl) (by decide) ?_
    refine lv_aload_n hx hb dX4_now_70 rfl (lv_at hl 0 rfl) ?_
    refine q_get (v := .ref a_party) fx inX4 h 0 rfl rfl 0 (by decide) k_174 rfl dX4_now_71 ?_
    refine lv_aload_n hx hb dX4_now_74 rfl (lv_at hl 0 rfl) ?_
    refine q_get (v := .ref a_party) fx inX4 h 0 rfl rfl 0 (by decide) k_174 rfl dX4_now_75 ?_
    refine q_getN (v := .int v_party_list) fx inX0 h 1 rfl rfl 1 (by decide) nf_3 rfl dX4_now_78 ?_
    obtain ⟨r9, k9, hg, hf⟩ := bR_inv hf
    refine q_ci (rest := []) (ws' := (wX4_now cI cJ cZ cS a_t a_party a_party_kinds a_party_costs a_party_terms a_party_known a_kept a_tape a_telephone a_sheets a_findings v_isKept v_party_size v_party_list v_party_told v_party_kinds v_party_costs v_party_terms k9 v_findings)) (w1 := (wX0_isSettled cI cJ cZ cS a_party a_party_kinds a_party_costs a_party_terms a_party_known v_party_size v_party_list v_party_told v_party_kinds v_party_terms k9)) fx h [1, 2, 4, 5] rfl rfl rfl rfl (q_runV fx h hl.1 [1, 2, 4, 5] rfl rfl (tX0_isSettled l D cI cJ cZ cS tb a_party a_party_kinds a_party_costs a_party_terms a_party_known H.size v_party_size v_party_list v_party_told v_party_kinds v_party_terms v_party_known v_party_list r9 k9 hg) mvX0_isSettled k_358 ⟨rfl, rfl⟩ ⟨Nat.le_of_ble_eq_true rfl, Nat.le_of_ble_eq_true rfl⟩ rfl rfl rfl rfl (Nat.le_of_ble_eq_true rfl) dX4_now_81 ⟨Nat.le_of_ble_eq_true rfl, Nat.le_of_ble_eq_true rfl⟩) (fun H locs h => ?_)
    obtain ⟨r10, k10, hg, hf⟩ := bR_inv hf
    refine q_ci (rest := []) (ws' := (wX4_now cI cJ cZ cS a_t a_party a_party_kinds a_party_costs a_party_terms a_party_known a_kept a_tape a_telephone a_sheets a_findings v_isKept v_party_size v_party_list v_party_told v_party_kinds v_party_costs v_party_terms k9 v_findings)) (w1 := (wX4_oneIf cI cJ cZ cS)) fx h [] rfl rfl rfl rfl (q_runS fx h hl.1 [] rfl rfl (tX4_oneIf l D cI cJ cZ cS tb H.size r9 r10 k10 hg) msX4_oneIf k_246 ⟨rfl, rfl⟩ ⟨Nat.le_of_ble_eq_true rfl, Nat.le_of_ble_eq_true rfl⟩ rfl rfl (Nat.le_of_ble_eq_true rfl) dX4_now_84 ⟨Nat.le_of_ble_eq_true rfl, Nat.le_of_ble_eq_true rfl⟩) (fun H locs h => ?_)
    exact q_reti (fun k : (Nat → Int32) × (Nat → Int32) => (wX4_now cI cJ cZ cS a_t a_party a_party_kinds a_party_costs a_party_terms a_party_known a_kept a_tape a_telephone a_sheets a_findings v_isKept v_party_size v_party_list v_party_told v_party_kinds v_party_costs v_party_terms k.1 k.2)) fx hf h dX4_now_87
  rcases it_or hf with ⟨c11, hf⟩ | ⟨c11, hf⟩
  · refine lv_tableIn (off := 87) (tgt := 88) hx hb dX4_now_1 c1.1 c1.2 (by rw [c11]; rfl) (by decide) ?_
    refine lv_aload_n hx hb dX4_now_88 rfl (lv_at hl 0 rfl) ?_
    refine q_get (v := .ref a_party) fx inX4 h 0 rfl rfl 0 (by decide) k_174 rfl dX4_now_89 ?_
    refine lv_aload_n hx hb dX4_now_92 rfl (lv_at hl 0 rfl) ?_
    refine q_get (v := .ref a_party) fx inX4 h 0 rfl rfl 0 (by decide) k_174 rfl dX4_now_93 ?_
    refine q_getN (v := .int v_party_list) fx inX0 h 1 rfl rfl 1 (by decide) nf_3 rfl dX4_now_96 ?_
    obtain ⟨r12, k12, hg, hf⟩ := bR_inv hf
    refine q_ci (rest := []) (ws' := (wX4_now cI cJ cZ cS a_t a_party a_party_kinds a_party_costs a_party_terms a_party_known a_kept a_tape a_telephone a_sheets a_findings v_isKept v_party_size v_party_list v_party_told v_party_kinds v_party_costs v_party_terms v_party_known v_findings)) (w1 := (wX0_costsOf cI cJ cZ cS a_party a_party_kinds a_party_costs a_party_terms a_party_known v_party_size v_party_list v_party_told v_party_costs)) fx h [1, 3] rfl rfl rfl rfl (q_runV fx h hl.1 [1, 3] rfl rfl (tX0_costsOf l D cI cJ cZ cS tb a_party a_party_kinds a_party_costs a_party_terms a_party_known H.size v_party_size v_party_list v_party_told v_party_costs v_party_list r12 k12 hg) mvX0_costsOf k_363 ⟨rfl, rfl⟩ ⟨Nat.le_of_ble_eq_true rfl, Nat.le_of_ble_eq_true rfl⟩ rfl rfl rfl rfl (Nat.le_of_ble_eq_true rfl) dX4_now_99 ⟨Nat.le_of_ble_eq_true rfl, Nat.le_of_ble_eq_true rfl⟩) (fun H locs h => ?_)
    exact q_reti (fun k : (Nat → Int32) × (Nat → Int32) => (wX4_now cI cJ cZ cS a_t a_party a_party_kinds a_party_costs a_party_terms a_party_known a_kept a_tape a_telephone a_sheets a_findings v_isKept v_party_size v_party_list v_party_told v_party_kinds v_party_costs v_party_terms k.1 k.2)) fx hf h dX4_now_102
  cases hf
/-! X0_called -/
abbrev wX0_called (cI cJ cZ cS : ClassId) (a_t a_kinds a_costs a_terms a_known : Nat) (v_size : Int32) (v_list : Int32) (v_told : Int32) (v_kinds : Nat → Int32) (v_terms : Nat → Int64) (v_known : Nat → Int32) : va_W := [(a_t, .inr (0, [.int v_size, .int v_list, .int v_told, .ref a_kinds, .ref a_costs, .ref a_terms, .ref a_known])), (a_kinds, .inl (cI, 8, .inl v_kinds)), (a_terms, .inl (cJ, 32, .inr (.inl v_terms))), (a_known, .inl (cI, 256, .inl v_known))]
abbrev rX0_called : Room := { frames := 4, cells := 0, slots := 0, locals := 90 }
def fX0_called (v_size : Int32) (v_kinds : Nat → Int32) (v_terms : Nat → Int64) (v_known : Nat → Int32) (x1 : Int32) (x2 : Int32) : Option (Int32 × (Nat → Int32)) :=
  bR (fX0_comers v_size v_kinds v_terms v_known x2) (fun r1 k1 =>
  some ((x2 &&& ((jshl 1 x1) ^^^ (-1))) ||| (r1 &&& (jshl 1 x1)), k1))
set_option maxRecDepth 100000 in
set_option maxHeartbeats 4000000 in
theorem tX0_called (l : Launch) (D : va_G) (cI cJ cZ cS : ClassId) (tb : Nat) (a_t a_kinds a_costs a_terms a_known : Nat) (sz : Nat) (v_size : Int32) (v_list : Int32) (v_told : Int32) (v_kinds : Nat → Int32) (v_terms : Nat → Int64) (v_known : Nat → Int32) (x1 : Int32) (x2 : Int32) (rr : Int32) (kk' : (Nat → Int32)) (hf : fX0_called v_size v_kinds v_terms v_known x1 x2 = some (rr, kk')) : Met l yX0_called (Cond.code yX0_called cX0_called 3 (some .int) :: wA) rX0_called (q_Pre D cI cJ cZ cS tb [.ref a_t, .int x1, .int x2] sz (wX0_called cI cJ cZ cS a_t a_kinds a_costs a_terms a_known v_size v_list v_told v_kinds v_terms v_known)) (q_Ri D rr (va_A (wX0_called cI cJ cZ cS a_t a_kinds a_costs a_terms a_known v_size v_list v_told v_kinds v_terms v_known) sz) ((fun k : (Nat → Int32) => (wX0_called cI cJ cZ cS a_t a_kinds a_costs a_terms a_known v_size v_list v_told v_kinds v_terms k)) kk')) 0 0 (va_A (wX0_called cI cJ cZ cS a_t a_kinds a_costs a_terms a_known v_size v_list v_told v_kinds v_terms v_known) sz) := by
  refine q_enter (Qf := fun A => (q_Ri D rr A ((fun k : (Nat → Int32) => (wX0_called cI cJ cZ cS a_t a_kinds a_costs a_terms a_known v_size v_list v_told v_kinds v_terms k)) kk'))) (by decide) rfl (Nat.le_of_ble_eq_true rfl) ?_
  intro p e s m below meth c A ls fx hname h hl
  have hx := fx.1
  have hb := fx.2.1
  have hl : lv_has ls 3 [(0, .ref a_t), (1, .int x1), (2, .int x2)] := hl
  generalize h9 : s.heap = H at h ⊢
  clear h9
  generalize h9 : ([] : List Loc) = locs at h ⊢
  clear h9
  unfold fX0_called at hf
  refine lv_iload_n hx hb dX0_called_0 rfl (lv_at hl 2 rfl) ?_
  refine lv_iconst (v := 1) hx hb dX0_called_1 (by decide) ?_
  refine lv_iload_n hx hb dX0_called_2 rfl (lv_at hl 1 rfl) ?_
  refine lv_ishl hx hb dX0_called_3 ?_
  refine lv_iconst (v := -1) hx hb dX0_called_4 (by decide) ?_
  refine lv_ixor hx hb dX0_called_5 ?_
  refine lv_iand hx hb dX0_called_6 ?_
  refine lv_aload_n hx hb dX0_called_7 rfl (lv_at hl 0 rfl) ?_
  refine lv_iload_n hx hb dX0_called_8 rfl (lv_at hl 2 rfl) ?_
  obtain ⟨r1, k1, hg, hf⟩ := bR_inv hf
  refine q_ci (rest := [.int (x2 &&& ((jshl 1 x1) ^^^ (-1)))]) (ws' := (wX0_called cI cJ cZ cS a_t a_kinds a_costs a_terms a_known v_size v_list v_told v_kinds v_terms k1)) (w1 := (wX0_comers cI cJ cZ cS a_t a_kinds a_costs a_terms a_known v_size v_list v_told v_kinds v_terms k1)) fx h [0, 1, 2, 3] rfl rfl rfl rfl (q_runV fx h hl.1 [0, 1, 2, 3] rfl rfl (tX0_comers l D cI cJ cZ cS tb a_t a_kinds a_costs a_terms a_known H.size v_size v_list v_told v_kinds v_terms v_known x2 r1 k1 hg) mvX0_comers k_362 ⟨rfl, rfl⟩ ⟨Nat.le_of_ble_eq_true rfl, Nat.le_of_ble_eq_true rfl⟩ rfl rfl rfl rfl (Nat.le_of_ble_eq_true rfl) dX0_called_9 ⟨Nat.le_of_ble_eq_true rfl, Nat.le_of_ble_eq_true rfl⟩) (fun H locs h => ?_)
  refine lv_iconst (v := 1) hx hb dX0_called_12 (by decide) ?_
  refine lv_iload_n hx hb dX0_called_13 rfl (lv_at hl 1 rfl) ?_
  refine lv_ishl hx hb dX0_called_14 ?_
  refine lv_iand hx hb dX0_called_15 ?_
  refine lv_ior hx hb dX0_called_16 ?_
  exact q_reti (fun k : (Nat → Int32) => (wX0_called cI cJ cZ cS a_t a_kinds a_costs a_terms a_known v_size v_list v_told v_kinds v_terms k)) fx hf h dX0_called_17
/-! X0_ringUp -/
abbrev wX0_ringUp (cI cJ cZ cS : ClassId) (a_t a_kinds a_costs a_terms a_known : Nat) (v_size : Int32) (v_list : Int32) (v_told : Int32) (v_kinds : Nat → Int32) (v_terms : Nat → Int64) (v_known : Nat → Int32) : va_W := [(a_t, .inr (0, [.int v_size, .int v_list, .int v_told, .ref a_kinds, .ref a_costs, .ref a_terms, .ref a_known])), (a_kinds, .inl (cI, 8, .inl v_kinds)), (a_terms, .inl (cJ, 32, .inr (.inl v_terms))), (a_known, .inl (cI, 256, .inl v_known))]
abbrev rX0_ringUp : Room := { frames := 5, cells := 0, slots := 0, locals := 112 }
def fX0_ringUp_28 (v_size : Int32) (v_kinds : Nat → Int32) (v_terms : Nat → Int64) (v_list : Int32) (v_known : Nat → Int32) (s0 : Int32) : Option (Int32 × Int32 × (Nat → Int32)) :=
  bR (fX4_oneIf s0) (fun r1 k1 =>
  some (r1, (v_list, v_known)))
set_option maxRecDepth 100000 in
set_option maxHeartbeats 4000000 in
theorem LX0_ringUp_28 {p : Program} {l : Launch} {e : Env} {s : State} {m : MethodId} {args : Array Value} {below : List Frame} {meth : Method} {c : Code} {D : va_G} {cI cJ cZ cS : ClassId} {tb : Nat} {A : Nat → Prop} {a_t a_kinds a_costs a_terms a_known : Nat} {v_size : Int32} {v_told : Int32} {v_kinds : Nat → Int32} {v_terms : Nat → Int64} {rr : Int32} {kk' : Int32 × (Nat → Int32)} (fx : q_Fx p s m args meth c cX0_ringUp 3 RX0 (some .int) D cI cJ cZ cS tb A) : ∀ {v_list : Int32} {v_known : Nat → Int32} {s0 : Int32} {H : Heap} {locs : List Loc} {ls : Array Slot}, q_H D A s (wX0_ringUp cI cJ cZ cS a_t a_kinds a_costs a_terms a_known v_size v_list v_told v_kinds v_terms v_known) H locs → lv_has ls 3 [] → fX0_ringUp_28 v_size v_kinds v_terms v_list v_known s0 = some (rr, kk') → W p l e rX0_ringUp s m args below meth c H locs 0 0 (MQ below (q_Ri D rr A ((fun k : Int32 × (Nat → Int32) => (wX0_ringUp cI cJ cZ cS a_t a_kinds a_costs a_terms a_known v_size k.1 v_told v_kinds v_terms k.2)) kk')) args s 0 0 A) (F0 m 28 ls [.int s0]) := by
  intro v_list v_known s0 H locs ls h hl hf
  have hx := fx.1
  have hb := fx.2.1
  unfold fX0_ringUp_28 at hf
  obtain ⟨r1, k1, hg, hf⟩ := bR_inv hf
  refine q_ci (rest := []) (ws' := (wX0_ringUp cI cJ cZ cS a_t a_kinds a_costs a_terms a_known v_size v_list v_told v_kinds v_terms v_known)) (w1 := (wX4_oneIf cI cJ cZ cS)) fx h [] rfl rfl rfl rfl (q_runSN fx h hl.1 [] rfl rfl (tX4_oneIf l D cI cJ cZ cS tb H.size s0 r1 k1 hg) msX4_oneIf nm_4 ⟨rfl, rfl⟩ ⟨Nat.le_of_ble_eq_true rfl, Nat.le_of_ble_eq_true rfl⟩ rfl rfl (Nat.le_of_ble_eq_true rfl) dX0_ringUp_28 ⟨Nat.le_of_ble_eq_true rfl, Nat.le_of_ble_eq_true rfl⟩) (fun H locs h => ?_)
  exact q_reti (fun k : Int32 × (Nat → Int32) => (wX0_ringUp cI cJ cZ cS a_t a_kinds a_costs a_terms a_known v_size k.1 v_told v_kinds v_terms k.2)) fx hf h dX0_ringUp_31
def fX0_ringUp (v_size : Int32) (v_list : Int32) (v_kinds : Nat → Int32) (v_terms : Nat → Int64) (v_known : Nat → Int32) (x1 : Int32) : Option (Int32 × Int32 × (Nat → Int32)) :=
  bR (fX0_called v_size v_kinds v_terms v_known x1 v_list) (fun r2 k2 =>
  (if r2 = v_list then (
  fX0_ringUp_28 v_size v_kinds v_terms r2 k2 0)
  else (
  fX0_ringUp_28 v_size v_kinds v_terms r2 k2 1)))
set_option maxRecDepth 100000 in
set_option maxHeartbeats 4000000 in
theorem tX0_ringUp (l : Launch) (D : va_G) (cI cJ cZ cS : ClassId) (tb : Nat) (a_t a_kinds a_costs a_terms a_known : Nat) (sz : Nat) (v_size : Int32) (v_list : Int32) (v_told : Int32) (v_kinds : Nat → Int32) (v_terms : Nat → Int64) (v_known : Nat → Int32) (x1 : Int32) (rr : Int32) (kk' : Int32 × (Nat → Int32)) (hf : fX0_ringUp v_size v_list v_kinds v_terms v_known x1 = some (rr, kk')) : Met l yX0_ringUp (Cond.code yX0_ringUp cX0_ringUp 3 (some .int) :: wA) rX0_ringUp (q_Pre D cI cJ cZ cS tb [.ref a_t, .int x1] sz (wX0_ringUp cI cJ cZ cS a_t a_kinds a_costs a_terms a_known v_size v_list v_told v_kinds v_terms v_known)) (q_Ri D rr (va_A (wX0_ringUp cI cJ cZ cS a_t a_kinds a_costs a_terms a_known v_size v_list v_told v_kinds v_terms v_known) sz) ((fun k : Int32 × (Nat → Int32) => (wX0_ringUp cI cJ cZ cS a_t a_kinds a_costs a_terms a_known v_size k.1 v_told v_kinds v_terms k.2)) kk')) 0 0 (va_A (wX0_ringUp cI cJ cZ cS a_t a_kinds a_costs a_terms a_known v_size v_list v_told v_kinds v_terms v_known) sz) := by
  refine q_enter (Qf := fun A => (q_Ri D rr A ((fun k : Int32 × (Nat → Int32) => (wX0_ringUp cI cJ cZ cS a_t a_kinds a_costs a_terms a_known v_size k.1 v_told v_kinds v_terms k.2)) kk'))) (by decide) rfl (Nat.le_of_ble_eq_true rfl) ?_
  intro p e s m below meth c A ls fx hname h hl
  have hx := fx.1
  have hb := fx.2.1
  have hl : lv_has ls 3 [(0, .ref a_t), (1, .int x1)] := hl
  generalize h9 : s.heap = H at h ⊢
  clear h9
  generalize h9 : ([] : List Loc) = locs at h ⊢
  clear h9
  unfold fX0_ringUp at hf
  refine lv_aload_n hx hb dX0_ringUp_0 rfl (lv_at hl 0 rfl) ?_
  refine q_get (v := .int v_list) fx inX0 h 0 rfl rfl 1 (by decide) k_85 rfl dX0_ringUp_1 ?_
  refine lv_istore_n (lv' := [(2, .int v_list), (0, .ref a_t), (1, .int x1)]) hx hb dX0_ringUp_4 rfl hl (by decide) rfl (fun ls hl => ?_)
  refine lv_aload_n hx hb dX0_ringUp_5 rfl (lv_at hl 1 rfl) ?_
  refine lv_aload_n hx hb dX0_ringUp_6 rfl (lv_at hl 1 rfl) ?_
  refine lv_iload_n hx hb dX0_ringUp_7 rfl (lv_at hl 2 rfl) ?_
  refine lv_iload_n hx hb dX0_ringUp_8 rfl (lv_at hl 0 rfl) ?_
  obtain ⟨r2, k2, hg, hf⟩ := bR_inv hf
  refine q_ci (rest := [.ref a_t]) (ws' := (wX0_ringUp cI cJ cZ cS a_t a_kinds a_costs a_terms a_known v_size v_list v_told v_kinds v_terms k2)) (w1 := (wX0_called cI cJ cZ cS a_t a_kinds a_costs a_terms a_known v_size v_list v_told v_kinds v_terms k2)) fx h [0, 1, 2, 3] rfl rfl rfl rfl (q_runV fx h hl.1 [0, 1, 2, 3] rfl rfl (tX0_called l D cI cJ cZ cS tb a_t a_kinds a_costs a_terms a_known H.size v_size v_list v_told v_kinds v_terms v_known x1 v_list r2 k2 hg) mvX0_called k_376 ⟨rfl, rfl⟩ ⟨Nat.le_of_ble_eq_true rfl, Nat.le_of_ble_eq_true rfl⟩ rfl rfl rfl rfl (Nat.le_of_ble_eq_true rfl) dX0_ringUp_9 ⟨Nat.le_of_ble_eq_true rfl, Nat.le_of_ble_eq_true rfl⟩) (fun H locs h => ?_)
  refine q_put (v := .int r2) (ws' := (wX0_ringUp cI cJ cZ cS a_t a_kinds a_costs a_terms a_known v_size r2 v_told v_kinds v_terms k2)) fx inX0 tyX0 tyX0_ok nmX0 h 0 rfl rfl 1 (by decide) k_85 rfl rfl rfl (Nat.le_of_ble_eq_true rfl) rfl dX0_ringUp_12 (fun H locs h => ?_)
  refine lv_aload_n hx hb dX0_ringUp_15 rfl (lv_at hl 1 rfl) ?_
  refine q_get (v := .int r2) fx inX0 h 0 rfl rfl 1 (by decide) k_85 rfl dX0_ringUp_16 ?_
  refine lv_iload_n hx hb dX0_ringUp_19 rfl (lv_at hl 0 rfl) ?_
  refine lv_icmp_eq (tgt := 27) hx hb dX0_ringUp_20 (by decide) (fun c3 => ?_) (fun c3 => ?_)
  · have hf := it_t c3 hf
    refine lv_iconst (v := 0) hx hb dX0_ringUp_27 (by decide) ?_
    exact LX0_ringUp_28 fx h (lv_sub hl [] rfl) hf
  have hf := it_f c3 hf
  refine lv_iconst (v := 1) hx hb dX0_ringUp_23 (by decide) ?_
  refine lv_goto (tgt := 28) hx hb dX0_ringUp_24 (by decide) ?_
  exact LX0_ringUp_28 fx h (lv_sub hl [] rfl) hf
/-! X4_call -/
abbrev wX4_call (cI cJ cZ cS : ClassId) (a_t a_party a_party_kinds a_party_costs a_party_terms a_party_known a_kept a_tape a_telephone a_sheets a_findings : Nat) (v_isKept : Int32) (v_party_size : Int32) (v_party_list : Int32) (v_party_told : Int32) (v_party_kinds : Nat → Int32) (v_party_terms : Nat → Int64) (v_party_known : Nat → Int32) (v_findings : Nat → Int32) : va_W := [(a_t, .inr (4, [.ref a_party, .ref a_kept, .int v_isKept, .ref a_tape, .ref a_telephone, .ref a_sheets, .ref a_findings])), (a_party, .inr (0, [.int v_party_size, .int v_party_list, .int v_party_told, .ref a_party_kinds, .ref a_party_costs, .ref a_party_terms, .ref a_party_known])), (a_party_kinds, .inl (cI, 8, .inl v_party_kinds)), (a_party_terms, .inl (cJ, 32, .inr (.inl v_party_terms))), (a_party_known, .inl (cI, 256, .inl v_party_known)), (a_findings, .inl (cI, 7, .inl v_findings))]
abbrev rX4_call : Room := { frames := 6, cells := 0, slots := 0, locals := 134 }
def fX4_call (v_party_size : Int32) (v_party_list : Int32) (v_party_kinds : Nat → Int32) (v_party_terms : Nat → Int64) (v_party_known : Nat → Int32) (v_findings : Nat → Int32) (x1 : Int32) : Option (Int32 × Int32 × (Nat → Int32) × (Nat → Int32)) :=
  bR (fX0_has v_party_size x1) (fun r1 k1 =>
  (if r1 = 0 then (
  bR (fX4_found v_findings (-1000000001)) (fun r3 k3 =>
  some (r3, (v_party_list, v_party_known, k3))))
  else (
  bR (fX0_ringUp v_party_size v_party_list v_party_kinds v_party_terms v_party_known x1) (fun r4 k4 =>
  some (r4, (k4.1, k4.2, v_findings))))))
set_option maxRecDepth 100000 in
set_option maxHeartbeats 4000000 in
theorem tX4_call (l : Launch) (D : va_G) (cI cJ cZ cS : ClassId) (tb : Nat) (a_t a_party a_party_kinds a_party_costs a_party_terms a_party_known a_kept a_tape a_telephone a_sheets a_findings : Nat) (sz : Nat) (v_isKept : Int32) (v_party_size : Int32) (v_party_list : Int32) (v_party_told : Int32) (v_party_kinds : Nat → Int32) (v_party_terms : Nat → Int64) (v_party_known : Nat → Int32) (v_findings : Nat → Int32) (x1 : Int32) (rr : Int32) (kk' : Int32 × (Nat → Int32) × (Nat → Int32)) (hf : fX4_call v_party_size v_party_list v_party_kinds v_party_terms v_party_known v_findings x1 = some (rr, kk')) : Met l yX4_call (Cond.code yX4_call cX4_call 2 (some .int) :: wA) rX4_call (q_Pre D cI cJ cZ cS tb [.ref a_t, .int x1] sz (wX4_call cI cJ cZ cS a_t a_party a_party_kinds a_party_costs a_party_terms a_party_known a_kept a_tape a_telephone a_sheets a_findings v_isKept v_party_size v_party_list v_party_told v_party_kinds v_party_terms v_party_known v_findings)) (q_Ri D rr (va_A (wX4_call cI cJ cZ cS a_t a_party a_party_kinds a_party_costs a_party_terms a_party_known a_kept a_tape a_telephone a_sheets a_findings v_isKept v_party_size v_party_list v_party_told v_party_kinds v_party_terms v_party_known v_findings) sz) ((fun k : Int32 × (Nat → Int32) × (Nat → Int32) => (wX4_call cI cJ cZ cS a_t a_party a_party_kinds a_party_costs a_party_terms a_party_known a_kept a_tape a_telephone a_sheets a_findings v_isKept v_party_size k.1 v_party_told v_party_kinds v_party_terms k.2.1 k.2.2)) kk')) 0 0 (va_A (wX4_call cI cJ cZ cS a_t a_party a_party_kinds a_party_costs a_party_terms a_party_known a_kept a_tape a_telephone a_sheets a_findings v_isKept v_party_size v_party_list v_party_told v_party_kinds v_party_terms v_party_known v_findings) sz) := by
  refine q_enter (Qf := fun A => (q_Ri D rr A ((fun k : Int32 × (Nat → Int32) × (Nat → Int32) => (wX4_call cI cJ cZ cS a_t a_party a_party_kinds a_party_costs a_party_terms a_party_known a_kept a_tape a_telephone a_sheets a_findings v_isKept v_party_size k.1 v_party_told v_party_kinds v_party_terms k.2.1 k.2.2)) kk'))) (by decide) rfl (Nat.le_of_ble_eq_true rfl) ?_
  intro p e s m below meth c A ls fx hname h hl
  have hx := fx.1
  have hb := fx.2.1
  have hl : lv_has ls 2 [(0, .ref a_t), (1, .int x1)] := hl
  generalize h9 : s.heap = H at h ⊢
  clear h9
  generalize h9 : ([] : List Loc) = locs at h ⊢
  clear h9
  unfold fX4_call at hf
  refine lv_aload_n hx hb dX4_call_0 rfl (lv_at hl 0 rfl) ?_
  refine q_get (v := .ref a_party) fx inX4 h 0 rfl rfl 0 (by decide) k_174 rfl dX4_call_1 ?_
  refine lv_iload_n hx hb dX4_call_4 rfl (lv_at hl 1 rfl) ?_
  obtain ⟨r1, k1, hg, hf⟩ := bR_inv hf
  refine q_ci (rest := []) (ws' := (wX4_call cI cJ cZ cS a_t a_party a_party_kinds a_party_costs a_party_terms a_party_known a_kept a_tape a_telephone a_sheets a_findings v_isKept v_party_size v_party_list v_party_told v_party_kinds v_party_terms v_party_known v_findings)) (w1 := (wX0_has cI cJ cZ cS a_party a_party_kinds a_party_costs a_party_terms a_party_known v_party_size v_party_list v_party_told)) fx h [1] rfl rfl rfl rfl (q_runV fx h hl.1 [1] rfl rfl (tX0_has l D cI cJ cZ cS tb a_party a_party_kinds a_party_costs a_party_terms a_party_known H.size v_party_size v_party_list v_party_told x1 r1 k1 hg) mvX0_has k_220 ⟨rfl, rfl⟩ ⟨Nat.le_of_ble_eq_true rfl, Nat.le_of_ble_eq_true rfl⟩ rfl rfl rfl rfl (Nat.le_of_ble_eq_true rfl) dX4_call_5 ⟨Nat.le_of_ble_eq_true rfl, Nat.le_of_ble_eq_true rfl⟩) (fun H locs h => ?_)
  refine lv_if_eq (tgt := 22) hx hb dX4_call_8 (by decide) (fun c2 => ?_) (fun c2 => ?_)
  · have hf := it_t c2 hf
    refine lv_aload_n hx hb dX4_call_22 rfl (lv_at hl 0 rfl) ?_
    refine q_ldc fx k_206 dX4_call_23 ?_
    obtain ⟨r3, k3, hg, hf⟩ := bR_inv hf
    refine q_ci (rest := []) (ws' := (wX4_call cI cJ cZ cS a_t a_party a_party_kinds a_party_costs a_party_terms a_party_known a_kept a_tape a_telephone a_sheets a_findings v_isKept v_party_size v_party_list v_party_told v_party_kinds v_party_terms v_party_known k3)) (w1 := (wX4_found cI cJ cZ cS a_t a_party a_kept a_tape a_telephone a_sheets a_findings v_isKept k3)) fx h [0, 5] rfl rfl rfl rfl (q_runV fx h hl.1 [0, 5] rfl rfl (tX4_found l D cI cJ cZ cS tb a_t a_party a_kept a_tape a_telephone a_sheets a_findings H.size v_isKept v_findings (-1000000001) r3 k3 hg) mvX4_found k_207 ⟨rfl, rfl⟩ ⟨Nat.le_of_ble_eq_true rfl, Nat.le_of_ble_eq_true rfl⟩ rfl rfl rfl rfl (Nat.le_of_ble_eq_true rfl) dX4_call_25 ⟨Nat.le_of_ble_eq_true rfl, Nat.le_of_ble_eq_true rfl⟩) (fun H locs h => ?_)
    exact q_reti (fun k : Int32 × (Nat → Int32) × (Nat → Int32) => (wX4_call cI cJ cZ cS a_t a_party a_party_kinds a_party_costs a_party_terms a_party_known a_kept a_tape a_telephone a_sheets a_findings v_isKept v_party_size k.1 v_party_told v_party_kinds v_party_terms k.2.1 k.2.2)) fx hf h dX4_call_28
  have hf := it_f c2 hf
  refine lv_aload_n hx hb dX4_call_11 rfl (lv_at hl 0 rfl) ?_
  refine q_get (v := .ref a_party) fx inX4 h 0 rfl rfl 0 (by decide) k_174 rfl dX4_call_12 ?_
  refine lv_iload_n hx hb dX4_call_15 rfl (lv_at hl 1 rfl) ?_
  obtain ⟨r4, k4, hg, hf⟩ := bR_inv hf
  refine q_ci (rest := []) (ws' := (wX4_call cI cJ cZ cS a_t a_party a_party_kinds a_party_costs a_party_terms a_party_known a_kept a_tape a_telephone a_sheets a_findings v_isKept v_party_size k4.1 v_party_told v_party_kinds v_party_terms k4.2 v_findings)) (w1 := (wX0_ringUp cI cJ cZ cS a_party a_party_kinds a_party_costs a_party_terms a_party_known v_party_size k4.1 v_party_told v_party_kinds v_party_terms k4.2)) fx h [1, 2, 3, 4] rfl rfl rfl rfl (q_runV fx h hl.1 [1, 2, 3, 4] rfl rfl (tX0_ringUp l D cI cJ cZ cS tb a_party a_party_kinds a_party_costs a_party_terms a_party_known H.size v_party_size v_party_list v_party_told v_party_kinds v_party_terms v_party_known x1 r4 k4 hg) mvX0_ringUp k_372 ⟨rfl, rfl⟩ ⟨Nat.le_of_ble_eq_true rfl, Nat.le_of_ble_eq_true rfl⟩ rfl rfl rfl rfl (Nat.le_of_ble_eq_true rfl) dX4_call_16 ⟨Nat.le_of_ble_eq_true rfl, Nat.le_of_ble_eq_true rfl⟩) (fun H locs h => ?_)
  refine lv_goto (tgt := 28) hx hb dX4_call_19 (by decide) ?_
  exact q_reti (fun k : Int32 × (Nat → Int32) × (Nat → Int32) => (wX4_call cI cJ cZ cS a_t a_party a_party_kinds a_party_costs a_party_terms a_party_known a_kept a_tape a_telephone a_sheets a_findings v_isKept v_party_size k.1 v_party_told v_party_kinds v_party_terms k.2.1 k.2.2)) fx hf h dX4_call_28
/-! X4_calls -/
abbrev wX4_calls (cI cJ cZ cS : ClassId) (a_t a_party a_party_kinds a_party_costs a_party_terms a_party_known a_kept a_tape a_telephone a_sheets a_findings : Nat) (v_isKept : Int32) (v_party_size : Int32) (v_party_list : Int32) (v_party_told : Int32) (v_party_kinds : Nat → Int32) (v_party_terms : Nat → Int64) (v_party_known : Nat → Int32) (v_findings : Nat → Int32) : va_W := [(a_t, .inr (4, [.ref a_party, .ref a_kept, .int v_isKept, .ref a_tape, .ref a_telephone, .ref a_sheets, .ref a_findings])), (a_party, .inr (0, [.int v_party_size, .int v_party_list, .int v_party_told, .ref a_party_kinds, .ref a_party_costs, .ref a_party_terms, .ref a_party_known])), (a_party_kinds, .inl (cI, 8, .inl v_party_kinds)), (a_party_terms, .inl (cJ, 32, .inr (.inl v_party_terms))), (a_party_known, .inl (cI, 256, .inl v_party_known)), (a_findings, .inl (cI, 7, .inl v_findings))]
abbrev rX4_calls : Room := { frames := 6, cells := 0, slots := 0, locals := 134 }
def fX4_calls_30 (v_party_size : Int32) (v_party_kinds : Nat → Int32) (v_party_terms : Nat → Int64) (ag22 : Int32 → (Nat → Int32) → (Nat → Int32) → Int32 → Int32 → Int32 → Option (Int32 × Int32 × (Nat → Int32) × (Nat → Int32))) (ag30 : Int32 → (Nat → Int32) → (Nat → Int32) → Int32 → Int32 → Int32 → Int32 → Option (Int32 × Int32 × (Nat → Int32) × (Nat → Int32))) (v_party_list : Int32) (v_party_known : Nat → Int32) (v_findings : Nat → Int32) (y1 : Int32) (y2 : Int32) (y3 : Int32) (y4 : Int32) : Option (Int32 × Int32 × (Nat → Int32) × (Nat → Int32)) :=
  (if v_party_size ≤ y4 then (
  nm (y3 + 1) (fun u2 =>
  ag22 v_party_list v_party_known v_findings y1 y2 u2))
  else (
  bR (fX0_ringUp v_party_size v_party_list v_party_kinds v_party_terms v_party_known y4) (fun r3 k3 =>
  nm (y2 + r3) (fun u4 =>
  nm (y4 + 1) (fun u5 =>
  ag30 k3.1 k3.2 v_findings y1 u4 y3 u5)))))
set_option maxRecDepth 100000 in
set_option maxHeartbeats 4000000 in
theorem LX4_calls_30 {p : Program} {l : Launch} {e : Env} {s : State} {m : MethodId} {args : Array Value} {below : List Frame} {meth : Method} {c : Code} {D : va_G} {cI cJ cZ cS : ClassId} {tb : Nat} {A : Nat → Prop} {a_t a_party a_party_kinds a_party_costs a_party_terms a_party_known a_kept a_tape a_telephone a_sheets a_findings : Nat} {v_isKept : Int32} {v_party_size : Int32} {v_party_told : Int32} {v_party_kinds : Nat → Int32} {v_party_terms : Nat → Int64} {rr : Int32} {kk' : Int32 × (Nat → Int32) × (Nat → Int32)} (fx : q_Fx p s m args meth c cX4_calls 5 RX4 (some .int) D cI cJ cZ cS tb A) {ag22 : Int32 → (Nat → Int32) → (Nat → Int32) → Int32 → Int32 → Int32 → Option (Int32 × Int32 × (Nat → Int32) × (Nat → Int32))} (hag22 : ∀ {v_party_list : Int32} {v_party_known : Nat → Int32} {v_findings : Nat → Int32} {y1 : Int32} {y2 : Int32} {y3 : Int32} {H : Heap} {locs : List Loc} {ls : Array Slot}, q_H D A s (wX4_calls cI cJ cZ cS a_t a_party a_party_kinds a_party_costs a_party_terms a_party_known a_kept a_tape a_telephone a_sheets a_findings v_isKept v_party_size v_party_list v_party_told v_party_kinds v_party_terms v_party_known v_findings) H locs → lv_has ls 5 [(0, .ref a_t), (1, .int y1), (2, .int y2), (3, .int y3)] → ag22 v_party_list v_party_known v_findings y1 y2 y3 = some (rr, kk') → W p l e rX4_calls s m args below meth c H locs 0 0 (MQ below (q_Ri D rr A ((fun k : Int32 × (Nat → Int32) × (Nat → Int32) => (wX4_calls cI cJ cZ cS a_t a_party a_party_kinds a_party_costs a_party_terms a_party_known a_kept a_tape a_telephone a_sheets a_findings v_isKept v_party_size k.1 v_party_told v_party_kinds v_party_terms k.2.1 k.2.2)) kk')) args s 0 0 A) (F0 m 22 ls [])) {ag30 : Int32 → (Nat → Int32) → (Nat → Int32) → Int32 → Int32 → Int32 → Int32 → Option (Int32 × Int32 × (Nat → Int32) × (Nat → Int32))} (hag30 : ∀ {v_party_list : Int32} {v_party_known : Nat → Int32} {v_findings : Nat → Int32} {y1 : Int32} {y2 : Int32} {y3 : Int32} {y4 : Int32} {H : Heap} {locs : List Loc} {ls : Array Slot}, q_H D A s (wX4_calls cI cJ cZ cS a_t a_party a_party_kinds a_party_costs a_party_terms a_party_known a_kept a_tape a_telephone a_sheets a_findings v_isKept v_party_size v_party_list v_party_told v_party_kinds v_party_terms v_party_known v_findings) H locs → lv_has ls 5 [(0, .ref a_t), (1, .int y1), (2, .int y2), (3, .int y3), (4, .int y4)] → ag30 v_party_list v_party_known v_findings y1 y2 y3 y4 = some (rr, kk') → W p l e rX4_calls s m args below meth c H locs 0 0 (MQ below (q_Ri D rr A ((fun k : Int32 × (Nat → Int32) × (Nat → Int32) => (wX4_calls cI cJ cZ cS a_t a_party a_party_kinds a_party_costs a_party_terms a_party_known a_kept a_tape a_telephone a_sheets a_findings v_isKept v_party_size k.1 v_party_told v_party_kinds v_party_terms k.2.1 k.2.2)) kk')) args s 0 0 A) (F0 m 30 ls [])) : ∀ {v_party_list : Int32} {v_party_known : Nat → Int32} {v_findings : Nat → Int32} {y1 : Int32} {y2 : Int32} {y3 : Int32} {y4 : Int32} {H : Heap} {locs : List Loc} {ls : Array Slot}, q_H D A s (wX4_calls cI cJ cZ cS a_t a_party a_party_kinds a_party_costs a_party_terms a_party_known a_kept a_tape a_telephone a_sheets a_findings v_isKept v_party_size v_party_list v_party_told v_party_kinds v_party_terms v_party_known v_findings) H locs → lv_has ls 5 [(0, .ref a_t), (1, .int y1), (2, .int y2), (3, .int y3), (4, .int y4)] → fX4_calls_30 v_party_size v_party_kinds v_party_terms ag22 ag30 v_party_list v_party_known v_findings y1 y2 y3 y4 = some (rr, kk') → W p l e rX4_calls s m args below meth c H locs 0 0 (MQ below (q_Ri D rr A ((fun k : Int32 × (Nat → Int32) × (Nat → Int32) => (wX4_calls cI cJ cZ cS a_t a_party a_party_kinds a_party_costs a_party_terms a_party_known a_kept a_tape a_telephone a_sheets a_findings v_isKept v_party_size k.1 v_party_told v_party_kinds v_party_terms k.2.1 k.2.2)) kk')) args s 0 0 A) (F0 m 30 ls []) := by
  intro v_party_list v_party_known v_findings y1 y2 y3 y4 H locs ls h hl hf
  have hx := fx.1
  have hb := fx.2.1
  unfold fX4_calls_30 at hf
  refine lv_iload hx hb dX4_calls_30 (lv_at hl 4 rfl) ?_
  refine lv_aload_n hx hb dX4_calls_32 rfl (lv_at hl 0 rfl) ?_
  refine q_get (v := .ref a_party) fx inX4 h 0 rfl rfl 0 (by decide) k_174 rfl dX4_calls_33 ?_
  refine q_getN (v := .int v_party_size) fx inX0 h 1 rfl rfl 0 (by decide) nf_0 rfl dX4_calls_36 ?_
  refine lv_icmp_ge (tgt := 60) hx hb dX4_calls_39 (by decide) (fun c1 => ?_) (fun c1 => ?_)
  · have hf := it_t c1 hf
    obtain ⟨u2, eu2, hf⟩ := nm_inv hf
    refine lv_iinc (v := u2) (lv' := [(3, .int u2), (0, .ref a_t), (1, .int y1), (2, .int y2), (4, .int y4)]) hx hb dX4_calls_60 hl (k := 3) rfl (by rw [eu2]; rfl) (by decide) rfl (fun ls hl => ?_)
    refine lv_goto (tgt := 22) hx hb dX4_calls_63 (by decide) ?_
    exact hag22 h (lv_sub hl [1, 2, 3, 0] rfl) hf
  have hf := it_f c1 hf
  refine lv_iload_n hx hb dX4_calls_42 rfl (lv_at hl 2 rfl) ?_
  refine lv_aload_n hx hb dX4_calls_43 rfl (lv_at hl 0 rfl) ?_
  refine q_get (v := .ref a_party) fx inX4 h 0 rfl rfl 0 (by decide) k_174 rfl dX4_calls_44 ?_
  refine lv_iload hx hb dX4_calls_47 (lv_at hl 4 rfl) ?_
  obtain ⟨r3, k3, hg, hf⟩ := bR_inv hf
  refine q_ci (rest := [.int y2]) (ws' := (wX4_calls cI cJ cZ cS a_t a_party a_party_kinds a_party_costs a_party_terms a_party_known a_kept a_tape a_telephone a_sheets a_findings v_isKept v_party_size k3.1 v_party_told v_party_kinds v_party_terms k3.2 v_findings)) (w1 := (wX0_ringUp cI cJ cZ cS a_party a_party_kinds a_party_costs a_party_terms a_party_known v_party_size k3.1 v_party_told v_party_kinds v_party_terms k3.2)) fx h [1, 2, 3, 4] rfl rfl rfl rfl (q_runV fx h hl.1 [1, 2, 3, 4] rfl rfl (tX0_ringUp l D cI cJ cZ cS tb a_party a_party_kinds a_party_costs a_party_terms a_party_known H.size v_party_size v_party_list v_party_told v_party_kinds v_party_terms v_party_known y4 r3 k3 hg) mvX0_ringUp k_372 ⟨rfl, rfl⟩ ⟨Nat.le_of_ble_eq_true rfl, Nat.le_of_ble_eq_true rfl⟩ rfl rfl rfl rfl (Nat.le_of_ble_eq_true rfl) dX4_calls_49 ⟨Nat.le_of_ble_eq_true rfl, Nat.le_of_ble_eq_true rfl⟩) (fun H locs h => ?_)
  refine lv_iadd hx hb dX4_calls_52 ?_
  obtain ⟨u4, eu4, hf⟩ := nm_inv hf
  refine lv_eqi eu4 ?_
  refine lv_istore_n (lv' := [(2, .int u4), (0, .ref a_t), (1, .int y1), (3, .int y3), (4, .int y4)]) hx hb dX4_calls_53 rfl hl (by decide) rfl (fun ls hl => ?_)
  obtain ⟨u5, eu5, hf⟩ := nm_inv hf
  refine lv_iinc (v := u5) (lv' := [(4, .int u5), (2, .int u4), (0, .ref a_t), (1, .int y1), (3, .int y3)]) hx hb dX4_calls_54 hl (k := 4) rfl (by rw [eu5]; rfl) (by decide) rfl (fun ls hl => ?_)
  refine lv_goto (tgt := 30) hx hb dX4_calls_57 (by decide) ?_
  exact hag30 h (lv_sub hl [2, 3, 1, 4, 0] rfl) hf
set_option maxRecDepth 100000 in
theorem EX4_calls_30 {p : Program} {l : Launch} {e : Env} {s : State} {m : MethodId} {args : Array Value} {below : List Frame} {meth : Method} {c : Code} {D : va_G} {cI cJ cZ cS : ClassId} {tb : Nat} {A : Nat → Prop} {a_t a_party a_party_kinds a_party_costs a_party_terms a_party_known a_kept a_tape a_telephone a_sheets a_findings : Nat} {v_isKept : Int32} {v_party_size : Int32} {v_party_told : Int32} {v_party_kinds : Nat → Int32} {v_party_terms : Nat → Int64} {rr : Int32} {kk' : Int32 × (Nat → Int32) × (Nat → Int32)} (fx : q_Fx p s m args meth c cX4_calls 5 RX4 (some .int) D cI cJ cZ cS tb A) {ag22 : Int32 → (Nat → Int32) → (Nat → Int32) → Int32 → Int32 → Int32 → Option (Int32 × Int32 × (Nat → Int32) × (Nat → Int32))} (hag22 : ∀ {v_party_list : Int32} {v_party_known : Nat → Int32} {v_findings : Nat → Int32} {y1 : Int32} {y2 : Int32} {y3 : Int32} {H : Heap} {locs : List Loc} {ls : Array Slot}, q_H D A s (wX4_calls cI cJ cZ cS a_t a_party a_party_kinds a_party_costs a_party_terms a_party_known a_kept a_tape a_telephone a_sheets a_findings v_isKept v_party_size v_party_list v_party_told v_party_kinds v_party_terms v_party_known v_findings) H locs → lv_has ls 5 [(0, .ref a_t), (1, .int y1), (2, .int y2), (3, .int y3)] → ag22 v_party_list v_party_known v_findings y1 y2 y3 = some (rr, kk') → W p l e rX4_calls s m args below meth c H locs 0 0 (MQ below (q_Ri D rr A ((fun k : Int32 × (Nat → Int32) × (Nat → Int32) => (wX4_calls cI cJ cZ cS a_t a_party a_party_kinds a_party_costs a_party_terms a_party_known a_kept a_tape a_telephone a_sheets a_findings v_isKept v_party_size k.1 v_party_told v_party_kinds v_party_terms k.2.1 k.2.2)) kk')) args s 0 0 A) (F0 m 22 ls [])) : ∀ (n : Nat), ∀ {v_party_list : Int32} {v_party_known : Nat → Int32} {v_findings : Nat → Int32} {y1 : Int32} {y2 : Int32} {y3 : Int32} {y4 : Int32} {H : Heap} {locs : List Loc} {ls : Array Slot}, q_H D A s (wX4_calls cI cJ cZ cS a_t a_party a_party_kinds a_party_costs a_party_terms a_party_known a_kept a_tape a_telephone a_sheets a_findings v_isKept v_party_size v_party_list v_party_told v_party_kinds v_party_terms v_party_known v_findings) H locs → lv_has ls 5 [(0, .ref a_t), (1, .int y1), (2, .int y2), (3, .int y3), (4, .int y4)] → ll7 (fX4_calls_30 v_party_size v_party_kinds v_party_terms ag22) n v_party_list v_party_known v_findings y1 y2 y3 y4 = some (rr, kk') → W p l e rX4_calls s m args below meth c H locs 0 0 (MQ below (q_Ri D rr A ((fun k : Int32 × (Nat → Int32) × (Nat → Int32) => (wX4_calls cI cJ cZ cS a_t a_party a_party_kinds a_party_costs a_party_terms a_party_known a_kept a_tape a_telephone a_sheets a_findings v_isKept v_party_size k.1 v_party_told v_party_kinds v_party_terms k.2.1 k.2.2)) kk')) args s 0 0 A) (F0 m 30 ls []) := by
  intro n
  induction n with
  | zero => intro v_party_list v_party_known v_findings y1 y2 y3 y4 H locs ls h hl hf; exact (ll7_z hf).elim
  | succ n ih => intro v_party_list v_party_known v_findings y1 y2 y3 y4 H locs ls h hl hf; exact LX4_calls_30 fx hag22 ih h hl (ll7_s hf)
def fX4_calls_22 (v_party_size : Int32) (v_party_kinds : Nat → Int32) (v_party_terms : Nat → Int64) (ag22 : Int32 → (Nat → Int32) → (Nat → Int32) → Int32 → Int32 → Int32 → Option (Int32 × Int32 × (Nat → Int32) × (Nat → Int32))) (v_party_list : Int32) (v_party_known : Nat → Int32) (v_findings : Nat → Int32) (y1 : Int32) (y2 : Int32) (y3 : Int32) : Option (Int32 × Int32 × (Nat → Int32) × (Nat → Int32)) :=
  (if y1 ≤ y3 then (
  some (y2, (v_party_list, v_party_known, v_findings)))
  else (
  ll7 (fX4_calls_30 v_party_size v_party_kinds v_party_terms ag22) qF v_party_list v_party_known v_findings y1 y2 y3 0))
set_option maxRecDepth 100000 in
set_option maxHeartbeats 4000000 in
theorem LX4_calls_22 {p : Program} {l : Launch} {e : Env} {s : State} {m : MethodId} {args : Array Value} {below : List Frame} {meth : Method} {c : Code} {D : va_G} {cI cJ cZ cS : ClassId} {tb : Nat} {A : Nat → Prop} {a_t a_party a_party_kinds a_party_costs a_party_terms a_party_known a_kept a_tape a_telephone a_sheets a_findings : Nat} {v_isKept : Int32} {v_party_size : Int32} {v_party_told : Int32} {v_party_kinds : Nat → Int32} {v_party_terms : Nat → Int64} {rr : Int32} {kk' : Int32 × (Nat → Int32) × (Nat → Int32)} (fx : q_Fx p s m args meth c cX4_calls 5 RX4 (some .int) D cI cJ cZ cS tb A) {ag22 : Int32 → (Nat → Int32) → (Nat → Int32) → Int32 → Int32 → Int32 → Option (Int32 × Int32 × (Nat → Int32) × (Nat → Int32))} (hag22 : ∀ {v_party_list : Int32} {v_party_known : Nat → Int32} {v_findings : Nat → Int32} {y1 : Int32} {y2 : Int32} {y3 : Int32} {H : Heap} {locs : List Loc} {ls : Array Slot}, q_H D A s (wX4_calls cI cJ cZ cS a_t a_party a_party_kinds a_party_costs a_party_terms a_party_known a_kept a_tape a_telephone a_sheets a_findings v_isKept v_party_size v_party_list v_party_told v_party_kinds v_party_terms v_party_known v_findings) H locs → lv_has ls 5 [(0, .ref a_t), (1, .int y1), (2, .int y2), (3, .int y3)] → ag22 v_party_list v_party_known v_findings y1 y2 y3 = some (rr, kk') → W p l e rX4_calls s m args below meth c H locs 0 0 (MQ below (q_Ri D rr A ((fun k : Int32 × (Nat → Int32) × (Nat → Int32) => (wX4_calls cI cJ cZ cS a_t a_party a_party_kinds a_party_costs a_party_terms a_party_known a_kept a_tape a_telephone a_sheets a_findings v_isKept v_party_size k.1 v_party_told v_party_kinds v_party_terms k.2.1 k.2.2)) kk')) args s 0 0 A) (F0 m 22 ls [])) : ∀ {v_party_list : Int32} {v_party_known : Nat → Int32} {v_findings : Nat → Int32} {y1 : Int32} {y2 : Int32} {y3 : Int32} {H : Heap} {locs : List Loc} {ls : Array Slot}, q_H D A s (wX4_calls cI cJ cZ cS a_t a_party a_party_kinds a_party_costs a_party_terms a_party_known a_kept a_tape a_telephone a_sheets a_findings v_isKept v_party_size v_party_list v_party_told v_party_kinds v_party_terms v_party_known v_findings) H locs → lv_has ls 5 [(0, .ref a_t), (1, .int y1), (2, .int y2), (3, .int y3)] → fX4_calls_22 v_party_size v_party_kinds v_party_terms ag22 v_party_list v_party_known v_findings y1 y2 y3 = some (rr, kk') → W p l e rX4_calls s m args below meth c H locs 0 0 (MQ below (q_Ri D rr A ((fun k : Int32 × (Nat → Int32) × (Nat → Int32) => (wX4_calls cI cJ cZ cS a_t a_party a_party_kinds a_party_costs a_party_terms a_party_known a_kept a_tape a_telephone a_sheets a_findings v_isKept v_party_size k.1 v_party_told v_party_kinds v_party_terms k.2.1 k.2.2)) kk')) args s 0 0 A) (F0 m 22 ls []) := by
  intro v_party_list v_party_known v_findings y1 y2 y3 H locs ls h hl hf
  have hx := fx.1
  have hb := fx.2.1
  unfold fX4_calls_22 at hf
  refine lv_iload_n hx hb dX4_calls_22 rfl (lv_at hl 3 rfl) ?_
  refine lv_iload_n hx hb dX4_calls_23 rfl (lv_at hl 1 rfl) ?_
  refine lv_icmp_ge (tgt := 66) hx hb dX4_calls_24 (by decide) (fun c6 => ?_) (fun c6 => ?_)
  · have hf := it_t c6 hf
    refine lv_iload_n hx hb dX4_calls_66 rfl (lv_at hl 2 rfl) ?_
    exact q_reti (fun k : Int32 × (Nat → Int32) × (Nat → Int32) => (wX4_calls cI cJ cZ cS a_t a_party a_party_kinds a_party_costs a_party_terms a_party_known a_kept a_tape a_telephone a_sheets a_findings v_isKept v_party_size k.1 v_party_told v_party_kinds v_party_terms k.2.1 k.2.2)) fx hf h dX4_calls_67
  have hf := it_f c6 hf
  refine lv_iconst (v := 0) hx hb dX4_calls_27 (by decide) ?_
  refine lv_istore (lv' := [(4, .int 0), (0, .ref a_t), (1, .int y1), (2, .int y2), (3, .int y3)]) hx hb dX4_calls_28 hl (by decide) rfl (fun ls hl => ?_)
  exact EX4_calls_30 fx hag22 qF h (lv_sub hl [1, 2, 3, 4, 0] rfl) hf
set_option maxRecDepth 100000 in
theorem EX4_calls_22 {p : Program} {l : Launch} {e : Env} {s : State} {m : MethodId} {args : Array Value} {below : List Frame} {meth : Method} {c : Code} {D : va_G} {cI cJ cZ cS : ClassId} {tb : Nat} {A : Nat → Prop} {a_t a_party a_party_kinds a_party_costs a_party_terms a_party_known a_kept a_tape a_telephone a_sheets a_findings : Nat} {v_isKept : Int32} {v_party_size : Int32} {v_party_told : Int32} {v_party_kinds : Nat → Int32} {v_party_terms : Nat → Int64} {rr : Int32} {kk' : Int32 × (Nat → Int32) × (Nat → Int32)} (fx : q_Fx p s m args meth c cX4_calls 5 RX4 (some .int) D cI cJ cZ cS tb A) : ∀ (n : Nat), ∀ {v_party_list : Int32} {v_party_known : Nat → Int32} {v_findings : Nat → Int32} {y1 : Int32} {y2 : Int32} {y3 : Int32} {H : Heap} {locs : List Loc} {ls : Array Slot}, q_H D A s (wX4_calls cI cJ cZ cS a_t a_party a_party_kinds a_party_costs a_party_terms a_party_known a_kept a_tape a_telephone a_sheets a_findings v_isKept v_party_size v_party_list v_party_told v_party_kinds v_party_terms v_party_known v_findings) H locs → lv_has ls 5 [(0, .ref a_t), (1, .int y1), (2, .int y2), (3, .int y3)] → ll6 (fX4_calls_22 v_party_size v_party_kinds v_party_terms) n v_party_list v_party_known v_findings y1 y2 y3 = some (rr, kk') → W p l e rX4_calls s m args below meth c H locs 0 0 (MQ below (q_Ri D rr A ((fun k : Int32 × (Nat → Int32) × (Nat → Int32) => (wX4_calls cI cJ cZ cS a_t a_party a_party_kinds a_party_costs a_party_terms a_party_known a_kept a_tape a_telephone a_sheets a_findings v_isKept v_party_size k.1 v_party_told v_party_kinds v_party_terms k.2.1 k.2.2)) kk')) args s 0 0 A) (F0 m 22 ls []) := by
  intro n
  induction n with
  | zero => intro v_party_list v_party_known v_findings y1 y2 y3 H locs ls h hl hf; exact (ll6_z hf).elim
  | succ n ih => intro v_party_list v_party_known v_findings y1 y2 y3 H locs ls h hl hf; exact LX4_calls_22 fx ih h hl (ll6_s hf)
def fX4_calls_11 (v_party_size : Int32) (v_party_kinds : Nat → Int32) (v_party_terms : Nat → Int64) (v_party_list : Int32) (v_party_known : Nat → Int32) (v_findings : Nat → Int32) : Option (Int32 × Int32 × (Nat → Int32) × (Nat → Int32)) :=
  bR (fX4_found v_findings (-1000000001)) (fun r7 k7 =>
  some (r7, (v_party_list, v_party_known, k7)))
set_option maxRecDepth 100000 in
set_option maxHeartbeats 4000000 in
theorem LX4_calls_11 {p : Program} {l : Launch} {e : Env} {s : State} {m : MethodId} {args : Array Value} {below : List Frame} {meth : Method} {c : Code} {D : va_G} {cI cJ cZ cS : ClassId} {tb : Nat} {A : Nat → Prop} {a_t a_party a_party_kinds a_party_costs a_party_terms a_party_known a_kept a_tape a_telephone a_sheets a_findings : Nat} {v_isKept : Int32} {v_party_size : Int32} {v_party_told : Int32} {v_party_kinds : Nat → Int32} {v_party_terms : Nat → Int64} {rr : Int32} {kk' : Int32 × (Nat → Int32) × (Nat → Int32)} (fx : q_Fx p s m args meth c cX4_calls 5 RX4 (some .int) D cI cJ cZ cS tb A) : ∀ {v_party_list : Int32} {v_party_known : Nat → Int32} {v_findings : Nat → Int32} {H : Heap} {locs : List Loc} {ls : Array Slot}, q_H D A s (wX4_calls cI cJ cZ cS a_t a_party a_party_kinds a_party_costs a_party_terms a_party_known a_kept a_tape a_telephone a_sheets a_findings v_isKept v_party_size v_party_list v_party_told v_party_kinds v_party_terms v_party_known v_findings) H locs → lv_has ls 5 [(0, .ref a_t)] → fX4_calls_11 v_party_size v_party_kinds v_party_terms v_party_list v_party_known v_findings = some (rr, kk') → W p l e rX4_calls s m args below meth c H locs 0 0 (MQ below (q_Ri D rr A ((fun k : Int32 × (Nat → Int32) × (Nat → Int32) => (wX4_calls cI cJ cZ cS a_t a_party a_party_kinds a_party_costs a_party_terms a_party_known a_kept a_tape a_telephone a_sheets a_findings v_isKept v_party_size k.1 v_party_told v_party_kinds v_party_terms k.2.1 k.2.2)) kk')) args s 0 0 A) (F0 m 11 ls []) := by
  intro v_party_list v_party_known v_findings H locs ls h hl hf
  have hx := fx.1
  have hb := fx.2.1
  unfold fX4_calls_11 at hf
  refine lv_aload_n hx hb dX4_calls_11 rfl (lv_at hl 0 rfl) ?_
  refine q_ldc fx k_206 dX4_calls_12 ?_
  obtain ⟨r7, k7, hg, hf⟩ := bR_inv hf
  refine q_ci (rest := []) (ws' := (wX4_calls cI cJ cZ cS a_t a_party a_party_kinds a_party_costs a_party_terms a_party_known a_kept a_tape a_telephone a_sheets a_findings v_isKept v_party_size v_party_list v_party_told v_party_kinds v_party_terms v_party_known k7)) (w1 := (wX4_found cI cJ cZ cS a_t a_party a_kept a_tape a_telephone a_sheets a_findings v_isKept k7)) fx h [0, 5] rfl rfl rfl rfl (q_runV fx h hl.1 [0, 5] rfl rfl (tX4_found l D cI cJ cZ cS tb a_t a_party a_kept a_tape a_telephone a_sheets a_findings H.size v_isKept v_findings (-1000000001) r7 k7 hg) mvX4_found k_207 ⟨rfl, rfl⟩ ⟨Nat.le_of_ble_eq_true rfl, Nat.le_of_ble_eq_true rfl⟩ rfl rfl rfl rfl (Nat.le_of_ble_eq_true rfl) dX4_calls_14 ⟨Nat.le_of_ble_eq_true rfl, Nat.le_of_ble_eq_true rfl⟩) (fun H locs h => ?_)
  exact q_reti (fun k : Int32 × (Nat → Int32) × (Nat → Int32) => (wX4_calls cI cJ cZ cS a_t a_party a_party_kinds a_party_costs a_party_terms a_party_known a_kept a_tape a_telephone a_sheets a_findings v_isKept v_party_size k.1 v_party_told v_party_kinds v_party_terms k.2.1 k.2.2)) fx hf h dX4_calls_17
def fX4_calls (v_party_size : Int32) (v_party_list : Int32) (v_party_kinds : Nat → Int32) (v_party_terms : Nat → Int64) (v_party_known : Nat → Int32) (v_findings : Nat → Int32) (x1 : Int32) : Option (Int32 × Int32 × (Nat → Int32) × (Nat → Int32)) :=
  (if x1 < 1 then (
  fX4_calls_11 v_party_size v_party_kinds v_party_terms v_party_list v_party_known v_findings)
  else (
  (if x1 ≤ 20 then (
  ll6 (fX4_calls_22 v_party_size v_party_kinds v_party_terms) qF v_party_list v_party_known v_findings x1 0 0)
  else (
  fX4_calls_11 v_party_size v_party_kinds v_party_terms v_party_list v_party_known v_findings))))
set_option maxRecDepth 100000 in
set_option maxHeartbeats 4000000 in
theorem tX4_calls (l : Launch) (D : va_G) (cI cJ cZ cS : ClassId) (tb : Nat) (a_t a_party a_party_kinds a_party_costs a_party_terms a_party_known a_kept a_tape a_telephone a_sheets a_findings : Nat) (sz : Nat) (v_isKept : Int32) (v_party_size : Int32) (v_party_list : Int32) (v_party_told : Int32) (v_party_kinds : Nat → Int32) (v_party_terms : Nat → Int64) (v_party_known : Nat → Int32) (v_findings : Nat → Int32) (x1 : Int32) (rr : Int32) (kk' : Int32 × (Nat → Int32) × (Nat → Int32)) (hf : fX4_calls v_party_size v_party_list v_party_kinds v_party_terms v_party_known v_findings x1 = some (rr, kk')) : Met l yX4_calls (Cond.code yX4_calls cX4_calls 5 (some .int) :: wA) rX4_calls (q_Pre D cI cJ cZ cS tb [.ref a_t, .int x1] sz (wX4_calls cI cJ cZ cS a_t a_party a_party_kinds a_party_costs a_party_terms a_party_known a_kept a_tape a_telephone a_sheets a_findings v_isKept v_party_size v_party_list v_party_told v_party_kinds v_party_terms v_party_known v_findings)) (q_Ri D rr (va_A (wX4_calls cI cJ cZ cS a_t a_party a_party_kinds a_party_costs a_party_terms a_party_known a_kept a_tape a_telephone a_sheets a_findings v_isKept v_party_size v_party_list v_party_told v_party_kinds v_party_terms v_party_known v_findings) sz) ((fun k : Int32 × (Nat → Int32) × (Nat → Int32) => (wX4_calls cI cJ cZ cS a_t a_party a_party_kinds a_party_costs a_party_terms a_party_known a_kept a_tape a_telephone a_sheets a_findings v_isKept v_party_size k.1 v_party_told v_party_kinds v_party_terms k.2.1 k.2.2)) kk')) 0 0 (va_A (wX4_calls cI cJ cZ cS a_t a_party a_party_kinds a_party_costs a_party_terms a_party_known a_kept a_tape a_telephone a_sheets a_findings v_isKept v_party_size v_party_list v_party_told v_party_kinds v_party_terms v_party_known v_findings) sz) := by
  refine q_enter (Qf := fun A => (q_Ri D rr A ((fun k : Int32 × (Nat → Int32) × (Nat → Int32) => (wX4_calls cI cJ cZ cS a_t a_party a_party_kinds a_party_costs a_party_terms a_party_known a_kept a_tape a_telephone a_sheets a_findings v_isKept v_party_size k.1 v_party_told v_party_kinds v_party_terms k.2.1 k.2.2)) kk'))) (by decide) rfl (Nat.le_of_ble_eq_true rfl) ?_
  intro p e s m below meth c A ls fx hname h hl
  have hx := fx.1
  have hb := fx.2.1
  have hl : lv_has ls 5 [(0, .ref a_t), (1, .int x1)] := hl
  generalize h9 : s.heap = H at h ⊢
  clear h9
  generalize h9 : ([] : List Loc) = locs at h ⊢
  clear h9
  unfold fX4_calls at hf
  refine lv_iload_n hx hb dX4_calls_0 rfl (lv_at hl 1 rfl) ?_
  refine lv_iconst (v := 1) hx hb dX4_calls_1 (by decide) ?_
  refine lv_icmp_lt (tgt := 11) hx hb dX4_calls_2 (by decide) (fun c8 => ?_) (fun c8 => ?_)
  · have hf := it_t c8 hf
    exact LX4_calls_11 fx h (lv_sub hl [0] rfl) hf
  have hf := it_f c8 hf
  refine lv_iload_n hx hb dX4_calls_5 rfl (lv_at hl 1 rfl) ?_
  refine lv_bipush (v := 20) hx hb dX4_calls_6 (by decide) ?_
  refine lv_icmp_le (tgt := 18) hx hb dX4_calls_8 (by decide) (fun c9 => ?_) (fun c9 => ?_)
  · have hf := it_t c9 hf
    refine lv_iconst (v := 0) hx hb dX4_calls_18 (by decide) ?_
    refine lv_istore_n (lv' := [(2, .int 0), (0, .ref a_t), (1, .int x1)]) hx hb dX4_calls_19 rfl hl (by decide) rfl (fun ls hl => ?_)
    refine lv_iconst (v := 0) hx hb dX4_calls_20 (by decide) ?_
    refine lv_istore_n (lv' := [(3, .int 0), (2, .int 0), (0, .ref a_t), (1, .int x1)]) hx hb dX4_calls_21 rfl hl (by decide) rfl (fun ls hl => ?_)
    exact EX4_calls_22 fx qF h (lv_sub hl [2, 3, 1, 0] rfl) hf
  have hf := it_f c9 hf
  exact LX4_calls_11 fx h (lv_sub hl [0] rfl) hf
/-! X0_behind -/
abbrev wX0_behind (cI cJ cZ cS : ClassId) (a_t a_kinds a_costs a_terms a_known : Nat) (v_size : Int32) (v_list : Int32) (v_told : Int32) (v_kinds : Nat → Int32) (v_terms : Nat → Int64) (v_known : Nat → Int32) : va_W := [(a_t, .inr (0, [.int v_size, .int v_list, .int v_told, .ref a_kinds, .ref a_costs, .ref a_terms, .ref a_known])), (a_kinds, .inl (cI, 8, .inl v_kinds)), (a_terms, .inl (cJ, 32, .inr (.inl v_terms))), (a_known, .inl (cI, 256, .inl v_known))]
abbrev rX0_behind : Room := { frames := 5, cells := 0, slots := 0, locals := 111 }
def fX0_behind_5 (v_size : Int32) (v_kinds : Nat → Int32) (v_terms : Nat → Int64) (ag5 : (Nat → Int32) → Int32 → Int32 → Int32 → Option (Int32 × (Nat → Int32))) (v_known : Nat → Int32) (y2 : Int32) (y3 : Int32) (y4 : Int32) : Option (Int32 × (Nat → Int32)) :=
  (if y2 ≤ y4 then (
  some (y3, v_known))
  else (
  bR (fX0_isSettled v_size v_kinds v_terms v_known y3) (fun r2 k2 =>
  (if r2 = 0 then (
  bR (fX0_comers v_size v_kinds v_terms k2 y3) (fun r4 k4 =>
  nm (y4 + 1) (fun u5 =>
  ag5 k4 y2 r4 u5)))
  else (
  some (y3, k2))))))
set_option maxRecDepth 100000 in
set_option maxHeartbeats 4000000 in
theorem LX0_behind_5 {p : Program} {l : Launch} {e : Env} {s : State} {m : MethodId} {args : Array Value} {below : List Frame} {meth : Method} {c : Code} {D : va_G} {cI cJ cZ cS : ClassId} {tb : Nat} {A : Nat → Prop} {a_t a_kinds a_costs a_terms a_known : Nat} {v_size : Int32} {v_list : Int32} {v_told : Int32} {v_kinds : Nat → Int32} {v_terms : Nat → Int64} {rr : Int32} {kk' : (Nat → Int32)} (fx : q_Fx p s m args meth c cX0_behind 5 RX0 (some .int) D cI cJ cZ cS tb A) {ag5 : (Nat → Int32) → Int32 → Int32 → Int32 → Option (Int32 × (Nat → Int32))} (hag5 : ∀ {v_known : Nat → Int32} {y2 : Int32} {y3 : Int32} {y4 : Int32} {H : Heap} {locs : List Loc} {ls : Array Slot}, q_H D A s (wX0_behind cI cJ cZ cS a_t a_kinds a_costs a_terms a_known v_size v_list v_told v_kinds v_terms v_known) H locs → lv_has ls 5 [(0, .ref a_t), (2, .int y2), (3, .int y3), (4, .int y4)] → ag5 v_known y2 y3 y4 = some (rr, kk') → W p l e rX0_behind s m args below meth c H locs 0 0 (MQ below (q_Ri D rr A ((fun k : (Nat → Int32) => (wX0_behind cI cJ cZ cS a_t a_kinds a_costs a_terms a_known v_size v_list v_told v_kinds v_terms k)) kk')) args s 0 0 A) (F0 m 5 ls [])) : ∀ {v_known : Nat → Int32} {y2 : Int32} {y3 : Int32} {y4 : Int32} {H : Heap} {locs : List Loc} {ls : Array Slot}, q_H D A s (wX0_behind cI cJ cZ cS a_t a_kinds a_costs a_terms a_known v_size v_list v_told v_kinds v_terms v_known) H locs → lv_has ls 5 [(0, .ref a_t), (2, .int y2), (3, .int y3), (4, .int y4)] → fX0_behind_5 v_size v_kinds v_terms ag5 v_known y2 y3 y4 = some (rr, kk') → W p l e rX0_behind s m args below meth c H locs 0 0 (MQ below (q_Ri D rr A ((fun k : (Nat → Int32) => (wX0_behind cI cJ cZ cS a_t a_kinds a_costs a_terms a_known v_size v_list v_told v_kinds v_terms k)) kk')) args s 0 0 A) (F0 m 5 ls []) := by
  intro v_known y2 y3 y4 H locs ls h hl hf
  have hx := fx.1
  have hb := fx.2.1
  unfold fX0_behind_5 at hf
  refine lv_iload hx hb dX0_behind_5 (lv_at hl 3 rfl) ?_
  refine lv_iload_n hx hb dX0_behind_7 rfl (lv_at hl 1 rfl) ?_
  refine lv_icmp_ge (tgt := 31) hx hb dX0_behind_8 (by decide) (fun c1 => ?_) (fun c1 => ?_)
  · have hf := it_t c1 hf
    refine lv_iload_n hx hb dX0_behind_31 rfl (lv_at hl 2 rfl) ?_
    exact q_reti (fun k : (Nat → Int32) => (wX0_behind cI cJ cZ cS a_t a_kinds a_costs a_terms a_known v_size v_list v_told v_kinds v_terms k)) fx hf h dX0_behind_32
  have hf := it_f c1 hf
  refine lv_aload_n hx hb dX0_behind_11 rfl (lv_at hl 0 rfl) ?_
  refine lv_iload_n hx hb dX0_behind_12 rfl (lv_at hl 2 rfl) ?_
  obtain ⟨r2, k2, hg, hf⟩ := bR_inv hf
  refine q_ci (rest := []) (ws' := (wX0_behind cI cJ cZ cS a_t a_kinds a_costs a_terms a_known v_size v_list v_told v_kinds v_terms k2)) (w1 := (wX0_isSettled cI cJ cZ cS a_t a_kinds a_costs a_terms a_known v_size v_list v_told v_kinds v_terms k2)) fx h [0, 1, 2, 3] rfl rfl rfl rfl (q_runV fx h hl.1 [0, 1, 2, 3] rfl rfl (tX0_isSettled l D cI cJ cZ cS tb a_t a_kinds a_costs a_terms a_known H.size v_size v_list v_told v_kinds v_terms v_known y3 r2 k2 hg) mvX0_isSettled k_393 ⟨rfl, rfl⟩ ⟨Nat.le_of_ble_eq_true rfl, Nat.le_of_ble_eq_true rfl⟩ rfl rfl rfl rfl (Nat.le_of_ble_eq_true rfl) dX0_behind_13 ⟨Nat.le_of_ble_eq_true rfl, Nat.le_of_ble_eq_true rfl⟩) (fun H locs h => ?_)
  refine lv_if_ne (tgt := 31) hx hb dX0_behind_16 (by decide) (fun c3 => ?_) (fun c3 => ?_)
  · have hf := it_f c3 hf
    refine lv_iload_n hx hb dX0_behind_31 rfl (lv_at hl 2 rfl) ?_
    exact q_reti (fun k : (Nat → Int32) => (wX0_behind cI cJ cZ cS a_t a_kinds a_costs a_terms a_known v_size v_list v_told v_kinds v_terms k)) fx hf h dX0_behind_32
  have hf := it_t c3 hf
  refine lv_aload_n hx hb dX0_behind_19 rfl (lv_at hl 0 rfl) ?_
  refine lv_iload_n hx hb dX0_behind_20 rfl (lv_at hl 2 rfl) ?_
  obtain ⟨r4, k4, hg, hf⟩ := bR_inv hf
  refine q_ci (rest := []) (ws' := (wX0_behind cI cJ cZ cS a_t a_kinds a_costs a_terms a_known v_size v_list v_told v_kinds v_terms k4)) (w1 := (wX0_comers cI cJ cZ cS a_t a_kinds a_costs a_terms a_known v_size v_list v_told v_kinds v_terms k4)) fx h [0, 1, 2, 3] rfl rfl rfl rfl (q_runV fx h hl.1 [0, 1, 2, 3] rfl rfl (tX0_comers l D cI cJ cZ cS tb a_t a_kinds a_costs a_terms a_known H.size v_size v_list v_told v_kinds v_terms k2 y3 r4 k4 hg) mvX0_comers k_362 ⟨rfl, rfl⟩ ⟨Nat.le_of_ble_eq_true rfl, Nat.le_of_ble_eq_true rfl⟩ rfl rfl rfl rfl (Nat.le_of_ble_eq_true rfl) dX0_behind_21 ⟨Nat.le_of_ble_eq_true rfl, Nat.le_of_ble_eq_true rfl⟩) (fun H locs h => ?_)
  refine lv_istore_n (lv' := [(3, .int r4), (0, .ref a_t), (2, .int y2), (4, .int y4)]) hx hb dX0_behind_24 rfl hl (by decide) rfl (fun ls hl => ?_)
  obtain ⟨u5, eu5, hf⟩ := nm_inv hf
  refine lv_iinc (v := u5) (lv' := [(4, .int u5), (3, .int r4), (0, .ref a_t), (2, .int y2)]) hx hb dX0_behind_25 hl (k := 3) rfl (by rw [eu5]; rfl) (by decide) rfl (fun ls hl => ?_)
  refine lv_goto (tgt := 5) hx hb dX0_behind_28 (by decide) ?_
  exact hag5 h (lv_sub hl [2, 3, 1, 0] rfl) hf
set_option maxRecDepth 100000 in
theorem EX0_behind_5 {p : Program} {l : Launch} {e : Env} {s : State} {m : MethodId} {args : Array Value} {below : List Frame} {meth : Method} {c : Code} {D : va_G} {cI cJ cZ cS : ClassId} {tb : Nat} {A : Nat → Prop} {a_t a_kinds a_costs a_terms a_known : Nat} {v_size : Int32} {v_list : Int32} {v_told : Int32} {v_kinds : Nat → Int32} {v_terms : Nat → Int64} {rr : Int32} {kk' : (Nat → Int32)} (fx : q_Fx p s m args meth c cX0_behind 5 RX0 (some .int) D cI cJ cZ cS tb A) : ∀ (n : Nat), ∀ {v_known : Nat → Int32} {y2 : Int32} {y3 : Int32} {y4 : Int32} {H : Heap} {locs : List Loc} {ls : Array Slot}, q_H D A s (wX0_behind cI cJ cZ cS a_t a_kinds a_costs a_terms a_known v_size v_list v_told v_kinds v_terms v_known) H locs → lv_has ls 5 [(0, .ref a_t), (2, .int y2), (3, .int y3), (4, .int y4)] → ll4 (fX0_behind_5 v_size v_kinds v_terms) n v_known y2 y3 y4 = some (rr, kk') → W p l e rX0_behind s m args below meth c H locs 0 0 (MQ below (q_Ri D rr A ((fun k : (Nat → Int32) => (wX0_behind cI cJ cZ cS a_t a_kinds a_costs a_terms a_known v_size v_list v_told v_kinds v_terms k)) kk')) args s 0 0 A) (F0 m 5 ls []) := by
  intro n
  induction n with
  | zero => intro v_known y2 y3 y4 H locs ls h hl hf; exact (ll4_z hf).elim
  | succ n ih => intro v_known y2 y3 y4 H locs ls h hl hf; exact LX0_behind_5 fx ih h hl (ll4_s hf)
def fX0_behind (v_size : Int32) (v_kinds : Nat → Int32) (v_terms : Nat → Int64) (v_known : Nat → Int32) (x1 : Int32) (x2 : Int32) : Option (Int32 × (Nat → Int32)) :=
  ll4 (fX0_behind_5 v_size v_kinds v_terms) qF v_known x2 x1 0
set_option maxRecDepth 100000 in
set_option maxHeartbeats 4000000 in
theorem tX0_behind (l : Launch) (D : va_G) (cI cJ cZ cS : ClassId) (tb : Nat) (a_t a_kinds a_costs a_terms a_known : Nat) (sz : Nat) (v_size : Int32) (v_list : Int32) (v_told : Int32) (v_kinds : Nat → Int32) (v_terms : Nat → Int64) (v_known : Nat → Int32) (x1 : Int32) (x2 : Int32) (rr : Int32) (kk' : (Nat → Int32)) (hf : fX0_behind v_size v_kinds v_terms v_known x1 x2 = some (rr, kk')) : Met l yX0_behind (Cond.code yX0_behind cX0_behind 5 (some .int) :: wA) rX0_behind (q_Pre D cI cJ cZ cS tb [.ref a_t, .int x1, .int x2] sz (wX0_behind cI cJ cZ cS a_t a_kinds a_costs a_terms a_known v_size v_list v_told v_kinds v_terms v_known)) (q_Ri D rr (va_A (wX0_behind cI cJ cZ cS a_t a_kinds a_costs a_terms a_known v_size v_list v_told v_kinds v_terms v_known) sz) ((fun k : (Nat → Int32) => (wX0_behind cI cJ cZ cS a_t a_kinds a_costs a_terms a_known v_size v_list v_told v_kinds v_terms k)) kk')) 0 0 (va_A (wX0_behind cI cJ cZ cS a_t a_kinds a_costs a_terms a_known v_size v_list v_told v_kinds v_terms v_known) sz) := by
  refine q_enter (Qf := fun A => (q_Ri D rr A ((fun k : (Nat → Int32) => (wX0_behind cI cJ cZ cS a_t a_kinds a_costs a_terms a_known v_size v_list v_told v_kinds v_terms k)) kk'))) (by decide) rfl (Nat.le_of_ble_eq_true rfl) ?_
  intro p e s m below meth c A ls fx hname h hl
  have hx := fx.1
  have hb := fx.2.1
  have hl : lv_has ls 5 [(0, .ref a_t), (1, .int x1), (2, .int x2)] := hl
  generalize h9 : s.heap = H at h ⊢
  clear h9
  generalize h9 : ([] : List Loc) = locs at h ⊢
  clear h9
  unfold fX0_behind at hf
  refine lv_iload_n hx hb dX0_behind_0 rfl (lv_at hl 1 rfl) ?_
  refine lv_istore_n (lv' := [(3, .int x1), (0, .ref a_t), (1, .int x1), (2, .int x2)]) hx hb dX0_behind_1 rfl hl (by decide) rfl (fun ls hl => ?_)
  refine lv_iconst (v := 0) hx hb dX0_behind_2 (by decide) ?_
  refine lv_istore (lv' := [(4, .int 0), (3, .int x1), (0, .ref a_t), (1, .int x1), (2, .int x2)]) hx hb dX0_behind_3 hl (by decide) rfl (fun ls hl => ?_)
  exact EX0_behind_5 fx qF h (lv_sub hl [2, 4, 1, 0] rfl) hf
end
section
/-! X4_rounds -/
abbrev wX4_rounds (cI cJ cZ cS : ClassId) (a_t a_party a_party_kinds a_party_costs a_party_terms a_party_known a_kept a_tape a_telephone a_sheets a_findings : Nat) (v_isKept : Int32) (v_party_size : Int32) (v_party_list : Int32) (v_party_told : Int32) (v_party_kinds : Nat → Int32) (v_party_terms : Nat → Int64) (v_party_known : Nat → Int32) (v_findings : Nat → Int32) : va_W := [(a_t, .inr (4, [.ref a_party, .ref a_kept, .int v_isKept, .ref a_tape, .ref a_telephone, .ref a_sheets, .ref a_findings])), (a_party, .inr (0, [.int v_party_size, .int v_party_list, .int v_party_told, .ref a_party_kinds, .ref a_party_costs, .ref a_party_terms, .ref a_party_known])), (a_party_kinds, .inl (cI, 8, .inl v_party_kinds)), (a_party_terms, .inl (cJ, 32, .inr (.inl v_party_terms))), (a_party_known, .inl (cI, 256, .inl v_party_known)), (a_findings, .inl (cI, 7, .inl v_findings))]
abbrev rX4_rounds : Room := { frames := 6, cells := 0, slots := 0, locals := 135 }
def fX4_rounds_11 (v_party_size : Int32) (v_party_kinds : Nat → Int32) (v_party_terms : Nat → Int64) (v_party_list : Int32) (v_party_known : Nat → Int32) (v_findings : Nat → Int32) : Option (Int32 × Int32 × (Nat → Int32) × (Nat → Int32)) :=
  bR (fX4_found v_findings (-1000000001)) (fun r1 k1 =>
  some (r1, (v_party_list, v_party_known, k1)))
set_option maxRecDepth 100000 in
set_option maxHeartbeats 4000000 in
theorem LX4_rounds_11 {p : Program} {l : Launch} {e : Env} {s : State} {m : MethodId} {args : Array Value} {below : List Frame} {meth : Method} {c : Code} {D : va_G} {cI cJ cZ cS : ClassId} {tb : Nat} {A : Nat → Prop} {a_t a_party a_party_kinds a_party_costs a_party_terms a_party_known a_kept a_tape a_telephone a_sheets a_findings : Nat} {v_isKept : Int32} {v_party_size : Int32} {v_party_told : Int32} {v_party_kinds : Nat → Int32} {v_party_terms : Nat → Int64} {rr : Int32} {kk' : Int32 × (Nat → Int32) × (Nat → Int32)} (fx : q_Fx p s m args meth c cX4_rounds 2 RX4 (some .int) D cI cJ cZ cS tb A) : ∀ {v_party_list : Int32} {v_party_known : Nat → Int32} {v_findings : Nat → Int32} {H : Heap} {locs : List Loc} {ls : Array Slot}, q_H D A s (wX4_rounds cI cJ cZ cS a_t a_party a_party_kinds a_party_costs a_party_terms a_party_known a_kept a_tape a_telephone a_sheets a_findings v_isKept v_party_size v_party_list v_party_told v_party_kinds v_party_terms v_party_known v_findings) H locs → lv_has ls 2 [(0, .ref a_t)] → fX4_rounds_11 v_party_size v_party_kinds v_party_terms v_party_list v_party_known v_findings = some (rr, kk') → W p l e rX4_rounds s m args below meth c H locs 0 0 (MQ below (q_Ri D rr A ((fun k : Int32 × (Nat → Int32) × (Nat → Int32) => (wX4_rounds cI cJ cZ cS a_t a_party a_party_kinds a_party_costs a_party_terms a_party_known a_kept a_tape a_telephone a_sheets a_findings v_isKept v_party_size k.1 v_party_told v_party_kinds v_party_terms k.2.1 k.2.2)) kk')) args s 0 0 A) (F0 m 11 ls []) := by
  intro v_party_list v_party_known v_findings H locs ls h hl hf
  have hx := fx.1
  have hb := fx.2.1
  unfold fX4_rounds_11 at hf
  refine lv_aload_n hx hb dX4_rounds_11 rfl (lv_at hl 0 rfl) ?_
  refine q_ldc fx k_206 dX4_rounds_12 ?_
  obtain ⟨r1, k1, hg, hf⟩ := bR_inv hf
  refine q_ci (rest := []) (ws' := (wX4_rounds cI cJ cZ cS a_t a_party a_party_kinds a_party_costs a_party_terms a_party_known a_kept a_tape a_telephone a_sheets a_findings v_isKept v_party_size v_party_list v_party_told v_party_kinds v_party_terms v_party_known k1)) (w1 := (wX4_found cI cJ cZ cS a_t a_party a_kept a_tape a_telephone a_sheets a_findings v_isKept k1)) fx h [0, 5] rfl rfl rfl rfl (q_runV fx h hl.1 [0, 5] rfl rfl (tX4_found l D cI cJ cZ cS tb a_t a_party a_kept a_tape a_telephone a_sheets a_findings H.size v_isKept v_findings (-1000000001) r1 k1 hg) mvX4_found k_207 ⟨rfl, rfl⟩ ⟨Nat.le_of_ble_eq_true rfl, Nat.le_of_ble_eq_true rfl⟩ rfl rfl rfl rfl (Nat.le_of_ble_eq_true rfl) dX4_rounds_14 ⟨Nat.le_of_ble_eq_true rfl, Nat.le_of_ble_eq_true rfl⟩) (fun H locs h => ?_)
  exact q_reti (fun k : Int32 × (Nat → Int32) × (Nat → Int32) => (wX4_rounds cI cJ cZ cS a_t a_party a_party_kinds a_party_costs a_party_terms a_party_known a_kept a_tape a_telephone a_sheets a_findings v_isKept v_party_size k.1 v_party_told v_party_kinds v_party_terms k.2.1 k.2.2)) fx hf h dX4_rounds_17
def fX4_rounds (v_party_size : Int32) (v_party_list : Int32) (v_party_kinds : Nat → Int32) (v_party_terms : Nat → Int64) (v_party_known : Nat → Int32) (v_findings : Nat → Int32) (x1 : Int32) : Option (Int32 × Int32 × (Nat → Int32) × (Nat → Int32)) :=
  (if x1 < 1 then (
  fX4_rounds_11 v_party_size v_party_kinds v_party_terms v_party_list v_party_known v_findings)
  else (
  (if x1 ≤ 64 then (
  bR (fX0_behind v_party_size v_party_kinds v_party_terms v_party_known v_party_list x1) (fun r4 k4 =>
  some (r4, (r4, k4, v_findings))))
  else (
  fX4_rounds_11 v_party_size v_party_kinds v_party_terms v_party_list v_party_known v_findings))))
set_option maxRecDepth 100000 in
set_option maxHeartbeats 4000000 in
theorem tX4_rounds (l : Launch) (D : va_G) (cI cJ cZ cS : ClassId) (tb : Nat) (a_t a_party a_party_kinds a_party_costs a_party_terms a_party_known a_kept a_tape a_telephone a_sheets a_findings : Nat) (sz : Nat) (v_isKept : Int32) (v_party_size : Int32) (v_party_list : Int32) (v_party_told : Int32) (v_party_kinds : Nat → Int32) (v_party_terms : Nat → Int64) (v_party_known : Nat → Int32) (v_findings : Nat → Int32) (x1 : Int32) (rr : Int32) (kk' : Int32 × (Nat → Int32) × (Nat → Int32)) (hf : fX4_rounds v_party_size v_party_list v_party_kinds v_party_terms v_party_known v_findings x1 = some (rr, kk')) : Met l yX4_rounds (Cond.code yX4_rounds cX4_rounds 2 (some .int) :: wA) rX4_rounds (q_Pre D cI cJ cZ cS tb [.ref a_t, .int x1] sz (wX4_rounds cI cJ cZ cS a_t a_party a_party_kinds a_party_costs a_party_terms a_party_known a_kept a_tape a_telephone a_sheets a_findings v_isKept v_party_size v_party_list v_party_told v_party_kinds v_party_terms v_party_known v_findings)) (q_Ri D rr (va_A (wX4_rounds cI cJ cZ cS a_t a_party a_party_kinds a_party_costs a_party_terms a_party_known a_kept a_tape a_telephone a_sheets a_findings v_isKept v_party_size v_party_list v_party_told v_party_kinds v_party_terms v_party_known v_findings) sz) ((fun k : Int32 × (Nat → Int32) × (Nat → Int32) => (wX4_rounds cI cJ cZ cS a_t a_party a_party_kinds a_party_costs a_party_terms a_party_known a_kept a_tape a_telephone a_sheets a_findings v_isKept v_party_size k.1 v_party_told v_party_kinds v_party_terms k.2.1 k.2.2)) kk')) 0 0 (va_A (wX4_rounds cI cJ cZ cS a_t a_party a_party_kinds a_party_costs a_party_terms a_party_known a_kept a_tape a_telephone a_sheets a_findings v_isKept v_party_size v_party_list v_party_told v_party_kinds v_party_terms v_party_known v_findings) sz) := by
  refine q_enter (Qf := fun A => (q_Ri D rr A ((fun k : Int32 × (Nat → Int32) × (Nat → Int32) => (wX4_rounds cI cJ cZ cS a_t a_party a_party_kinds a_party_costs a_party_terms a_party_known a_kept a_tape a_telephone a_sheets a_findings v_isKept v_party_size k.1 v_party_told v_party_kinds v_party_terms k.2.1 k.2.2)) kk'))) (by decide) rfl (Nat.le_of_ble_eq_true rfl) ?_
  intro p e s m below meth c A ls fx hname h hl
  have hx := fx.1
  have hb := fx.2.1
  have hl : lv_has ls 2 [(0, .ref a_t), (1, .int x1)] := hl
  generalize h9 : s.heap = H at h ⊢
  clear h9
  generalize h9 : ([] : List Loc) = locs at h ⊢
  clear h9
  unfold fX4_rounds at hf
  refine lv_iload_n hx hb dX4_rounds_0 rfl (lv_at hl 1 rfl) ?_
  refine lv_iconst (v := 1) hx hb dX4_rounds_1 (by decide) ?_
  refine lv_icmp_lt (tgt := 11) hx hb dX4_rounds_2 (by decide) (fun c2 => ?_) (fun c2 => ?_)
  · have hf := it_t c2 hf
    exact LX4_rounds_11 fx h (lv_sub hl [0] rfl) hf
  have hf := it_f c2 hf
  refine lv_iload_n hx hb dX4_rounds_5 rfl (lv_at hl 1 rfl) ?_
  refine lv_bipush (v := 64) hx hb dX4_rounds_6 (by decide) ?_
  refine lv_icmp_le (tgt := 18) hx hb dX4_rounds_8 (by decide) (fun c3 => ?_) (fun c3 => ?_)
  · have hf := it_t c3 hf
    refine lv_aload_n hx hb dX4_rounds_18 rfl (lv_at hl 0 rfl) ?_
    refine q_get (v := .ref a_party) fx inX4 h 0 rfl rfl 0 (by decide) k_174 rfl dX4_rounds_19 ?_
    refine lv_aload_n hx hb dX4_rounds_22 rfl (lv_at hl 0 rfl) ?_
    refine q_get (v := .ref a_party) fx inX4 h 0 rfl rfl 0 (by decide) k_174 rfl dX4_rounds_23 ?_
    refine lv_aload_n hx hb dX4_rounds_26 rfl (lv_at hl 0 rfl) ?_
    refine q_get (v := .ref a_party) fx inX4 h 0 rfl rfl 0 (by decide) k_174 rfl dX4_rounds_27 ?_
    refine q_getN (v := .int v_party_list) fx inX0 h 1 rfl rfl 1 (by decide) nf_3 rfl dX4_rounds_30 ?_
    refine lv_iload_n hx hb dX4_rounds_33 rfl (lv_at hl 1 rfl) ?_
    obtain ⟨r4, k4, hg, hf⟩ := bR_inv hf
    refine q_ci (rest := [.ref a_party]) (ws' := (wX4_rounds cI cJ cZ cS a_t a_party a_party_kinds a_party_costs a_party_terms a_party_known a_kept a_tape a_telephone a_sheets a_findings v_isKept v_party_size v_party_list v_party_told v_party_kinds v_party_terms k4 v_findings)) (w1 := (wX0_behind cI cJ cZ cS a_party a_party_kinds a_party_costs a_party_terms a_party_known v_party_size v_party_list v_party_told v_party_kinds v_party_terms k4)) fx h [1, 2, 3, 4] rfl rfl rfl rfl (q_runV fx h hl.1 [1, 2, 3, 4] rfl rfl (tX0_behind l D cI cJ cZ cS tb a_party a_party_kinds a_party_costs a_party_terms a_party_known H.size v_party_size v_party_list v_party_told v_party_kinds v_party_terms v_party_known v_party_list x1 r4 k4 hg) mvX0_behind k_389 ⟨rfl, rfl⟩ ⟨Nat.le_of_ble_eq_true rfl, Nat.le_of_ble_eq_true rfl⟩ rfl rfl rfl rfl (Nat.le_of_ble_eq_true rfl) dX4_rounds_34 ⟨Nat.le_of_ble_eq_true rfl, Nat.le_of_ble_eq_true rfl⟩) (fun H locs h => ?_)
    refine q_putN (v := .int r4) (ws' := (wX4_rounds cI cJ cZ cS a_t a_party a_party_kinds a_party_costs a_party_terms a_party_known a_kept a_tape a_telephone a_sheets a_findings v_isKept v_party_size r4 v_party_told v_party_kinds v_party_terms k4 v_findings)) fx inX0 tyX0 tyX0_ok nmX0 h 1 rfl rfl 1 (by decide) nf_3 rfl rfl rfl (Nat.le_of_ble_eq_true rfl) rfl dX4_rounds_37 (fun H locs h => ?_)
    refine lv_aload_n hx hb dX4_rounds_40 rfl (lv_at hl 0 rfl) ?_
    refine q_get (v := .ref a_party) fx inX4 h 0 rfl rfl 0 (by decide) k_174 rfl dX4_rounds_41 ?_
    refine q_getN (v := .int r4) fx inX0 h 1 rfl rfl 1 (by decide) nf_3 rfl dX4_rounds_44 ?_
    exact q_reti (fun k : Int32 × (Nat → Int32) × (Nat → Int32) => (wX4_rounds cI cJ cZ cS a_t a_party a_party_kinds a_party_costs a_party_terms a_party_known a_kept a_tape a_telephone a_sheets a_findings v_isKept v_party_size k.1 v_party_told v_party_kinds v_party_terms k.2.1 k.2.2)) fx hf h dX4_rounds_47
  have hf := it_f c3 hf
  exact LX4_rounds_11 fx h (lv_sub hl [0] rfl) hf
/-! X4_on -/
abbrev wX4_on (cI cJ cZ cS : ClassId) (a_t a_party a_party_kinds a_party_costs a_party_terms a_party_known a_kept a_tape a_telephone a_sheets a_findings : Nat) (v_isKept : Int32) (v_party_size : Int32) (v_party_list : Int32) (v_party_told : Int32) (v_party_kinds : Nat → Int32) (v_party_terms : Nat → Int64) (v_party_known : Nat → Int32) (v_findings : Nat → Int32) : va_W := [(a_t, .inr (4, [.ref a_party, .ref a_kept, .int v_isKept, .ref a_tape, .ref a_telephone, .ref a_sheets, .ref a_findings])), (a_party, .inr (0, [.int v_party_size, .int v_party_list, .int v_party_told, .ref a_party_kinds, .ref a_party_costs, .ref a_party_terms, .ref a_party_known])), (a_party_kinds, .inl (cI, 8, .inl v_party_kinds)), (a_party_terms, .inl (cJ, 32, .inr (.inl v_party_terms))), (a_party_known, .inl (cI, 256, .inl v_party_known)), (a_findings, .inl (cI, 7, .inl v_findings))]
abbrev rX4_on : Room := { frames := 6, cells := 0, slots := 0, locals := 135 }
def fX4_on_10 (v_party_size : Int32) (v_party_list : Int32) (v_party_kinds : Nat → Int32) (v_party_terms : Nat → Int64) (v_party_known : Nat → Int32) (v_findings : Nat → Int32) : Option (Int32 × (Nat → Int32) × (Nat → Int32)) :=
  bR (fX4_found v_findings (-1000000001)) (fun r1 k1 =>
  some (r1, (v_party_known, k1)))
set_option maxRecDepth 100000 in
set_option maxHeartbeats 4000000 in
theorem LX4_on_10 {p : Program} {l : Launch} {e : Env} {s : State} {m : MethodId} {args : Array Value} {below : List Frame} {meth : Method} {c : Code} {D : va_G} {cI cJ cZ cS : ClassId} {tb : Nat} {A : Nat → Prop} {a_t a_party a_party_kinds a_party_costs a_party_terms a_party_known a_kept a_tape a_telephone a_sheets a_findings : Nat} {v_isKept : Int32} {v_party_size : Int32} {v_party_list : Int32} {v_party_told : Int32} {v_party_kinds : Nat → Int32} {v_party_terms : Nat → Int64} {rr : Int32} {kk' : (Nat → Int32) × (Nat → Int32)} (fx : q_Fx p s m args meth c cX4_on 2 RX4 (some .int) D cI cJ cZ cS tb A) : ∀ {v_party_known : Nat → Int32} {v_findings : Nat → Int32} {H : Heap} {locs : List Loc} {ls : Array Slot}, q_H D A s (wX4_on cI cJ cZ cS a_t a_party a_party_kinds a_party_costs a_party_terms a_party_known a_kept a_tape a_telephone a_sheets a_findings v_isKept v_party_size v_party_list v_party_told v_party_kinds v_party_terms v_party_known v_findings) H locs → lv_has ls 2 [(0, .ref a_t)] → fX4_on_10 v_party_size v_party_list v_party_kinds v_party_terms v_party_known v_findings = some (rr, kk') → W p l e rX4_on s m args below meth c H locs 0 0 (MQ below (q_Ri D rr A ((fun k : (Nat → Int32) × (Nat → Int32) => (wX4_on cI cJ cZ cS a_t a_party a_party_kinds a_party_costs a_party_terms a_party_known a_kept a_tape a_telephone a_sheets a_findings v_isKept v_party_size v_party_list v_party_told v_party_kinds v_party_terms k.1 k.2)) kk')) args s 0 0 A) (F0 m 10 ls []) := by
  intro v_party_known v_findings H locs ls h hl hf
  have hx := fx.1
  have hb := fx.2.1
  unfold fX4_on_10 at hf
  refine lv_aload_n hx hb dX4_on_10 rfl (lv_at hl 0 rfl) ?_
  refine q_ldc fx k_206 dX4_on_11 ?_
  obtain ⟨r1, k1, hg, hf⟩ := bR_inv hf
  refine q_ci (rest := []) (ws' := (wX4_on cI cJ cZ cS a_t a_party a_party_kinds a_party_costs a_party_terms a_party_known a_kept a_tape a_telephone a_sheets a_findings v_isKept v_party_size v_party_list v_party_told v_party_kinds v_party_terms v_party_known k1)) (w1 := (wX4_found cI cJ cZ cS a_t a_party a_kept a_tape a_telephone a_sheets a_findings v_isKept k1)) fx h [0, 5] rfl rfl rfl rfl (q_runV fx h hl.1 [0, 5] rfl rfl (tX4_found l D cI cJ cZ cS tb a_t a_party a_kept a_tape a_telephone a_sheets a_findings H.size v_isKept v_findings (-1000000001) r1 k1 hg) mvX4_found k_207 ⟨rfl, rfl⟩ ⟨Nat.le_of_ble_eq_true rfl, Nat.le_of_ble_eq_true rfl⟩ rfl rfl rfl rfl (Nat.le_of_ble_eq_true rfl) dX4_on_13 ⟨Nat.le_of_ble_eq_true rfl, Nat.le_of_ble_eq_true rfl⟩) (fun H locs h => ?_)
  refine lv_goto (tgt := 34) hx hb dX4_on_16 (by decide) ?_
  exact q_reti (fun k : (Nat → Int32) × (Nat → Int32) => (wX4_on cI cJ cZ cS a_t a_party a_party_kinds a_party_costs a_party_terms a_party_known a_kept a_tape a_telephone a_sheets a_findings v_isKept v_party_size v_party_list v_party_told v_party_kinds v_party_terms k.1 k.2)) fx hf h dX4_on_34
def fX4_on (v_party_size : Int32) (v_party_list : Int32) (v_party_kinds : Nat → Int32) (v_party_terms : Nat → Int64) (v_party_known : Nat → Int32) (v_findings : Nat → Int32) (x1 : Int32) : Option (Int32 × (Nat → Int32) × (Nat → Int32)) :=
  (if x1 < 0 then (
  fX4_on_10 v_party_size v_party_list v_party_kinds v_party_terms v_party_known v_findings)
  else (
  (if x1 ≤ 64 then (
  bR (fX0_behind v_party_size v_party_kinds v_party_terms v_party_known v_party_list x1) (fun r4 k4 =>
  some (r4, (k4, v_findings))))
  else (
  fX4_on_10 v_party_size v_party_list v_party_kinds v_party_terms v_party_known v_findings))))
set_option maxRecDepth 100000 in
set_option maxHeartbeats 4000000 in
theorem tX4_on (l : Launch) (D : va_G) (cI cJ cZ cS : ClassId) (tb : Nat) (a_t a_party a_party_kinds a_party_costs a_party_terms a_party_known a_kept a_tape a_telephone a_sheets a_findings : Nat) (sz : Nat) (v_isKept : Int32) (v_party_size : Int32) (v_party_list : Int32) (v_party_told : Int32) (v_party_kinds : Nat → Int32) (v_party_terms : Nat → Int64) (v_party_known : Nat → Int32) (v_findings : Nat → Int32) (x1 : Int32) (rr : Int32) (kk' : (Nat → Int32) × (Nat → Int32)) (hf : fX4_on v_party_size v_party_list v_party_kinds v_party_terms v_party_known v_findings x1 = some (rr, kk')) : Met l yX4_on (Cond.code yX4_on cX4_on 2 (some .int) :: wA) rX4_on (q_Pre D cI cJ cZ cS tb [.ref a_t, .int x1] sz (wX4_on cI cJ cZ cS a_t a_party a_party_kinds a_party_costs a_party_terms a_party_known a_kept a_tape a_telephone a_sheets a_findings v_isKept v_party_size v_party_list v_party_told v_party_kinds v_party_terms v_party_known v_findings)) (q_Ri D rr (va_A (wX4_on cI cJ cZ cS a_t a_party a_party_kinds a_party_costs a_party_terms a_party_known a_kept a_tape a_telephone a_sheets a_findings v_isKept v_party_size v_party_list v_party_told v_party_kinds v_party_terms v_party_known v_findings) sz) ((fun k : (Nat → Int32) × (Nat → Int32) => (wX4_on cI cJ cZ cS a_t a_party a_party_kinds a_party_costs a_party_terms a_party_known a_kept a_tape a_telephone a_sheets a_findings v_isKept v_party_size v_party_list v_party_told v_party_kinds v_party_terms k.1 k.2)) kk')) 0 0 (va_A (wX4_on cI cJ cZ cS a_t a_party a_party_kinds a_party_costs a_party_terms a_party_known a_kept a_tape a_telephone a_sheets a_findings v_isKept v_party_size v_party_list v_party_told v_party_kinds v_party_terms v_party_known v_findings) sz) := by
  refine q_enter (Qf := fun A => (q_Ri D rr A ((fun k : (Nat → Int32) × (Nat → Int32) => (wX4_on cI cJ cZ cS a_t a_party a_party_kinds a_party_costs a_party_terms a_party_known a_kept a_tape a_telephone a_sheets a_findings v_isKept v_party_size v_party_list v_party_told v_party_kinds v_party_terms k.1 k.2)) kk'))) (by decide) rfl (Nat.le_of_ble_eq_true rfl) ?_
  intro p e s m below meth c A ls fx hname h hl
  have hx := fx.1
  have hb := fx.2.1
  have hl : lv_has ls 2 [(0, .ref a_t), (1, .int x1)] := hl
  generalize h9 : s.heap = H at h ⊢
  clear h9
  generalize h9 : ([] : List Loc) = locs at h ⊢
  clear h9
  unfold fX4_on at hf
  refine lv_iload_n hx hb dX4_on_0 rfl (lv_at hl 1 rfl) ?_
  refine lv_if_lt (tgt := 10) hx hb dX4_on_1 (by decide) (fun c2 => ?_) (fun c2 => ?_)
  · have hf := it_t c2 hf
    exact LX4_on_10 fx h (lv_sub hl [0] rfl) hf
  have hf := it_f c2 hf
  refine lv_iload_n hx hb dX4_on_4 rfl (lv_at hl 1 rfl) ?_
  refine lv_bipush (v := 64) hx hb dX4_on_5 (by decide) ?_
  refine lv_icmp_le (tgt := 19) hx hb dX4_on_7 (by decide) (fun c3 => ?_) (fun c3 => ?_)
  · have hf := it_t c3 hf
    refine lv_aload_n hx hb dX4_on_19 rfl (lv_at hl 0 rfl) ?_
    refine q_get (v := .ref a_party) fx inX4 h 0 rfl rfl 0 (by decide) k_174 rfl dX4_on_20 ?_
    refine lv_aload_n hx hb dX4_on_23 rfl (lv_at hl 0 rfl) ?_
    refine q_get (v := .ref a_party) fx inX4 h 0 rfl rfl 0 (by decide) k_174 rfl dX4_on_24 ?_
    refine q_getN (v := .int v_party_list) fx inX0 h 1 rfl rfl 1 (by decide) nf_3 rfl dX4_on_27 ?_
    refine lv_iload_n hx hb dX4_on_30 rfl (lv_at hl 1 rfl) ?_
    obtain ⟨r4, k4, hg, hf⟩ := bR_inv hf
    refine q_ci (rest := []) (ws' := (wX4_on cI cJ cZ cS a_t a_party a_party_kinds a_party_costs a_party_terms a_party_known a_kept a_tape a_telephone a_sheets a_findings v_isKept v_party_size v_party_list v_party_told v_party_kinds v_party_terms k4 v_findings)) (w1 := (wX0_behind cI cJ cZ cS a_party a_party_kinds a_party_costs a_party_terms a_party_known v_party_size v_party_list v_party_told v_party_kinds v_party_terms k4)) fx h [1, 2, 3, 4] rfl rfl rfl rfl (q_runV fx h hl.1 [1, 2, 3, 4] rfl rfl (tX0_behind l D cI cJ cZ cS tb a_party a_party_kinds a_party_costs a_party_terms a_party_known H.size v_party_size v_party_list v_party_told v_party_kinds v_party_terms v_party_known v_party_list x1 r4 k4 hg) mvX0_behind k_389 ⟨rfl, rfl⟩ ⟨Nat.le_of_ble_eq_true rfl, Nat.le_of_ble_eq_true rfl⟩ rfl rfl rfl rfl (Nat.le_of_ble_eq_true rfl) dX4_on_31 ⟨Nat.le_of_ble_eq_true rfl, Nat.le_of_ble_eq_true rfl⟩) (fun H locs h => ?_)
    exact q_reti (fun k : (Nat → Int32) × (Nat → Int32) => (wX4_on cI cJ cZ cS a_t a_party a_party_kinds a_party_costs a_party_terms a_party_known a_kept a_tape a_telephone a_sheets a_findings v_isKept v_party_size v_party_list v_party_told v_party_kinds v_party_terms k.1 k.2)) fx hf h dX4_on_34
  have hf := it_f c3 hf
  exact LX4_on_10 fx h (lv_sub hl [0] rfl) hf
/-! X4_when -/
abbrev wX4_when (cI cJ cZ cS : ClassId) (a_t a_party a_party_kinds a_party_costs a_party_terms a_party_known a_kept a_tape a_telephone a_sheets a_findings : Nat) (v_isKept : Int32) (v_party_size : Int32) (v_party_list : Int32) (v_party_told : Int32) (v_party_kinds : Nat → Int32) (v_party_terms : Nat → Int64) (v_party_known : Nat → Int32) (v_findings : Nat → Int32) : va_W := [(a_t, .inr (4, [.ref a_party, .ref a_kept, .int v_isKept, .ref a_tape, .ref a_telephone, .ref a_sheets, .ref a_findings])), (a_party, .inr (0, [.int v_party_size, .int v_party_list, .int v_party_told, .ref a_party_kinds, .ref a_party_costs, .ref a_party_terms, .ref a_party_known])), (a_party_kinds, .inl (cI, 8, .inl v_party_kinds)), (a_party_terms, .inl (cJ, 32, .inr (.inl v_party_terms))), (a_party_known, .inl (cI, 256, .inl v_party_known)), (a_findings, .inl (cI, 7, .inl v_findings))]
abbrev rX4_when : Room := { frames := 5, cells := 0, slots := 0, locals := 111 }
def fX4_when_10 (v_party_size : Int32) (v_party_list : Int32) (v_party_kinds : Nat → Int32) (v_party_terms : Nat → Int64) (ag10 : (Nat → Int32) → (Nat → Int32) → Int32 → Int32 → Option (Int32 × (Nat → Int32) × (Nat → Int32))) (v_party_known : Nat → Int32) (v_findings : Nat → Int32) (y1 : Int32) (y2 : Int32) : Option (Int32 × (Nat → Int32) × (Nat → Int32)) :=
  (if (256 : Int32) < y2 then (
  bR (fX4_found v_findings (-1000000004)) (fun r2 k2 =>
  some (r2, (v_party_known, k2))))
  else (
  bR (fX0_isSettled v_party_size v_party_kinds v_party_terms v_party_known y1) (fun r3 k3 =>
  (if r3 = 0 then (
  bR (fX0_comers v_party_size v_party_kinds v_party_terms k3 y1) (fun r5 k5 =>
  nm (y2 + 1) (fun u6 =>
  ag10 k5 v_findings r5 u6)))
  else (
  some (y2, (k3, v_findings)))))))
set_option maxRecDepth 100000 in
set_option maxHeartbeats 4000000 in
theorem LX4_when_10 {p : Program} {l : Launch} {e : Env} {s : State} {m : MethodId} {args : Array Value} {below : List Frame} {meth : Method} {c : Code} {D : va_G} {cI cJ cZ cS : ClassId} {tb : Nat} {A : Nat → Prop} {a_t a_party a_party_kinds a_party_costs a_party_terms a_party_known a_kept a_tape a_telephone a_sheets a_findings : Nat} {v_isKept : Int32} {v_party_size : Int32} {v_party_list : Int32} {v_party_told : Int32} {v_party_kinds : Nat → Int32} {v_party_terms : Nat → Int64} {rr : Int32} {kk' : (Nat → Int32) × (Nat → Int32)} (fx : q_Fx p s m args meth c cX4_when 3 RX4 (some .int) D cI cJ cZ cS tb A) {ag10 : (Nat → Int32) → (Nat → Int32) → Int32 → Int32 → Option (Int32 × (Nat → Int32) × (Nat → Int32))} (hag10 : ∀ {v_party_known : Nat → Int32} {v_findings : Nat → Int32} {y1 : Int32} {y2 : Int32} {H : Heap} {locs : List Loc} {ls : Array Slot}, q_H D A s (wX4_when cI cJ cZ cS a_t a_party a_party_kinds a_party_costs a_party_terms a_party_known a_kept a_tape a_telephone a_sheets a_findings v_isKept v_party_size v_party_list v_party_told v_party_kinds v_party_terms v_party_known v_findings) H locs → lv_has ls 3 [(0, .ref a_t), (1, .int y1), (2, .int y2)] → ag10 v_party_known v_findings y1 y2 = some (rr, kk') → W p l e rX4_when s m args below meth c H locs 0 0 (MQ below (q_Ri D rr A ((fun k : (Nat → Int32) × (Nat → Int32) => (wX4_when cI cJ cZ cS a_t a_party a_party_kinds a_party_costs a_party_terms a_party_known a_kept a_tape a_telephone a_sheets a_findings v_isKept v_party_size v_party_list v_party_told v_party_kinds v_party_terms k.1 k.2)) kk')) args s 0 0 A) (F0 m 10 ls [])) : ∀ {v_party_known : Nat → Int32} {v_findings : Nat → Int32} {y1 : Int32} {y2 : Int32} {H : Heap} {locs : List Loc} {ls : Array Slot}, q_H D A s (wX4_when cI cJ cZ cS a_t a_party a_party_kinds a_party_costs a_party_terms a_party_known a_kept a_tape a_telephone a_sheets a_findings v_isKept v_party_size v_party_list v_party_told v_party_kinds v_party_terms v_party_known v_findings) H locs → lv_has ls 3 [(0, .ref a_t), (1, .int y1), (2, .int y2)] → fX4_when_10 v_party_size v_party_list v_party_kinds v_party_terms ag10 v_party_known v_findings y1 y2 = some (rr, kk') → W p l e rX4_when s m args below meth c H locs 0 0 (MQ below (q_Ri D rr A ((fun k : (Nat → Int32) × (Nat → Int32) => (wX4_when cI cJ cZ cS a_t a_party a_party_kinds a_party_costs a_party_terms a_party_known a_kept a_tape a_telephone a_sheets a_findings v_isKept v_party_size v_party_list v_party_told v_party_kinds v_party_terms k.1 k.2)) kk')) args s 0 0 A) (F0 m 10 ls []) := by
  intro v_party_known v_findings y1 y2 H locs ls h hl hf
  have hx := fx.1
  have hb := fx.2.1
  unfold fX4_when_10 at hf
  refine lv_iload_n hx hb dX4_when_10 rfl (lv_at hl 2 rfl) ?_
  refine lv_sipush (v := 256) hx hb dX4_when_11 (by decide) ?_
  refine lv_icmp_gt (tgt := 45) hx hb dX4_when_14 (by decide) (fun c1 => ?_) (fun c1 => ?_)
  · have hf := it_t c1 hf
    refine lv_aload_n hx hb dX4_when_45 rfl (lv_at hl 0 rfl) ?_
    refine q_ldc fx k_402 dX4_when_46 ?_
    obtain ⟨r2, k2, hg, hf⟩ := bR_inv hf
    refine q_ci (rest := []) (ws' := (wX4_when cI cJ cZ cS a_t a_party a_party_kinds a_party_costs a_party_terms a_party_known a_kept a_tape a_telephone a_sheets a_findings v_isKept v_party_size v_party_list v_party_told v_party_kinds v_party_terms v_party_known k2)) (w1 := (wX4_found cI cJ cZ cS a_t a_party a_kept a_tape a_telephone a_sheets a_findings v_isKept k2)) fx h [0, 5] rfl rfl rfl rfl (q_runV fx h hl.1 [0, 5] rfl rfl (tX4_found l D cI cJ cZ cS tb a_t a_party a_kept a_tape a_telephone a_sheets a_findings H.size v_isKept v_findings (-1000000004) r2 k2 hg) mvX4_found k_207 ⟨rfl, rfl⟩ ⟨Nat.le_of_ble_eq_true rfl, Nat.le_of_ble_eq_true rfl⟩ rfl rfl rfl rfl (Nat.le_of_ble_eq_true rfl) dX4_when_48 ⟨Nat.le_of_ble_eq_true rfl, Nat.le_of_ble_eq_true rfl⟩) (fun H locs h => ?_)
    exact q_reti (fun k : (Nat → Int32) × (Nat → Int32) => (wX4_when cI cJ cZ cS a_t a_party a_party_kinds a_party_costs a_party_terms a_party_known a_kept a_tape a_telephone a_sheets a_findings v_isKept v_party_size v_party_list v_party_told v_party_kinds v_party_terms k.1 k.2)) fx hf h dX4_when_51
  have hf := it_f c1 hf
  refine lv_aload_n hx hb dX4_when_17 rfl (lv_at hl 0 rfl) ?_
  refine q_get (v := .ref a_party) fx inX4 h 0 rfl rfl 0 (by decide) k_174 rfl dX4_when_18 ?_
  refine lv_iload_n hx hb dX4_when_21 rfl (lv_at hl 1 rfl) ?_
  obtain ⟨r3, k3, hg, hf⟩ := bR_inv hf
  refine q_ci (rest := []) (ws' := (wX4_when cI cJ cZ cS a_t a_party a_party_kinds a_party_costs a_party_terms a_party_known a_kept a_tape a_telephone a_sheets a_findings v_isKept v_party_size v_party_list v_party_told v_party_kinds v_party_terms k3 v_findings)) (w1 := (wX0_isSettled cI cJ cZ cS a_party a_party_kinds a_party_costs a_party_terms a_party_known v_party_size v_party_list v_party_told v_party_kinds v_party_terms k3)) fx h [1, 2, 3, 4] rfl rfl rfl rfl (q_runV fx h hl.1 [1, 2, 3, 4] rfl rfl (tX0_isSettled l D cI cJ cZ cS tb a_party a_party_kinds a_party_costs a_party_terms a_party_known H.size v_party_size v_party_list v_party_told v_party_kinds v_party_terms v_party_known y1 r3 k3 hg) mvX0_isSettled k_358 ⟨rfl, rfl⟩ ⟨Nat.le_of_ble_eq_true rfl, Nat.le_of_ble_eq_true rfl⟩ rfl rfl rfl rfl (Nat.le_of_ble_eq_true rfl) dX4_when_22 ⟨Nat.le_of_ble_eq_true rfl, Nat.le_of_ble_eq_true rfl⟩) (fun H locs h => ?_)
  refine lv_if_eq (tgt := 30) hx hb dX4_when_25 (by decide) (fun c4 => ?_) (fun c4 => ?_)
  · have hf := it_t c4 hf
    refine lv_aload_n hx hb dX4_when_30 rfl (lv_at hl 0 rfl) ?_
    refine q_get (v := .ref a_party) fx inX4 h 0 rfl rfl 0 (by decide) k_174 rfl dX4_when_31 ?_
    refine lv_iload_n hx hb dX4_when_34 rfl (lv_at hl 1 rfl) ?_
    obtain ⟨r5, k5, hg, hf⟩ := bR_inv hf
    refine q_ci (rest := []) (ws' := (wX4_when cI cJ cZ cS a_t a_party a_party_kinds a_party_costs a_party_terms a_party_known a_kept a_tape a_telephone a_sheets a_findings v_isKept v_party_size v_party_list v_party_told v_party_kinds v_party_terms k5 v_findings)) (w1 := (wX0_comers cI cJ cZ cS a_party a_party_kinds a_party_costs a_party_terms a_party_known v_party_size v_party_list v_party_told v_party_kinds v_party_terms k5)) fx h [1, 2, 3, 4] rfl rfl rfl rfl (q_runV fx h hl.1 [1, 2, 3, 4] rfl rfl (tX0_comers l D cI cJ cZ cS tb a_party a_party_kinds a_party_costs a_party_terms a_party_known H.size v_party_size v_party_list v_party_told v_party_kinds v_party_terms k3 y1 r5 k5 hg) mvX0_comers k_224 ⟨rfl, rfl⟩ ⟨Nat.le_of_ble_eq_true rfl, Nat.le_of_ble_eq_true rfl⟩ rfl rfl rfl rfl (Nat.le_of_ble_eq_true rfl) dX4_when_35 ⟨Nat.le_of_ble_eq_true rfl, Nat.le_of_ble_eq_true rfl⟩) (fun H locs h => ?_)
    refine lv_istore_n (lv' := [(1, .int r5), (0, .ref a_t), (2, .int y2)]) hx hb dX4_when_38 rfl hl (by decide) rfl (fun ls hl => ?_)
    obtain ⟨u6, eu6, hf⟩ := nm_inv hf
    refine lv_iinc (v := u6) (lv' := [(2, .int u6), (1, .int r5), (0, .ref a_t)]) hx hb dX4_when_39 hl (k := 2) rfl (by rw [eu6]; rfl) (by decide) rfl (fun ls hl => ?_)
    refine lv_goto (tgt := 10) hx hb dX4_when_42 (by decide) ?_
    exact hag10 h (lv_sub hl [2, 1, 0] rfl) hf
  have hf := it_f c4 hf
  refine lv_iload_n hx hb dX4_when_28 rfl (lv_at hl 2 rfl) ?_
  exact q_reti (fun k : (Nat → Int32) × (Nat → Int32) => (wX4_when cI cJ cZ cS a_t a_party a_party_kinds a_party_costs a_party_terms a_party_known a_kept a_tape a_telephone a_sheets a_findings v_isKept v_party_size v_party_list v_party_told v_party_kinds v_party_terms k.1 k.2)) fx hf h dX4_when_29
set_option maxRecDepth 100000 in
theorem EX4_when_10 {p : Program} {l : Launch} {e : Env} {s : State} {m : MethodId} {args : Array Value} {below : List Frame} {meth : Method} {c : Code} {D : va_G} {cI cJ cZ cS : ClassId} {tb : Nat} {A : Nat → Prop} {a_t a_party a_party_kinds a_party_costs a_party_terms a_party_known a_kept a_tape a_telephone a_sheets a_findings : Nat} {v_isKept : Int32} {v_party_size : Int32} {v_party_list : Int32} {v_party_told : Int32} {v_party_kinds : Nat → Int32} {v_party_terms : Nat → Int64} {rr : Int32} {kk' : (Nat → Int32) × (Nat → Int32)} (fx : q_Fx p s m args meth c cX4_when 3 RX4 (some .int) D cI cJ cZ cS tb A) : ∀ (n : Nat), ∀ {v_party_known : Nat → Int32} {v_findings : Nat → Int32} {y1 : Int32} {y2 : Int32} {H : Heap} {locs : List Loc} {ls : Array Slot}, q_H D A s (wX4_when cI cJ cZ cS a_t a_party a_party_kinds a_party_costs a_party_terms a_party_known a_kept a_tape a_telephone a_sheets a_findings v_isKept v_party_size v_party_list v_party_told v_party_kinds v_party_terms v_party_known v_findings) H locs → lv_has ls 3 [(0, .ref a_t), (1, .int y1), (2, .int y2)] → ll4 (fX4_when_10 v_party_size v_party_list v_party_kinds v_party_terms) n v_party_known v_findings y1 y2 = some (rr, kk') → W p l e rX4_when s m args below meth c H locs 0 0 (MQ below (q_Ri D rr A ((fun k : (Nat → Int32) × (Nat → Int32) => (wX4_when cI cJ cZ cS a_t a_party a_party_kinds a_party_costs a_party_terms a_party_known a_kept a_tape a_telephone a_sheets a_findings v_isKept v_party_size v_party_list v_party_told v_party_kinds v_party_terms k.1 k.2)) kk')) args s 0 0 A) (F0 m 10 ls []) := by
  intro n
  induction n with
  | zero => intro v_party_known v_findings y1 y2 H locs ls h hl hf; exact (ll4_z hf).elim
  | succ n ih => intro v_party_known v_findings y1 y2 H locs ls h hl hf; exact LX4_when_10 fx ih h hl (ll4_s hf)
def fX4_when (v_party_size : Int32) (v_party_list : Int32) (v_party_kinds : Nat → Int32) (v_party_terms : Nat → Int64) (v_party_known : Nat → Int32) (v_findings : Nat → Int32) : Option (Int32 × (Nat → Int32) × (Nat → Int32)) :=
  ll4 (fX4_when_10 v_party_size v_party_list v_party_kinds v_party_terms) qF v_party_known v_findings v_party_list 0
set_option maxRecDepth 100000 in
set_option maxHeartbeats 4000000 in
theorem tX4_when (l : Launch) (D : va_G) (cI cJ cZ cS : ClassId) (tb : Nat) (a_t a_party a_party_kinds a_party_costs a_party_terms a_party_known a_kept a_tape a_telephone a_sheets a_findings : Nat) (sz : Nat) (v_isKept : Int32) (v_party_size : Int32) (v_party_list : Int32) (v_party_told : Int32) (v_party_kinds : Nat → Int32) (v_party_terms : Nat → Int64) (v_party_known : Nat → Int32) (v_findings : Nat → Int32) (rr : Int32) (kk' : (Nat → Int32) × (Nat → Int32)) (hf : fX4_when v_party_size v_party_list v_party_kinds v_party_terms v_party_known v_findings = some (rr, kk')) : Met l yX4_when (Cond.code yX4_when cX4_when 3 (some .int) :: wA) rX4_when (q_Pre D cI cJ cZ cS tb [.ref a_t] sz (wX4_when cI cJ cZ cS a_t a_party a_party_kinds a_party_costs a_party_terms a_party_known a_kept a_tape a_telephone a_sheets a_findings v_isKept v_party_size v_party_list v_party_told v_party_kinds v_party_terms v_party_known v_findings)) (q_Ri D rr (va_A (wX4_when cI cJ cZ cS a_t a_party a_party_kinds a_party_costs a_party_terms a_party_known a_kept a_tape a_telephone a_sheets a_findings v_isKept v_party_size v_party_list v_party_told v_party_kinds v_party_terms v_party_known v_findings) sz) ((fun k : (Nat → Int32) × (Nat → Int32) => (wX4_when cI cJ cZ cS a_t a_party a_party_kinds a_party_costs a_party_terms a_party_known a_kept a_tape a_telephone a_sheets a_findings v_isKept v_party_size v_party_list v_party_told v_party_kinds v_party_terms k.1 k.2)) kk')) 0 0 (va_A (wX4_when cI cJ cZ cS a_t a_party a_party_kinds a_party_costs a_party_terms a_party_known a_kept a_tape a_telephone a_sheets a_findings v_isKept v_party_size v_party_list v_party_told v_party_kinds v_party_terms v_party_known v_findings) sz) := by
  refine q_enter (Qf := fun A => (q_Ri D rr A ((fun k : (Nat → Int32) × (Nat → Int32) => (wX4_when cI cJ cZ cS a_t a_party a_party_kinds a_party_costs a_party_terms a_party_known a_kept a_tape a_telephone a_sheets a_findings v_isKept v_party_size v_party_list v_party_told v_party_kinds v_party_terms k.1 k.2)) kk'))) (by decide) rfl (Nat.le_of_ble_eq_true rfl) ?_
  intro p e s m below meth c A ls fx hname h hl
  have hx := fx.1
  have hb := fx.2.1
  have hl : lv_has ls 3 [(0, .ref a_t)] := hl
  generalize h9 : s.heap = H at h ⊢
  clear h9
  generalize h9 : ([] : List Loc) = locs at h ⊢
  clear h9
  unfold fX4_when at hf
  refine lv_aload_n hx hb dX4_when_0 rfl (lv_at hl 0 rfl) ?_
  refine q_get (v := .ref a_party) fx inX4 h 0 rfl rfl 0 (by decide) k_174 rfl dX4_when_1 ?_
  refine q_getN (v := .int v_party_list) fx inX0 h 1 rfl rfl 1 (by decide) nf_3 rfl dX4_when_4 ?_
  refine lv_istore_n (lv' := [(1, .int v_party_list), (0, .ref a_t)]) hx hb dX4_when_7 rfl hl (by decide) rfl (fun ls hl => ?_)
  refine lv_iconst (v := 0) hx hb dX4_when_8 (by decide) ?_
  refine lv_istore_n (lv' := [(2, .int 0), (1, .int v_party_list), (0, .ref a_t)]) hx hb dX4_when_9 rfl hl (by decide) rfl (fun ls hl => ?_)
  exact EX4_when_10 fx qF h (lv_sub hl [2, 1, 0] rfl) hf
/-! X0_ringLength -/
abbrev wX0_ringLength (cI cJ cZ cS : ClassId) (a_t a_kinds a_costs a_terms a_known : Nat) (v_size : Int32) (v_list : Int32) (v_told : Int32) (v_kinds : Nat → Int32) (v_terms : Nat → Int64) (v_known : Nat → Int32) : va_W := [(a_t, .inr (0, [.int v_size, .int v_list, .int v_told, .ref a_kinds, .ref a_costs, .ref a_terms, .ref a_known])), (a_kinds, .inl (cI, 8, .inl v_kinds)), (a_terms, .inl (cJ, 32, .inr (.inl v_terms))), (a_known, .inl (cI, 256, .inl v_known))]
abbrev rX0_ringLength : Room := { frames := 6, cells := 0, slots := 0, locals := 135 }
def fX0_ringLength_23 (v_size : Int32) (v_list : Int32) (v_kinds : Nat → Int32) (v_terms : Nat → Int64) (ag23 : (Nat → Int32) → Int32 → Int32 → Int32 → Int32 → Option (Int32 × (Nat → Int32))) (v_known : Nat → Int32) (y1 : Int32) (y2 : Int32) (y3 : Int32) (y4 : Int32) : Option (Int32 × (Nat → Int32)) :=
  (if (256 : Int32) ≤ y4 then (
  some (y3, v_known))
  else (
  (if y2 = y1 then (
  some (y3, v_known))
  else (
  bR (fX0_comers v_size v_kinds v_terms v_known y2) (fun r3 k3 =>
  nm (y3 + 1) (fun u4 =>
  nm (y4 + 1) (fun u5 =>
  ag23 k3 y1 r3 u4 u5)))))))
set_option maxRecDepth 100000 in
set_option maxHeartbeats 4000000 in
theorem LX0_ringLength_23 {p : Program} {l : Launch} {e : Env} {s : State} {m : MethodId} {args : Array Value} {below : List Frame} {meth : Method} {c : Code} {D : va_G} {cI cJ cZ cS : ClassId} {tb : Nat} {A : Nat → Prop} {a_t a_kinds a_costs a_terms a_known : Nat} {v_size : Int32} {v_list : Int32} {v_told : Int32} {v_kinds : Nat → Int32} {v_terms : Nat → Int64} {rr : Int32} {kk' : (Nat → Int32)} (fx : q_Fx p s m args meth c cX0_ringLength 5 RX0 (some .int) D cI cJ cZ cS tb A) {ag23 : (Nat → Int32) → Int32 → Int32 → Int32 → Int32 → Option (Int32 × (Nat → Int32))} (hag23 : ∀ {v_known : Nat → Int32} {y1 : Int32} {y2 : Int32} {y3 : Int32} {y4 : Int32} {H : Heap} {locs : List Loc} {ls : Array Slot}, q_H D A s (wX0_ringLength cI cJ cZ cS a_t a_kinds a_costs a_terms a_known v_size v_list v_told v_kinds v_terms v_known) H locs → lv_has ls 5 [(0, .ref a_t), (1, .int y1), (2, .int y2), (3, .int y3), (4, .int y4)] → ag23 v_known y1 y2 y3 y4 = some (rr, kk') → W p l e rX0_ringLength s m args below meth c H locs 0 0 (MQ below (q_Ri D rr A ((fun k : (Nat → Int32) => (wX0_ringLength cI cJ cZ cS a_t a_kinds a_costs a_terms a_known v_size v_list v_told v_kinds v_terms k)) kk')) args s 0 0 A) (F0 m 23 ls [])) : ∀ {v_known : Nat → Int32} {y1 : Int32} {y2 : Int32} {y3 : Int32} {y4 : Int32} {H : Heap} {locs : List Loc} {ls : Array Slot}, q_H D A s (wX0_ringLength cI cJ cZ cS a_t a_kinds a_costs a_terms a_known v_size v_list v_told v_kinds v_terms v_known) H locs → lv_has ls 5 [(0, .ref a_t), (1, .int y1), (2, .int y2), (3, .int y3), (4, .int y4)] → fX0_ringLength_23 v_size v_list v_kinds v_terms ag23 v_known y1 y2 y3 y4 = some (rr, kk') → W p l e rX0_ringLength s m args below meth c H locs 0 0 (MQ below (q_Ri D rr A ((fun k : (Nat → Int32) => (wX0_ringLength cI cJ cZ cS a_t a_kinds a_costs a_terms a_known v_size v_list v_told v_kinds v_terms k)) kk')) args s 0 0 A) (F0 m 23 ls []) := by
  intro v_known y1 y2 y3 y4 H locs ls h hl hf
  have hx := fx.1
  have hb := fx.2.1
  unfold fX0_ringLength_23 at hf
  refine lv_iload hx hb dX0_ringLength_23 (lv_at hl 4 rfl) ?_
  refine lv_sipush (v := 256) hx hb dX0_ringLength_25 (by decide) ?_
  refine lv_icmp_ge (tgt := 51) hx hb dX0_ringLength_28 (by decide) (fun c1 => ?_) (fun c1 => ?_)
  · have hf := it_t c1 hf
    refine lv_iload_n hx hb dX0_ringLength_51 rfl (lv_at hl 3 rfl) ?_
    exact q_reti (fun k : (Nat → Int32) => (wX0_ringLength cI cJ cZ cS a_t a_kinds a_costs a_terms a_known v_size v_list v_told v_kinds v_terms k)) fx hf h dX0_ringLength_52
  have hf := it_f c1 hf
  refine lv_iload_n hx hb dX0_ringLength_31 rfl (lv_at hl 2 rfl) ?_
  refine lv_iload_n hx hb dX0_ringLength_32 rfl (lv_at hl 1 rfl) ?_
  refine lv_icmp_eq (tgt := 51) hx hb dX0_ringLength_33 (by decide) (fun c2 => ?_) (fun c2 => ?_)
  · have hf := it_t c2 hf
    refine lv_iload_n hx hb dX0_ringLength_51 rfl (lv_at hl 3 rfl) ?_
    exact q_reti (fun k : (Nat → Int32) => (wX0_ringLength cI cJ cZ cS a_t a_kinds a_costs a_terms a_known v_size v_list v_told v_kinds v_terms k)) fx hf h dX0_ringLength_52
  have hf := it_f c2 hf
  refine lv_aload_n hx hb dX0_ringLength_36 rfl (lv_at hl 0 rfl) ?_
  refine lv_iload_n hx hb dX0_ringLength_37 rfl (lv_at hl 2 rfl) ?_
  obtain ⟨r3, k3, hg, hf⟩ := bR_inv hf
  refine q_ci (rest := []) (ws' := (wX0_ringLength cI cJ cZ cS a_t a_kinds a_costs a_terms a_known v_size v_list v_told v_kinds v_terms k3)) (w1 := (wX0_comers cI cJ cZ cS a_t a_kinds a_costs a_terms a_known v_size v_list v_told v_kinds v_terms k3)) fx h [0, 1, 2, 3] rfl rfl rfl rfl (q_runV fx h hl.1 [0, 1, 2, 3] rfl rfl (tX0_comers l D cI cJ cZ cS tb a_t a_kinds a_costs a_terms a_known H.size v_size v_list v_told v_kinds v_terms v_known y2 r3 k3 hg) mvX0_comers k_362 ⟨rfl, rfl⟩ ⟨Nat.le_of_ble_eq_true rfl, Nat.le_of_ble_eq_true rfl⟩ rfl rfl rfl rfl (Nat.le_of_ble_eq_true rfl) dX0_ringLength_38 ⟨Nat.le_of_ble_eq_true rfl, Nat.le_of_ble_eq_true rfl⟩) (fun H locs h => ?_)
  refine lv_istore_n (lv' := [(2, .int r3), (0, .ref a_t), (1, .int y1), (3, .int y3), (4, .int y4)]) hx hb dX0_ringLength_41 rfl hl (by decide) rfl (fun ls hl => ?_)
  obtain ⟨u4, eu4, hf⟩ := nm_inv hf
  refine lv_iinc (v := u4) (lv' := [(3, .int u4), (2, .int r3), (0, .ref a_t), (1, .int y1), (4, .int y4)]) hx hb dX0_ringLength_42 hl (k := 3) rfl (by rw [eu4]; rfl) (by decide) rfl (fun ls hl => ?_)
  obtain ⟨u5, eu5, hf⟩ := nm_inv hf
  refine lv_iinc (v := u5) (lv' := [(4, .int u5), (3, .int u4), (2, .int r3), (0, .ref a_t), (1, .int y1)]) hx hb dX0_ringLength_45 hl (k := 4) rfl (by rw [eu5]; rfl) (by decide) rfl (fun ls hl => ?_)
  refine lv_goto (tgt := 23) hx hb dX0_ringLength_48 (by decide) ?_
  exact hag23 h (lv_sub hl [3, 4, 2, 1, 0] rfl) hf
set_option maxRecDepth 100000 in
theorem EX0_ringLength_23 {p : Program} {l : Launch} {e : Env} {s : State} {m : MethodId} {args : Array Value} {below : List Frame} {meth : Method} {c : Code} {D : va_G} {cI cJ cZ cS : ClassId} {tb : Nat} {A : Nat → Prop} {a_t a_kinds a_costs a_terms a_known : Nat} {v_size : Int32} {v_list : Int32} {v_told : Int32} {v_kinds : Nat → Int32} {v_terms : Nat → Int64} {rr : Int32} {kk' : (Nat → Int32)} (fx : q_Fx p s m args meth c cX0_ringLength 5 RX0 (some .int) D cI cJ cZ cS tb A) : ∀ (n : Nat), ∀ {v_known : Nat → Int32} {y1 : Int32} {y2 : Int32} {y3 : Int32} {y4 : Int32} {H : Heap} {locs : List Loc} {ls : Array Slot}, q_H D A s (wX0_ringLength cI cJ cZ cS a_t a_kinds a_costs a_terms a_known v_size v_list v_told v_kinds v_terms v_known) H locs → lv_has ls 5 [(0, .ref a_t), (1, .int y1), (2, .int y2), (3, .int y3), (4, .int y4)] → ll5 (fX0_ringLength_23 v_size v_list v_kinds v_terms) n v_known y1 y2 y3 y4 = some (rr, kk') → W p l e rX0_ringLength s m args below meth c H locs 0 0 (MQ below (q_Ri D rr A ((fun k : (Nat → Int32) => (wX0_ringLength cI cJ cZ cS a_t a_kinds a_costs a_terms a_known v_size v_list v_told v_kinds v_terms k)) kk')) args s 0 0 A) (F0 m 23 ls []) := by
  intro n
  induction n with
  | zero => intro v_known y1 y2 y3 y4 H locs ls h hl hf; exact (ll5_z hf).elim
  | succ n ih => intro v_known y1 y2 y3 y4 H locs ls h hl hf; exact LX0_ringLength_23 fx ih h hl (ll5_s hf)
def fX0_ringLength (v_size : Int32) (v_list : Int32) (v_kinds : Nat → Int32) (v_terms : Nat → Int64) (v_known : Nat → Int32) : Option (Int32 × (Nat → Int32)) :=
  bR (fX0_behind v_size v_kinds v_terms v_known v_list 256) (fun r6 k6 =>
  bR (fX0_comers v_size v_kinds v_terms k6 r6) (fun r7 k7 =>
  ll5 (fX0_ringLength_23 v_size v_list v_kinds v_terms) qF k7 r6 r7 1 0))
set_option maxRecDepth 100000 in
set_option maxHeartbeats 4000000 in
theorem tX0_ringLength (l : Launch) (D : va_G) (cI cJ cZ cS : ClassId) (tb : Nat) (a_t a_kinds a_costs a_terms a_known : Nat) (sz : Nat) (v_size : Int32) (v_list : Int32) (v_told : Int32) (v_kinds : Nat → Int32) (v_terms : Nat → Int64) (v_known : Nat → Int32) (rr : Int32) (kk' : (Nat → Int32)) (hf : fX0_ringLength v_size v_list v_kinds v_terms v_known = some (rr, kk')) : Met l yX0_ringLength (Cond.code yX0_ringLength cX0_ringLength 5 (some .int) :: wA) rX0_ringLength (q_Pre D cI cJ cZ cS tb [.ref a_t] sz (wX0_ringLength cI cJ cZ cS a_t a_kinds a_costs a_terms a_known v_size v_list v_told v_kinds v_terms v_known)) (q_Ri D rr (va_A (wX0_ringLength cI cJ cZ cS a_t a_kinds a_costs a_terms a_known v_size v_list v_told v_kinds v_terms v_known) sz) ((fun k : (Nat → Int32) => (wX0_ringLength cI cJ cZ cS a_t a_kinds a_costs a_terms a_known v_size v_list v_told v_kinds v_terms k)) kk')) 0 0 (va_A (wX0_ringLength cI cJ cZ cS a_t a_kinds a_costs a_terms a_known v_size v_list v_told v_kinds v_terms v_known) sz) := by
  refine q_enter (Qf := fun A => (q_Ri D rr A ((fun k : (Nat → Int32) => (wX0_ringLength cI cJ cZ cS a_t a_kinds a_costs a_terms a_known v_size v_list v_told v_kinds v_terms k)) kk'))) (by decide) rfl (Nat.le_of_ble_eq_true rfl) ?_
  intro p e s m below meth c A ls fx hname h hl
  have hx := fx.1
  have hb := fx.2.1
  have hl : lv_has ls 5 [(0, .ref a_t)] := hl
  generalize h9 : s.heap = H at h ⊢
  clear h9
  generalize h9 : ([] : List Loc) = locs at h ⊢
  clear h9
  unfold fX0_ringLength at hf
  refine lv_aload_n hx hb dX0_ringLength_0 rfl (lv_at hl 0 rfl) ?_
  refine lv_aload_n hx hb dX0_ringLength_1 rfl (lv_at hl 0 rfl) ?_
  refine q_get (v := .int v_list) fx inX0 h 0 rfl rfl 1 (by decide) k_85 rfl dX0_ringLength_2 ?_
  refine lv_sipush (v := 256) hx hb dX0_ringLength_5 (by decide) ?_
  obtain ⟨r6, k6, hg, hf⟩ := bR_inv hf
  refine q_ci (rest := []) (ws' := (wX0_ringLength cI cJ cZ cS a_t a_kinds a_costs a_terms a_known v_size v_list v_told v_kinds v_terms k6)) (w1 := (wX0_behind cI cJ cZ cS a_t a_kinds a_costs a_terms a_known v_size v_list v_told v_kinds v_terms k6)) fx h [0, 1, 2, 3] rfl rfl rfl rfl (q_runV fx h hl.1 [0, 1, 2, 3] rfl rfl (tX0_behind l D cI cJ cZ cS tb a_t a_kinds a_costs a_terms a_known H.size v_size v_list v_told v_kinds v_terms v_known v_list 256 r6 k6 hg) mvX0_behind k_411 ⟨rfl, rfl⟩ ⟨Nat.le_of_ble_eq_true rfl, Nat.le_of_ble_eq_true rfl⟩ rfl rfl rfl rfl (Nat.le_of_ble_eq_true rfl) dX0_ringLength_8 ⟨Nat.le_of_ble_eq_true rfl, Nat.le_of_ble_eq_true rfl⟩) (fun H locs h => ?_)
  refine lv_istore_n (lv' := [(1, .int r6), (0, .ref a_t)]) hx hb dX0_ringLength_11 rfl hl (by decide) rfl (fun ls hl => ?_)
  refine lv_aload_n hx hb dX0_ringLength_12 rfl (lv_at hl 1 rfl) ?_
  refine lv_iload_n hx hb dX0_ringLength_13 rfl (lv_at hl 0 rfl) ?_
  obtain ⟨r7, k7, hg, hf⟩ := bR_inv hf
  refine q_ci (rest := []) (ws' := (wX0_ringLength cI cJ cZ cS a_t a_kinds a_costs a_terms a_known v_size v_list v_told v_kinds v_terms k7)) (w1 := (wX0_comers cI cJ cZ cS a_t a_kinds a_costs a_terms a_known v_size v_list v_told v_kinds v_terms k7)) fx h [0, 1, 2, 3] rfl rfl rfl rfl (q_runV fx h hl.1 [0, 1, 2, 3] rfl rfl (tX0_comers l D cI cJ cZ cS tb a_t a_kinds a_costs a_terms a_known H.size v_size v_list v_told v_kinds v_terms k6 r6 r7 k7 hg) mvX0_comers k_362 ⟨rfl, rfl⟩ ⟨Nat.le_of_ble_eq_true rfl, Nat.le_of_ble_eq_true rfl⟩ rfl rfl rfl rfl (Nat.le_of_ble_eq_true rfl) dX0_ringLength_14 ⟨Nat.le_of_ble_eq_true rfl, Nat.le_of_ble_eq_true rfl⟩) (fun H locs h => ?_)
  refine lv_istore_n (lv' := [(2, .int r7), (1, .int r6), (0, .ref a_t)]) hx hb dX0_ringLength_17 rfl hl (by decide) rfl (fun ls hl => ?_)
  refine lv_iconst (v := 1) hx hb dX0_ringLength_18 (by decide) ?_
  refine lv_istore_n (lv' := [(3, .int 1), (2, .int r7), (1, .int r6), (0, .ref a_t)]) hx hb dX0_ringLength_19 rfl hl (by decide) rfl (fun ls hl => ?_)
  refine lv_iconst (v := 0) hx hb dX0_ringLength_20 (by decide) ?_
  refine lv_istore (lv' := [(4, .int 0), (3, .int 1), (2, .int r7), (1, .int r6), (0, .ref a_t)]) hx hb dX0_ringLength_21 hl (by decide) rfl (fun ls hl => ?_)
  exact EX0_ringLength_23 fx qF h (lv_sub hl [4, 3, 2, 1, 0] rfl) hf
/-! X0_roundsToRing -/
abbrev wX0_roundsToRing (cI cJ cZ cS : ClassId) (a_t a_kinds a_costs a_terms a_known : Nat) (v_size : Int32) (v_list : Int32) (v_told : Int32) (v_kinds : Nat → Int32) (v_terms : Nat → Int64) (v_known : Nat → Int32) : va_W := [(a_t, .inr (0, [.int v_size, .int v_list, .int v_told, .ref a_kinds, .ref a_costs, .ref a_terms, .ref a_known])), (a_kinds, .inl (cI, 8, .inl v_kinds)), (a_terms, .inl (cJ, 32, .inr (.inl v_terms))), (a_known, .inl (cI, 256, .inl v_known))]
abbrev rX0_roundsToRing : Room := { frames := 6, cells := 0, slots := 0, locals := 135 }
def fX0_roundsToRing_21 (v_size : Int32) (v_list : Int32) (v_kinds : Nat → Int32) (v_terms : Nat → Int64) (ag21 : (Nat → Int32) → Int32 → Int32 → Int32 → Int32 → Option (Int32 × (Nat → Int32))) (v_known : Nat → Int32) (y2 : Int32) (y3 : Int32) (y4 : Int32) (y5 : Int32) : Option (Int32 × (Nat → Int32)) :=
  (if (256 : Int32) ≤ y5 then (
  some (y4, v_known))
  else (
  (if y2 = y3 then (
  some (y4, v_known))
  else (
  bR (fX0_comers v_size v_kinds v_terms v_known y2) (fun r3 k3 =>
  bR (fX0_comers v_size v_kinds v_terms k3 y3) (fun r4 k4 =>
  nm (y4 + 1) (fun u5 =>
  nm (y5 + 1) (fun u6 =>
  ag21 k4 r3 r4 u5 u6))))))))
set_option maxRecDepth 100000 in
set_option maxHeartbeats 4000000 in
theorem LX0_roundsToRing_21 {p : Program} {l : Launch} {e : Env} {s : State} {m : MethodId} {args : Array Value} {below : List Frame} {meth : Method} {c : Code} {D : va_G} {cI cJ cZ cS : ClassId} {tb : Nat} {A : Nat → Prop} {a_t a_kinds a_costs a_terms a_known : Nat} {v_size : Int32} {v_list : Int32} {v_told : Int32} {v_kinds : Nat → Int32} {v_terms : Nat → Int64} {rr : Int32} {kk' : (Nat → Int32)} (fx : q_Fx p s m args meth c cX0_roundsToRing 6 RX0 (some .int) D cI cJ cZ cS tb A) {ag21 : (Nat → Int32) → Int32 → Int32 → Int32 → Int32 → Option (Int32 × (Nat → Int32))} (hag21 : ∀ {v_known : Nat → Int32} {y2 : Int32} {y3 : Int32} {y4 : Int32} {y5 : Int32} {H : Heap} {locs : List Loc} {ls : Array Slot}, q_H D A s (wX0_roundsToRing cI cJ cZ cS a_t a_kinds a_costs a_terms a_known v_size v_list v_told v_kinds v_terms v_known) H locs → lv_has ls 6 [(0, .ref a_t), (2, .int y2), (3, .int y3), (4, .int y4), (5, .int y5)] → ag21 v_known y2 y3 y4 y5 = some (rr, kk') → W p l e rX0_roundsToRing s m args below meth c H locs 0 0 (MQ below (q_Ri D rr A ((fun k : (Nat → Int32) => (wX0_roundsToRing cI cJ cZ cS a_t a_kinds a_costs a_terms a_known v_size v_list v_told v_kinds v_terms k)) kk')) args s 0 0 A) (F0 m 21 ls [])) : ∀ {v_known : Nat → Int32} {y2 : Int32} {y3 : Int32} {y4 : Int32} {y5 : Int32} {H : Heap} {locs : List Loc} {ls : Array Slot}, q_H D A s (wX0_roundsToRing cI cJ cZ cS a_t a_kinds a_costs a_terms a_known v_size v_list v_told v_kinds v_terms v_known) H locs → lv_has ls 6 [(0, .ref a_t), (2, .int y2), (3, .int y3), (4, .int y4), (5, .int y5)] → fX0_roundsToRing_21 v_size v_list v_kinds v_terms ag21 v_known y2 y3 y4 y5 = some (rr, kk') → W p l e rX0_roundsToRing s m args below meth c H locs 0 0 (MQ below (q_Ri D rr A ((fun k : (Nat → Int32) => (wX0_roundsToRing cI cJ cZ cS a_t a_kinds a_costs a_terms a_known v_size v_list v_told v_kinds v_terms k)) kk')) args s 0 0 A) (F0 m 21 ls []) := by
  intro v_known y2 y3 y4 y5 H locs ls h hl hf
  have hx := fx.1
  have hb := fx.2.1
  unfold fX0_roundsToRing_21 at hf
  refine lv_iload hx hb dX0_roundsToRing_21 (lv_at hl 4 rfl) ?_
  refine lv_sipush (v := 256) hx hb dX0_roundsToRing_23 (by decide) ?_
  refine lv_icmp_ge (tgt := 55) hx hb dX0_roundsToRing_26 (by decide) (fun c1 => ?_) (fun c1 => ?_)
  · have hf := it_t c1 hf
    refine lv_iload hx hb dX0_roundsToRing_55 (lv_at hl 3 rfl) ?_
    exact q_reti (fun k : (Nat → Int32) => (wX0_roundsToRing cI cJ cZ cS a_t a_kinds a_costs a_terms a_known v_size v_list v_told v_kinds v_terms k)) fx hf h dX0_roundsToRing_57
  have hf := it_f c1 hf
  refine lv_iload_n hx hb dX0_roundsToRing_29 rfl (lv_at hl 1 rfl) ?_
  refine lv_iload_n hx hb dX0_roundsToRing_30 rfl (lv_at hl 2 rfl) ?_
  refine lv_icmp_eq (tgt := 55) hx hb dX0_roundsToRing_31 (by decide) (fun c2 => ?_) (fun c2 => ?_)
  · have hf := it_t c2 hf
    refine lv_iload hx hb dX0_roundsToRing_55 (lv_at hl 3 rfl) ?_
    exact q_reti (fun k : (Nat → Int32) => (wX0_roundsToRing cI cJ cZ cS a_t a_kinds a_costs a_terms a_known v_size v_list v_told v_kinds v_terms k)) fx hf h dX0_roundsToRing_57
  have hf := it_f c2 hf
  refine lv_aload_n hx hb dX0_roundsToRing_34 rfl (lv_at hl 0 rfl) ?_
  refine lv_iload_n hx hb dX0_roundsToRing_35 rfl (lv_at hl 1 rfl) ?_
  obtain ⟨r3, k3, hg, hf⟩ := bR_inv hf
  refine q_ci (rest := []) (ws' := (wX0_roundsToRing cI cJ cZ cS a_t a_kinds a_costs a_terms a_known v_size v_list v_told v_kinds v_terms k3)) (w1 := (wX0_comers cI cJ cZ cS a_t a_kinds a_costs a_terms a_known v_size v_list v_told v_kinds v_terms k3)) fx h [0, 1, 2, 3] rfl rfl rfl rfl (q_runV fx h hl.1 [0, 1, 2, 3] rfl rfl (tX0_comers l D cI cJ cZ cS tb a_t a_kinds a_costs a_terms a_known H.size v_size v_list v_told v_kinds v_terms v_known y2 r3 k3 hg) mvX0_comers k_362 ⟨rfl, rfl⟩ ⟨Nat.le_of_ble_eq_true rfl, Nat.le_of_ble_eq_true rfl⟩ rfl rfl rfl rfl (Nat.le_of_ble_eq_true rfl) dX0_roundsToRing_36 ⟨Nat.le_of_ble_eq_true rfl, Nat.le_of_ble_eq_true rfl⟩) (fun H locs h => ?_)
  refine lv_istore_n (lv' := [(2, .int r3), (0, .ref a_t), (3, .int y3), (4, .int y4), (5, .int y5)]) hx hb dX0_roundsToRing_39 rfl hl (by decide) rfl (fun ls hl => ?_)
  refine lv_aload_n hx hb dX0_roundsToRing_40 rfl (lv_at hl 1 rfl) ?_
  refine lv_iload_n hx hb dX0_roundsToRing_41 rfl (lv_at hl 2 rfl) ?_
  obtain ⟨r4, k4, hg, hf⟩ := bR_inv hf
  refine q_ci (rest := []) (ws' := (wX0_roundsToRing cI cJ cZ cS a_t a_kinds a_costs a_terms a_known v_size v_list v_told v_kinds v_terms k4)) (w1 := (wX0_comers cI cJ cZ cS a_t a_kinds a_costs a_terms a_known v_size v_list v_told v_kinds v_terms k4)) fx h [0, 1, 2, 3] rfl rfl rfl rfl (q_runV fx h hl.1 [0, 1, 2, 3] rfl rfl (tX0_comers l D cI cJ cZ cS tb a_t a_kinds a_costs a_terms a_known H.size v_size v_list v_told v_kinds v_terms k3 y3 r4 k4 hg) mvX0_comers k_362 ⟨rfl, rfl⟩ ⟨Nat.le_of_ble_eq_true rfl, Nat.le_of_ble_eq_true rfl⟩ rfl rfl rfl rfl (Nat.le_of_ble_eq_true rfl) dX0_roundsToRing_42 ⟨Nat.le_of_ble_eq_true rfl, Nat.le_of_ble_eq_true rfl⟩) (fun H locs h => ?_)
  refine lv_istore_n (lv' := [(3, .int r4), (2, .int r3), (0, .ref a_t), (4, .int y4), (5, .int y5)]) hx hb dX0_roundsToRing_45 rfl hl (by decide) rfl (fun ls hl => ?_)
  obtain ⟨u5, eu5, hf⟩ := nm_inv hf
  refine lv_iinc (v := u5) (lv' := [(4, .int u5), (3, .int r4), (2, .int r3), (0, .ref a_t), (5, .int y5)]) hx hb dX0_roundsToRing_46 hl (k := 3) rfl (by rw [eu5]; rfl) (by decide) rfl (fun ls hl => ?_)
  obtain ⟨u6, eu6, hf⟩ := nm_inv hf
  refine lv_iinc (v := u6) (lv' := [(5, .int u6), (4, .int u5), (3, .int r4), (2, .int r3), (0, .ref a_t)]) hx hb dX0_roundsToRing_49 hl (k := 4) rfl (by rw [eu6]; rfl) (by decide) rfl (fun ls hl => ?_)
  refine lv_goto (tgt := 21) hx hb dX0_roundsToRing_52 (by decide) ?_
  exact hag21 h (lv_sub hl [4, 3, 2, 1, 0] rfl) hf
set_option maxRecDepth 100000 in
theorem EX0_roundsToRing_21 {p : Program} {l : Launch} {e : Env} {s : State} {m : MethodId} {args : Array Value} {below : List Frame} {meth : Method} {c : Code} {D : va_G} {cI cJ cZ cS : ClassId} {tb : Nat} {A : Nat → Prop} {a_t a_kinds a_costs a_terms a_known : Nat} {v_size : Int32} {v_list : Int32} {v_told : Int32} {v_kinds : Nat → Int32} {v_terms : Nat → Int64} {rr : Int32} {kk' : (Nat → Int32)} (fx : q_Fx p s m args meth c cX0_roundsToRing 6 RX0 (some .int) D cI cJ cZ cS tb A) : ∀ (n : Nat), ∀ {v_known : Nat → Int32} {y2 : Int32} {y3 : Int32} {y4 : Int32} {y5 : Int32} {H : Heap} {locs : List Loc} {ls : Array Slot}, q_H D A s (wX0_roundsToRing cI cJ cZ cS a_t a_kinds a_costs a_terms a_known v_size v_list v_told v_kinds v_terms v_known) H locs → lv_has ls 6 [(0, .ref a_t), (2, .int y2), (3, .int y3), (4, .int y4), (5, .int y5)] → ll5 (fX0_roundsToRing_21 v_size v_list v_kinds v_terms) n v_known y2 y3 y4 y5 = some (rr, kk') → W p l e rX0_roundsToRing s m args below meth c H locs 0 0 (MQ below (q_Ri D rr A ((fun k : (Nat → Int32) => (wX0_roundsToRing cI cJ cZ cS a_t a_kinds a_costs a_terms a_known v_size v_list v_told v_kinds v_terms k)) kk')) args s 0 0 A) (F0 m 21 ls []) := by
  intro n
  induction n with
  | zero => intro v_known y2 y3 y4 y5 H locs ls h hl hf; exact (ll5_z hf).elim
  | succ n ih => intro v_known y2 y3 y4 y5 H locs ls h hl hf; exact LX0_roundsToRing_21 fx ih h hl (ll5_s hf)
def fX0_roundsToRing (v_size : Int32) (v_list : Int32) (v_kinds : Nat → Int32) (v_terms : Nat → Int64) (v_known : Nat → Int32) (x1 : Int32) : Option (Int32 × (Nat → Int32)) :=
  bR (fX0_behind v_size v_kinds v_terms v_known v_list x1) (fun r7 k7 =>
  ll5 (fX0_roundsToRing_21 v_size v_list v_kinds v_terms) qF k7 v_list r7 0 0)
set_option maxRecDepth 100000 in
set_option maxHeartbeats 4000000 in
theorem tX0_roundsToRing (l : Launch) (D : va_G) (cI cJ cZ cS : ClassId) (tb : Nat) (a_t a_kinds a_costs a_terms a_known : Nat) (sz : Nat) (v_size : Int32) (v_list : Int32) (v_told : Int32) (v_kinds : Nat → Int32) (v_terms : Nat → Int64) (v_known : Nat → Int32) (x1 : Int32) (rr : Int32) (kk' : (Nat → Int32)) (hf : fX0_roundsToRing v_size v_list v_kinds v_terms v_known x1 = some (rr, kk')) : Met l yX0_roundsToRing (Cond.code yX0_roundsToRing cX0_roundsToRing 6 (some .int) :: wA) rX0_roundsToRing (q_Pre D cI cJ cZ cS tb [.ref a_t, .int x1] sz (wX0_roundsToRing cI cJ cZ cS a_t a_kinds a_costs a_terms a_known v_size v_list v_told v_kinds v_terms v_known)) (q_Ri D rr (va_A (wX0_roundsToRing cI cJ cZ cS a_t a_kinds a_costs a_terms a_known v_size v_list v_told v_kinds v_terms v_known) sz) ((fun k : (Nat → Int32) => (wX0_roundsToRing cI cJ cZ cS a_t a_kinds a_costs a_terms a_known v_size v_list v_told v_kinds v_terms k)) kk')) 0 0 (va_A (wX0_roundsToRing cI cJ cZ cS a_t a_kinds a_costs a_terms a_known v_size v_list v_told v_kinds v_terms v_known) sz) := by
  refine q_enter (Qf := fun A => (q_Ri D rr A ((fun k : (Nat → Int32) => (wX0_roundsToRing cI cJ cZ cS a_t a_kinds a_costs a_terms a_known v_size v_list v_told v_kinds v_terms k)) kk'))) (by decide) rfl (Nat.le_of_ble_eq_true rfl) ?_
  intro p e s m below meth c A ls fx hname h hl
  have hx := fx.1
  have hb := fx.2.1
  have hl : lv_has ls 6 [(0, .ref a_t), (1, .int x1)] := hl
  generalize h9 : s.heap = H at h ⊢
  clear h9
  generalize h9 : ([] : List Loc) = locs at h ⊢
  clear h9
  unfold fX0_roundsToRing at hf
  refine lv_aload_n hx hb dX0_roundsToRing_0 rfl (lv_at hl 0 rfl) ?_
  refine q_get (v := .int v_list) fx inX0 h 0 rfl rfl 1 (by decide) k_85 rfl dX0_roundsToRing_1 ?_
  refine lv_istore_n (lv' := [(2, .int v_list), (0, .ref a_t), (1, .int x1)]) hx hb dX0_roundsToRing_4 rfl hl (by decide) rfl (fun ls hl => ?_)
  refine lv_aload_n hx hb dX0_roundsToRing_5 rfl (lv_at hl 1 rfl) ?_
  refine lv_aload_n hx hb dX0_roundsToRing_6 rfl (lv_at hl 1 rfl) ?_
  refine q_get (v := .int v_list) fx inX0 h 0 rfl rfl 1 (by decide) k_85 rfl dX0_roundsToRing_7 ?_
  refine lv_iload_n hx hb dX0_roundsToRing_10 rfl (lv_at hl 2 rfl) ?_
  obtain ⟨r7, k7, hg, hf⟩ := bR_inv hf
  refine q_ci (rest := []) (ws' := (wX0_roundsToRing cI cJ cZ cS a_t a_kinds a_costs a_terms a_known v_size v_list v_told v_kinds v_terms k7)) (w1 := (wX0_behind cI cJ cZ cS a_t a_kinds a_costs a_terms a_known v_size v_list v_told v_kinds v_terms k7)) fx h [0, 1, 2, 3] rfl rfl rfl rfl (q_runV fx h hl.1 [0, 1, 2, 3] rfl rfl (tX0_behind l D cI cJ cZ cS tb a_t a_kinds a_costs a_terms a_known H.size v_size v_list v_told v_kinds v_terms v_known v_list x1 r7 k7 hg) mvX0_behind k_411 ⟨rfl, rfl⟩ ⟨Nat.le_of_ble_eq_true rfl, Nat.le_of_ble_eq_true rfl⟩ rfl rfl rfl rfl (Nat.le_of_ble_eq_true rfl) dX0_roundsToRing_11 ⟨Nat.le_of_ble_eq_true rfl, Nat.le_of_ble_eq_true rfl⟩) (fun H locs h => ?_)
  refine lv_istore_n (lv' := [(3, .int r7), (2, .int v_list), (0, .ref a_t), (1, .int x1)]) hx hb dX0_roundsToRing_14 rfl hl (by decide) rfl (fun ls hl => ?_)
  refine lv_iconst (v := 0) hx hb dX0_roundsToRing_15 (by decide) ?_
  refine lv_istore (lv' := [(4, .int 0), (3, .int r7), (2, .int v_list), (0, .ref a_t), (1, .int x1)]) hx hb dX0_roundsToRing_16 hl (by decide) rfl (fun ls hl => ?_)
  refine lv_iconst (v := 0) hx hb dX0_roundsToRing_18 (by decide) ?_
  refine lv_istore (lv' := [(5, .int 0), (4, .int 0), (3, .int r7), (2, .int v_list), (0, .ref a_t), (1, .int x1)]) hx hb dX0_roundsToRing_19 hl (by decide) rfl (fun ls hl => ?_)
  exact EX0_roundsToRing_21 fx qF h (lv_sub hl [4, 3, 2, 1, 0] rfl) hf
/-! X4_ring -/
abbrev wX4_ring (cI cJ cZ cS : ClassId) (a_t a_party a_party_kinds a_party_costs a_party_terms a_party_known a_kept a_tape a_telephone a_sheets a_findings : Nat) (v_isKept : Int32) (v_party_size : Int32) (v_party_list : Int32) (v_party_told : Int32) (v_party_kinds : Nat → Int32) (v_party_terms : Nat → Int64) (v_party_known : Nat → Int32) (v_findings : Nat → Int32) : va_W := [(a_t, .inr (4, [.ref a_party, .ref a_kept, .int v_isKept, .ref a_tape, .ref a_telephone, .ref a_sheets, .ref a_findings])), (a_party, .inr (0, [.int v_party_size, .int v_party_list, .int v_party_told, .ref a_party_kinds, .ref a_party_costs, .ref a_party_terms, .ref a_party_known])), (a_party_kinds, .inl (cI, 8, .inl v_party_kinds)), (a_party_terms, .inl (cJ, 32, .inr (.inl v_party_terms))), (a_party_known, .inl (cI, 256, .inl v_party_known)), (a_findings, .inl (cI, 7, .inl v_findings))]
abbrev rX4_ring : Room := { frames := 7, cells := 0, slots := 0, locals := 160 }
def fX4_ring_16 (v_party_size : Int32) (v_party_list : Int32) (v_party_kinds : Nat → Int32) (v_party_terms : Nat → Int64) (v_party_known : Nat → Int32) (v_findings : Nat → Int32) (y1 : Int32) : Option (Int32 × (Nat → Int32) × (Nat → Int32)) :=
  bR (fX0_ringLength v_party_size v_party_list v_party_kinds v_party_terms v_party_known) (fun r1 k1 =>
  (if y1 = 1 then (
  some (r1, (k1, v_findings)))
  else (
  bR (fX0_roundsToRing v_party_size v_party_list v_party_kinds v_party_terms k1 r1) (fun r3 k3 =>
  some (r3, (k3, v_findings))))))
set_option maxRecDepth 100000 in
set_option maxHeartbeats 4000000 in
theorem LX4_ring_16 {p : Program} {l : Launch} {e : Env} {s : State} {m : MethodId} {args : Array Value} {below : List Frame} {meth : Method} {c : Code} {D : va_G} {cI cJ cZ cS : ClassId} {tb : Nat} {A : Nat → Prop} {a_t a_party a_party_kinds a_party_costs a_party_terms a_party_known a_kept a_tape a_telephone a_sheets a_findings : Nat} {v_isKept : Int32} {v_party_size : Int32} {v_party_list : Int32} {v_party_told : Int32} {v_party_kinds : Nat → Int32} {v_party_terms : Nat → Int64} {rr : Int32} {kk' : (Nat → Int32) × (Nat → Int32)} (fx : q_Fx p s m args meth c cX4_ring 3 RX4 (some .int) D cI cJ cZ cS tb A) : ∀ {v_party_known : Nat → Int32} {v_findings : Nat → Int32} {y1 : Int32} {H : Heap} {locs : List Loc} {ls : Array Slot}, q_H D A s (wX4_ring cI cJ cZ cS a_t a_party a_party_kinds a_party_costs a_party_terms a_party_known a_kept a_tape a_telephone a_sheets a_findings v_isKept v_party_size v_party_list v_party_told v_party_kinds v_party_terms v_party_known v_findings) H locs → lv_has ls 3 [(0, .ref a_t), (1, .int y1)] → fX4_ring_16 v_party_size v_party_list v_party_kinds v_party_terms v_party_known v_findings y1 = some (rr, kk') → W p l e rX4_ring s m args below meth c H locs 0 0 (MQ below (q_Ri D rr A ((fun k : (Nat → Int32) × (Nat → Int32) => (wX4_ring cI cJ cZ cS a_t a_party a_party_kinds a_party_costs a_party_terms a_party_known a_kept a_tape a_telephone a_sheets a_findings v_isKept v_party_size v_party_list v_party_told v_party_kinds v_party_terms k.1 k.2)) kk')) args s 0 0 A) (F0 m 16 ls []) := by
  intro v_party_known v_findings y1 H locs ls h hl hf
  have hx := fx.1
  have hb := fx.2.1
  unfold fX4_ring_16 at hf
  refine lv_aload_n hx hb dX4_ring_16 rfl (lv_at hl 0 rfl) ?_
  refine q_get (v := .ref a_party) fx inX4 h 0 rfl rfl 0 (by decide) k_174 rfl dX4_ring_17 ?_
  obtain ⟨r1, k1, hg, hf⟩ := bR_inv hf
  refine q_ci (rest := []) (ws' := (wX4_ring cI cJ cZ cS a_t a_party a_party_kinds a_party_costs a_party_terms a_party_known a_kept a_tape a_telephone a_sheets a_findings v_isKept v_party_size v_party_list v_party_told v_party_kinds v_party_terms k1 v_findings)) (w1 := (wX0_ringLength cI cJ cZ cS a_party a_party_kinds a_party_costs a_party_terms a_party_known v_party_size v_party_list v_party_told v_party_kinds v_party_terms k1)) fx h [1, 2, 3, 4] rfl rfl rfl rfl (q_runV fx h hl.1 [1, 2, 3, 4] rfl rfl (tX0_ringLength l D cI cJ cZ cS tb a_party a_party_kinds a_party_costs a_party_terms a_party_known H.size v_party_size v_party_list v_party_told v_party_kinds v_party_terms v_party_known r1 k1 hg) mvX0_ringLength k_407 ⟨rfl, rfl⟩ ⟨Nat.le_of_ble_eq_true rfl, Nat.le_of_ble_eq_true rfl⟩ rfl rfl rfl rfl (Nat.le_of_ble_eq_true rfl) dX4_ring_20 ⟨Nat.le_of_ble_eq_true rfl, Nat.le_of_ble_eq_true rfl⟩) (fun H locs h => ?_)
  refine lv_istore_n (lv' := [(2, .int r1), (0, .ref a_t), (1, .int y1)]) hx hb dX4_ring_23 rfl hl (by decide) rfl (fun ls hl => ?_)
  refine lv_iload_n hx hb dX4_ring_24 rfl (lv_at hl 2 rfl) ?_
  refine lv_iconst (v := 1) hx hb dX4_ring_25 (by decide) ?_
  refine lv_icmp_ne (tgt := 33) hx hb dX4_ring_26 (by decide) (fun c2 => ?_) (fun c2 => ?_)
  · have hf := it_f c2 hf
    refine lv_aload_n hx hb dX4_ring_33 rfl (lv_at hl 1 rfl) ?_
    refine q_get (v := .ref a_party) fx inX4 h 0 rfl rfl 0 (by decide) k_174 rfl dX4_ring_34 ?_
    refine lv_iload_n hx hb dX4_ring_37 rfl (lv_at hl 0 rfl) ?_
    obtain ⟨r3, k3, hg, hf⟩ := bR_inv hf
    refine q_ci (rest := []) (ws' := (wX4_ring cI cJ cZ cS a_t a_party a_party_kinds a_party_costs a_party_terms a_party_known a_kept a_tape a_telephone a_sheets a_findings v_isKept v_party_size v_party_list v_party_told v_party_kinds v_party_terms k3 v_findings)) (w1 := (wX0_roundsToRing cI cJ cZ cS a_party a_party_kinds a_party_costs a_party_terms a_party_known v_party_size v_party_list v_party_told v_party_kinds v_party_terms k3)) fx h [1, 2, 3, 4] rfl rfl rfl rfl (q_runV fx h hl.1 [1, 2, 3, 4] rfl rfl (tX0_roundsToRing l D cI cJ cZ cS tb a_party a_party_kinds a_party_costs a_party_terms a_party_known H.size v_party_size v_party_list v_party_told v_party_kinds v_party_terms k1 r1 r3 k3 hg) mvX0_roundsToRing k_412 ⟨rfl, rfl⟩ ⟨Nat.le_of_ble_eq_true rfl, Nat.le_of_ble_eq_true rfl⟩ rfl rfl rfl rfl (Nat.le_of_ble_eq_true rfl) dX4_ring_38 ⟨Nat.le_of_ble_eq_true rfl, Nat.le_of_ble_eq_true rfl⟩) (fun H locs h => ?_)
    exact q_reti (fun k : (Nat → Int32) × (Nat → Int32) => (wX4_ring cI cJ cZ cS a_t a_party a_party_kinds a_party_costs a_party_terms a_party_known a_kept a_tape a_telephone a_sheets a_findings v_isKept v_party_size v_party_list v_party_told v_party_kinds v_party_terms k.1 k.2)) fx hf h dX4_ring_41
  have hf := it_t c2 hf
  refine lv_iload_n hx hb dX4_ring_29 rfl (lv_at hl 0 rfl) ?_
  refine lv_goto (tgt := 41) hx hb dX4_ring_30 (by decide) ?_
  exact q_reti (fun k : (Nat → Int32) × (Nat → Int32) => (wX4_ring cI cJ cZ cS a_t a_party a_party_kinds a_party_costs a_party_terms a_party_known a_kept a_tape a_telephone a_sheets a_findings v_isKept v_party_size v_party_list v_party_told v_party_kinds v_party_terms k.1 k.2)) fx hf h dX4_ring_41
def fX4_ring (v_party_size : Int32) (v_party_list : Int32) (v_party_kinds : Nat → Int32) (v_party_terms : Nat → Int64) (v_party_known : Nat → Int32) (v_findings : Nat → Int32) (x1 : Int32) : Option (Int32 × (Nat → Int32) × (Nat → Int32)) :=
  (if x1 = 0 then (
  fX4_ring_16 v_party_size v_party_list v_party_kinds v_party_terms v_party_known v_findings x1)
  else (
  (if x1 = 1 then (
  fX4_ring_16 v_party_size v_party_list v_party_kinds v_party_terms v_party_known v_findings x1)
  else (
  bR (fX4_found v_findings (-1000000001)) (fun r6 k6 =>
  some (r6, (v_party_known, k6)))))))
set_option maxRecDepth 100000 in
set_option maxHeartbeats 4000000 in
theorem tX4_ring (l : Launch) (D : va_G) (cI cJ cZ cS : ClassId) (tb : Nat) (a_t a_party a_party_kinds a_party_costs a_party_terms a_party_known a_kept a_tape a_telephone a_sheets a_findings : Nat) (sz : Nat) (v_isKept : Int32) (v_party_size : Int32) (v_party_list : Int32) (v_party_told : Int32) (v_party_kinds : Nat → Int32) (v_party_terms : Nat → Int64) (v_party_known : Nat → Int32) (v_findings : Nat → Int32) (x1 : Int32) (rr : Int32) (kk' : (Nat → Int32) × (Nat → Int32)) (hf : fX4_ring v_party_size v_party_list v_party_kinds v_party_terms v_party_known v_findings x1 = some (rr, kk')) : Met l yX4_ring (Cond.code yX4_ring cX4_ring 3 (some .int) :: wA) rX4_ring (q_Pre D cI cJ cZ cS tb [.ref a_t, .int x1] sz (wX4_ring cI cJ cZ cS a_t a_party a_party_kinds a_party_costs a_party_terms a_party_known a_kept a_tape a_telephone a_sheets a_findings v_isKept v_party_size v_party_list v_party_told v_party_kinds v_party_terms v_party_known v_findings)) (q_Ri D rr (va_A (wX4_ring cI cJ cZ cS a_t a_party a_party_kinds a_party_costs a_party_terms a_party_known a_kept a_tape a_telephone a_sheets a_findings v_isKept v_party_size v_party_list v_party_told v_party_kinds v_party_terms v_party_known v_findings) sz) ((fun k : (Nat → Int32) × (Nat → Int32) => (wX4_ring cI cJ cZ cS a_t a_party a_party_kinds a_party_costs a_party_terms a_party_known a_kept a_tape a_telephone a_sheets a_findings v_isKept v_party_size v_party_list v_party_told v_party_kinds v_party_terms k.1 k.2)) kk')) 0 0 (va_A (wX4_ring cI cJ cZ cS a_t a_party a_party_kinds a_party_costs a_party_terms a_party_known a_kept a_tape a_telephone a_sheets a_findings v_isKept v_party_size v_party_list v_party_told v_party_kinds v_party_terms v_party_known v_findings) sz) := by
  refine q_enter (Qf := fun A => (q_Ri D rr A ((fun k : (Nat → Int32) × (Nat → Int32) => (wX4_ring cI cJ cZ cS a_t a_party a_party_kinds a_party_costs a_party_terms a_party_known a_kept a_tape a_telephone a_sheets a_findings v_isKept v_party_size v_party_list v_party_told v_party_kinds v_party_terms k.1 k.2)) kk'))) (by decide) rfl (Nat.le_of_ble_eq_true rfl) ?_
  intro p e s m below meth c A ls fx hname h hl
  have hx := fx.1
  have hb := fx.2.1
  have hl : lv_has ls 3 [(0, .ref a_t), (1, .int x1)] := hl
  generalize h9 : s.heap = H at h ⊢
  clear h9
  generalize h9 : ([] : List Loc) = locs at h ⊢
  clear h9
  unfold fX4_ring at hf
  refine lv_iload_n hx hb dX4_ring_0 rfl (lv_at hl 1 rfl) ?_
  refine lv_if_eq (tgt := 16) hx hb dX4_ring_1 (by decide) (fun c4 => ?_) (fun c4 => ?_)
  · have hf := it_t c4 hf
    exact LX4_ring_16 fx h (lv_sub hl [0, 1] rfl) hf
  have hf := it_f c4 hf
  refine lv_iload_n hx hb dX4_ring_4 rfl (lv_at hl 1 rfl) ?_
  refine lv_iconst (v := 1) hx hb dX4_ring_5 (by decide) ?_
  refine lv_icmp_eq (tgt := 16) hx hb dX4_ring_6 (by decide) (fun c5 => ?_) (fun c5 => ?_)
  · have hf := it_t c5 hf
    exact LX4_ring_16 fx h (lv_sub hl [0, 1] rfl) hf
  have hf := it_f c5 hf
  refine lv_aload_n hx hb dX4_ring_9 rfl (lv_at hl 0 rfl) ?_
  refine q_ldc fx k_206 dX4_ring_10 ?_
  obtain ⟨r6, k6, hg, hf⟩ := bR_inv hf
  refine q_ci (rest := []) (ws' := (wX4_ring cI cJ cZ cS a_t a_party a_party_kinds a_party_costs a_party_terms a_party_known a_kept a_tape a_telephone a_sheets a_findings v_isKept v_party_size v_party_list v_party_told v_party_kinds v_party_terms v_party_known k6)) (w1 := (wX4_found cI cJ cZ cS a_t a_party a_kept a_tape a_telephone a_sheets a_findings v_isKept k6)) fx h [0, 5] rfl rfl rfl rfl (q_runV fx h hl.1 [0, 5] rfl rfl (tX4_found l D cI cJ cZ cS tb a_t a_party a_kept a_tape a_telephone a_sheets a_findings H.size v_isKept v_findings (-1000000001) r6 k6 hg) mvX4_found k_207 ⟨rfl, rfl⟩ ⟨Nat.le_of_ble_eq_true rfl, Nat.le_of_ble_eq_true rfl⟩ rfl rfl rfl rfl (Nat.le_of_ble_eq_true rfl) dX4_ring_12 ⟨Nat.le_of_ble_eq_true rfl, Nat.le_of_ble_eq_true rfl⟩) (fun H locs h => ?_)
  exact q_reti (fun k : (Nat → Int32) × (Nat → Int32) => (wX4_ring cI cJ cZ cS a_t a_party a_party_kinds a_party_costs a_party_terms a_party_known a_kept a_tape a_telephone a_sheets a_findings v_isKept v_party_size v_party_list v_party_told v_party_kinds v_party_terms k.1 k.2)) fx hf h dX4_ring_15
/-! X3_callAll -/
abbrev wX3_callAll (cI cJ cZ cS : ClassId) (a_t a_queue a_callsTo a_firstCalled a_p1 a_p1_kinds a_p1_costs a_p1_terms a_p1_known : Nat) (v_queue : Nat → Int32) (v_callsTo : Nat → Int32) (v_firstCalled : Nat → Int32) (v_p1_size : Int32) (v_p1_list : Int32) (v_p1_told : Int32) (v_p1_kinds : Nat → Int32) (v_p1_terms : Nat → Int64) (v_p1_known : Nat → Int32) : va_W := [(a_t, .inr (3, [.ref a_queue, .ref a_callsTo, .ref a_firstCalled])), (a_queue, .inl (cI, 256, .inl v_queue)), (a_callsTo, .inl (cI, 256, .inl v_callsTo)), (a_firstCalled, .inl (cI, 256, .inl v_firstCalled)), (a_p1, .inr (0, [.int v_p1_size, .int v_p1_list, .int v_p1_told, .ref a_p1_kinds, .ref a_p1_costs, .ref a_p1_terms, .ref a_p1_known])), (a_p1_kinds, .inl (cI, 8, .inl v_p1_kinds)), (a_p1_terms, .inl (cJ, 32, .inr (.inl v_p1_terms))), (a_p1_known, .inl (cI, 256, .inl v_p1_known))]
abbrev rX3_callAll : Room := { frames := 5, cells := 0, slots := 0, locals := 112 }
def fX3_callAll_101 (v_p1_size : Int32) (v_p1_kinds : Nat → Int32) (v_p1_terms : Nat → Int64) (ag6 : (Nat → Int32) → (Nat → Int32) → (Nat → Int32) → (Nat → Int32) → Int32 → Int32 → Int32 → Option (Int32 × (Nat → Int32) × (Nat → Int32) × (Nat → Int32) × (Nat → Int32))) (v_queue : Nat → Int32) (v_callsTo : Nat → Int32) (v_firstCalled : Nat → Int32) (v_p1_known : Nat → Int32) (y2 : Int32) (y4 : Int32) (y5 : Int32) : Option (Int32 × (Nat → Int32) × (Nat → Int32) × (Nat → Int32) × (Nat → Int32)) :=
  nm (y5 + 1) (fun u1 =>
  ag6 v_queue v_callsTo v_firstCalled v_p1_known y2 y4 u1)
set_option maxRecDepth 100000 in
set_option maxHeartbeats 4000000 in
theorem LX3_callAll_101 {p : Program} {l : Launch} {e : Env} {s : State} {m : MethodId} {args : Array Value} {below : List Frame} {meth : Method} {c : Code} {D : va_G} {cI cJ cZ cS : ClassId} {tb : Nat} {A : Nat → Prop} {a_t a_queue a_callsTo a_firstCalled a_p1 a_p1_kinds a_p1_costs a_p1_terms a_p1_known : Nat} {v_p1_size : Int32} {v_p1_list : Int32} {v_p1_told : Int32} {v_p1_kinds : Nat → Int32} {v_p1_terms : Nat → Int64} {rr : Int32} {kk' : (Nat → Int32) × (Nat → Int32) × (Nat → Int32) × (Nat → Int32)} (fx : q_Fx p s m args meth c cX3_callAll 7 RX3 (some .int) D cI cJ cZ cS tb A) {ag6 : (Nat → Int32) → (Nat → Int32) → (Nat → Int32) → (Nat → Int32) → Int32 → Int32 → Int32 → Option (Int32 × (Nat → Int32) × (Nat → Int32) × (Nat → Int32) × (Nat → Int32))} (hag6 : ∀ {v_queue : Nat → Int32} {v_callsTo : Nat → Int32} {v_firstCalled : Nat → Int32} {v_p1_known : Nat → Int32} {y2 : Int32} {y4 : Int32} {y5 : Int32} {H : Heap} {locs : List Loc} {ls : Array Slot}, q_H D A s (wX3_callAll cI cJ cZ cS a_t a_queue a_callsTo a_firstCalled a_p1 a_p1_kinds a_p1_costs a_p1_terms a_p1_known v_queue v_callsTo v_firstCalled v_p1_size v_p1_list v_p1_told v_p1_kinds v_p1_terms v_p1_known) H locs → lv_has ls 7 [(0, .ref a_t), (1, .ref a_p1), (2, .int y2), (4, .int y4), (5, .int y5)] → ag6 v_queue v_callsTo v_firstCalled v_p1_known y2 y4 y5 = some (rr, kk') → W p l e rX3_callAll s m args below meth c H locs 0 0 (MQ below (q_Ri D rr A ((fun k : (Nat → Int32) × (Nat → Int32) × (Nat → Int32) × (Nat → Int32) => (wX3_callAll cI cJ cZ cS a_t a_queue a_callsTo a_firstCalled a_p1 a_p1_kinds a_p1_costs a_p1_terms a_p1_known k.1 k.2.1 k.2.2.1 v_p1_size v_p1_list v_p1_told v_p1_kinds v_p1_terms k.2.2.2)) kk')) args s 0 0 A) (F0 m 6 ls [])) : ∀ {v_queue : Nat → Int32} {v_callsTo : Nat → Int32} {v_firstCalled : Nat → Int32} {v_p1_known : Nat → Int32} {y2 : Int32} {y4 : Int32} {y5 : Int32} {H : Heap} {locs : List Loc} {ls : Array Slot}, q_H D A s (wX3_callAll cI cJ cZ cS a_t a_queue a_callsTo a_firstCalled a_p1 a_p1_kinds a_p1_costs a_p1_terms a_p1_known v_queue v_callsTo v_firstCalled v_p1_size v_p1_list v_p1_told v_p1_kinds v_p1_terms v_p1_known) H locs → lv_has ls 7 [(0, .ref a_t), (1, .ref a_p1), (2, .int y2), (4, .int y4), (5, .int y5)] → fX3_callAll_101 v_p1_size v_p1_kinds v_p1_terms ag6 v_queue v_callsTo v_firstCalled v_p1_known y2 y4 y5 = some (rr, kk') → W p l e rX3_callAll s m args below meth c H locs 0 0 (MQ below (q_Ri D rr A ((fun k : (Nat → Int32) × (Nat → Int32) × (Nat → Int32) × (Nat → Int32) => (wX3_callAll cI cJ cZ cS a_t a_queue a_callsTo a_firstCalled a_p1 a_p1_kinds a_p1_costs a_p1_terms a_p1_known k.1 k.2.1 k.2.2.1 v_p1_size v_p1_list v_p1_told v_p1_kinds v_p1_terms k.2.2.2)) kk')) args s 0 0 A) (F0 m 101 ls []) := by
  intro v_queue v_callsTo v_firstCalled v_p1_known y2 y4 y5 H locs ls h hl hf
  have hx := fx.1
  have hb := fx.2.1
  unfold fX3_callAll_101 at hf
  obtain ⟨u1, eu1, hf⟩ := nm_inv hf
  refine lv_iinc (v := u1) (lv' := [(5, .int u1), (0, .ref a_t), (1, .ref a_p1), (2, .int y2), (4, .int y4)]) hx hb dX3_callAll_101 hl (k := 4) rfl (by rw [eu1]; rfl) (by decide) rfl (fun ls hl => ?_)
  refine lv_goto (tgt := 6) hx hb dX3_callAll_104 (by decide) ?_
  exact hag6 h (lv_sub hl [1, 2, 3, 4, 0] rfl) hf
def fX3_callAll_88 (v_p1_size : Int32) (v_p1_kinds : Nat → Int32) (v_p1_terms : Nat → Int64) (ag6 : (Nat → Int32) → (Nat → Int32) → (Nat → Int32) → (Nat → Int32) → Int32 → Int32 → Int32 → Option (Int32 × (Nat → Int32) × (Nat → Int32) × (Nat → Int32) × (Nat → Int32))) (v_queue : Nat → Int32) (v_callsTo : Nat → Int32) (v_firstCalled : Nat → Int32) (v_p1_known : Nat → Int32) (s1 : Int32) (s2 : Int32) (y2 : Int32) (y4 : Int32) (y5 : Int32) (y6 : Int32) : Option (Int32 × (Nat → Int32) × (Nat → Int32) × (Nat → Int32) × (Nat → Int32)) :=
  gIn s1 256 (
  gIn y4 256 (
  nm (y4 + 1) (fun u4 =>
  fX3_callAll_101 v_p1_size v_p1_kinds v_p1_terms ag6 (upd v_queue y4.toNatClampNeg y6) v_callsTo (upd v_firstCalled s1.toNatClampNeg s2) v_p1_known y2 u4 y5)))
set_option maxRecDepth 100000 in
set_option maxHeartbeats 4000000 in
theorem LX3_callAll_88 {p : Program} {l : Launch} {e : Env} {s : State} {m : MethodId} {args : Array Value} {below : List Frame} {meth : Method} {c : Code} {D : va_G} {cI cJ cZ cS : ClassId} {tb : Nat} {A : Nat → Prop} {a_t a_queue a_callsTo a_firstCalled a_p1 a_p1_kinds a_p1_costs a_p1_terms a_p1_known : Nat} {v_p1_size : Int32} {v_p1_list : Int32} {v_p1_told : Int32} {v_p1_kinds : Nat → Int32} {v_p1_terms : Nat → Int64} {rr : Int32} {kk' : (Nat → Int32) × (Nat → Int32) × (Nat → Int32) × (Nat → Int32)} (fx : q_Fx p s m args meth c cX3_callAll 7 RX3 (some .int) D cI cJ cZ cS tb A) {ag6 : (Nat → Int32) → (Nat → Int32) → (Nat → Int32) → (Nat → Int32) → Int32 → Int32 → Int32 → Option (Int32 × (Nat → Int32) × (Nat → Int32) × (Nat → Int32) × (Nat → Int32))} (hag6 : ∀ {v_queue : Nat → Int32} {v_callsTo : Nat → Int32} {v_firstCalled : Nat → Int32} {v_p1_known : Nat → Int32} {y2 : Int32} {y4 : Int32} {y5 : Int32} {H : Heap} {locs : List Loc} {ls : Array Slot}, q_H D A s (wX3_callAll cI cJ cZ cS a_t a_queue a_callsTo a_firstCalled a_p1 a_p1_kinds a_p1_costs a_p1_terms a_p1_known v_queue v_callsTo v_firstCalled v_p1_size v_p1_list v_p1_told v_p1_kinds v_p1_terms v_p1_known) H locs → lv_has ls 7 [(0, .ref a_t), (1, .ref a_p1), (2, .int y2), (4, .int y4), (5, .int y5)] → ag6 v_queue v_callsTo v_firstCalled v_p1_known y2 y4 y5 = some (rr, kk') → W p l e rX3_callAll s m args below meth c H locs 0 0 (MQ below (q_Ri D rr A ((fun k : (Nat → Int32) × (Nat → Int32) × (Nat → Int32) × (Nat → Int32) => (wX3_callAll cI cJ cZ cS a_t a_queue a_callsTo a_firstCalled a_p1 a_p1_kinds a_p1_costs a_p1_terms a_p1_known k.1 k.2.1 k.2.2.1 v_p1_size v_p1_list v_p1_told v_p1_kinds v_p1_terms k.2.2.2)) kk')) args s 0 0 A) (F0 m 6 ls [])) : ∀ {v_queue : Nat → Int32} {v_callsTo : Nat → Int32} {v_firstCalled : Nat → Int32} {v_p1_known : Nat → Int32} {s1 : Int32} {s2 : Int32} {y2 : Int32} {y4 : Int32} {y5 : Int32} {y6 : Int32} {H : Heap} {locs : List Loc} {ls : Array Slot}, q_H D A s (wX3_callAll cI cJ cZ cS a_t a_queue a_callsTo a_firstCalled a_p1 a_p1_kinds a_p1_costs a_p1_terms a_p1_known v_queue v_callsTo v_firstCalled v_p1_size v_p1_list v_p1_told v_p1_kinds v_p1_terms v_p1_known) H locs → lv_has ls 7 [(0, .ref a_t), (1, .ref a_p1), (2, .int y2), (4, .int y4), (5, .int y5), (6, .int y6)] → fX3_callAll_88 v_p1_size v_p1_kinds v_p1_terms ag6 v_queue v_callsTo v_firstCalled v_p1_known s1 s2 y2 y4 y5 y6 = some (rr, kk') → W p l e rX3_callAll s m args below meth c H locs 0 0 (MQ below (q_Ri D rr A ((fun k : (Nat → Int32) × (Nat → Int32) × (Nat → Int32) × (Nat → Int32) => (wX3_callAll cI cJ cZ cS a_t a_queue a_callsTo a_firstCalled a_p1 a_p1_kinds a_p1_costs a_p1_terms a_p1_known k.1 k.2.1 k.2.2.1 v_p1_size v_p1_list v_p1_told v_p1_kinds v_p1_terms k.2.2.2)) kk')) args s 0 0 A) (F0 m 88 ls [.int s2, .int s1, .ref a_firstCalled]) := by
  intro v_queue v_callsTo v_firstCalled v_p1_known s1 s2 y2 y4 y5 y6 H locs ls h hl hf
  have hx := fx.1
  have hb := fx.2.1
  unfold fX3_callAll_88 at hf
  obtain ⟨i2, hf⟩ := gIn_inv hf
  refine q_iast (ws' := (wX3_callAll cI cJ cZ cS a_t a_queue a_callsTo a_firstCalled a_p1 a_p1_kinds a_p1_costs a_p1_terms a_p1_known v_queue v_callsTo (upd v_firstCalled s1.toNatClampNeg s2) v_p1_size v_p1_list v_p1_told v_p1_kinds v_p1_terms v_p1_known)) fx h 3 rfl i2 rfl dX3_callAll_88 (fun H locs h => ?_)
  refine lv_aload_n hx hb dX3_callAll_89 rfl (lv_at hl 0 rfl) ?_
  refine q_get (v := .ref a_queue) fx inX3 h 0 rfl rfl 0 (by decide) k_144 rfl dX3_callAll_90 ?_
  refine lv_iload hx hb dX3_callAll_93 (lv_at hl 3 rfl) ?_
  refine lv_iload hx hb dX3_callAll_95 (lv_at hl 5 rfl) ?_
  obtain ⟨i3, hf⟩ := gIn_inv hf
  refine q_iast (ws' := (wX3_callAll cI cJ cZ cS a_t a_queue a_callsTo a_firstCalled a_p1 a_p1_kinds a_p1_costs a_p1_terms a_p1_known (upd v_queue y4.toNatClampNeg y6) v_callsTo (upd v_firstCalled s1.toNatClampNeg s2) v_p1_size v_p1_list v_p1_told v_p1_kinds v_p1_terms v_p1_known)) fx h 1 rfl i3 rfl dX3_callAll_97 (fun H locs h => ?_)
  obtain ⟨u4, eu4, hf⟩ := nm_inv hf
  refine lv_iinc (v := u4) (lv' := [(4, .int u4), (0, .ref a_t), (1, .ref a_p1), (2, .int y2), (5, .int y5), (6, .int y6)]) hx hb dX3_callAll_98 hl (k := 3) rfl (by rw [eu4]; rfl) (by decide) rfl (fun ls hl => ?_)
  exact LX3_callAll_101 fx hag6 h (lv_sub hl [1, 2, 3, 0, 4] rfl) hf
def fX3_callAll_6 (v_p1_size : Int32) (v_p1_kinds : Nat → Int32) (v_p1_terms : Nat → Int64) (ag6 : (Nat → Int32) → (Nat → Int32) → (Nat → Int32) → (Nat → Int32) → Int32 → Int32 → Int32 → Option (Int32 × (Nat → Int32) × (Nat → Int32) × (Nat → Int32) × (Nat → Int32))) (v_queue : Nat → Int32) (v_callsTo : Nat → Int32) (v_firstCalled : Nat → Int32) (v_p1_known : Nat → Int32) (y2 : Int32) (y4 : Int32) (y5 : Int32) : Option (Int32 × (Nat → Int32) × (Nat → Int32) × (Nat → Int32) × (Nat → Int32)) :=
  (if v_p1_size ≤ y5 then (
  some (y4, (v_queue, v_callsTo, v_firstCalled, v_p1_known)))
  else (
  bR (fX0_called v_p1_size v_p1_kinds v_p1_terms v_p1_known y5 y2) (fun r6 k6 =>
  nm (r6 &&& 255) (fun u7 =>
  gIn u7 256 (
  (if (v_callsTo u7.toNatClampNeg) = (-1) then (
  (if (256 : Int32) ≤ y4 then (
  fX3_callAll_101 v_p1_size v_p1_kinds v_p1_terms ag6 v_queue v_callsTo v_firstCalled k6 y2 y4 y5)
  else (
  gIn y2 256 (
  gIn u7 256 (
  gIn y2 256 (
  (if ((upd v_callsTo u7.toNatClampNeg ((v_callsTo y2.toNatClampNeg) + 1)) y2.toNatClampNeg) = 0 then (
  fX3_callAll_88 v_p1_size v_p1_kinds v_p1_terms ag6 v_queue (upd v_callsTo u7.toNatClampNeg ((v_callsTo y2.toNatClampNeg) + 1)) v_firstCalled k6 u7 y5 y2 y4 y5 u7)
  else (
  gIn y2 256 (
  fX3_callAll_88 v_p1_size v_p1_kinds v_p1_terms ag6 v_queue (upd v_callsTo u7.toNatClampNeg ((v_callsTo y2.toNatClampNeg) + 1)) v_firstCalled k6 u7 (v_firstCalled y2.toNatClampNeg) y2 y4 y5 u7)))))))))
  else (
  fX3_callAll_101 v_p1_size v_p1_kinds v_p1_terms ag6 v_queue v_callsTo v_firstCalled k6 y2 y4 y5)))))))
set_option maxRecDepth 100000 in
set_option maxHeartbeats 4000000 in
theorem LX3_callAll_6 {p : Program} {l : Launch} {e : Env} {s : State} {m : MethodId} {args : Array Value} {below : List Frame} {meth : Method} {c : Code} {D : va_G} {cI cJ cZ cS : ClassId} {tb : Nat} {A : Nat → Prop} {a_t a_queue a_callsTo a_firstCalled a_p1 a_p1_kinds a_p1_costs a_p1_terms a_p1_known : Nat} {v_p1_size : Int32} {v_p1_list : Int32} {v_p1_told : Int32} {v_p1_kinds : Nat → Int32} {v_p1_terms : Nat → Int64} {rr : Int32} {kk' : (Nat → Int32) × (Nat → Int32) × (Nat → Int32) × (Nat → Int32)} (fx : q_Fx p s m args meth c cX3_callAll 7 RX3 (some .int) D cI cJ cZ cS tb A) {ag6 : (Nat → Int32) → (Nat → Int32) → (Nat → Int32) → (Nat → Int32) → Int32 → Int32 → Int32 → Option (Int32 × (Nat → Int32) × (Nat → Int32) × (Nat → Int32) × (Nat → Int32))} (hag6 : ∀ {v_queue : Nat → Int32} {v_callsTo : Nat → Int32} {v_firstCalled : Nat → Int32} {v_p1_known : Nat → Int32} {y2 : Int32} {y4 : Int32} {y5 : Int32} {H : Heap} {locs : List Loc} {ls : Array Slot}, q_H D A s (wX3_callAll cI cJ cZ cS a_t a_queue a_callsTo a_firstCalled a_p1 a_p1_kinds a_p1_costs a_p1_terms a_p1_known v_queue v_callsTo v_firstCalled v_p1_size v_p1_list v_p1_told v_p1_kinds v_p1_terms v_p1_known) H locs → lv_has ls 7 [(0, .ref a_t), (1, .ref a_p1), (2, .int y2), (4, .int y4), (5, .int y5)] → ag6 v_queue v_callsTo v_firstCalled v_p1_known y2 y4 y5 = some (rr, kk') → W p l e rX3_callAll s m args below meth c H locs 0 0 (MQ below (q_Ri D rr A ((fun k : (Nat → Int32) × (Nat → Int32) × (Nat → Int32) × (Nat → Int32) => (wX3_callAll cI cJ cZ cS a_t a_queue a_callsTo a_firstCalled a_p1 a_p1_kinds a_p1_costs a_p1_terms a_p1_known k.1 k.2.1 k.2.2.1 v_p1_size v_p1_list v_p1_told v_p1_kinds v_p1_terms k.2.2.2)) kk')) args s 0 0 A) (F0 m 6 ls [])) : ∀ {v_queue : Nat → Int32} {v_callsTo : Nat → Int32} {v_firstCalled : Nat → Int32} {v_p1_known : Nat → Int32} {y2 : Int32} {y4 : Int32} {y5 : Int32} {H : Heap} {locs : List Loc} {ls : Array Slot}, q_H D A s (wX3_callAll cI cJ cZ cS a_t a_queue a_callsTo a_firstCalled a_p1 a_p1_kinds a_p1_costs a_p1_terms a_p1_known v_queue v_callsTo v_firstCalled v_p1_size v_p1_list v_p1_told v_p1_kinds v_p1_terms v_p1_known) H locs → lv_has ls 7 [(0, .ref a_t), (1, .ref a_p1), (2, .int y2), (4, .int y4), (5, .int y5)] → fX3_callAll_6 v_p1_size v_p1_kinds v_p1_terms ag6 v_queue v_callsTo v_firstCalled v_p1_known y2 y4 y5 = some (rr, kk') → W p l e rX3_callAll s m args below meth c H locs 0 0 (MQ below (q_Ri D rr A ((fun k : (Nat → Int32) × (Nat → Int32) × (Nat → Int32) × (Nat → Int32) => (wX3_callAll cI cJ cZ cS a_t a_queue a_callsTo a_firstCalled a_p1 a_p1_kinds a_p1_costs a_p1_terms a_p1_known k.1 k.2.1 k.2.2.1 v_p1_size v_p1_list v_p1_told v_p1_kinds v_p1_terms k.2.2.2)) kk')) args s 0 0 A) (F0 m 6 ls []) := by
  intro v_queue v_callsTo v_firstCalled v_p1_known y2 y4 y5 H locs ls h hl hf
  have hx := fx.1
  have hb := fx.2.1
  unfold fX3_callAll_6 at hf
  refine lv_iload hx hb dX3_callAll_6 (lv_at hl 4 rfl) ?_
  refine lv_aload_n hx hb dX3_callAll_8 rfl (lv_at hl 1 rfl) ?_
  refine q_getN (v := .int v_p1_size) fx inX0 h 4 rfl rfl 0 (by decide) nf_1 rfl dX3_callAll_9 ?_
  refine lv_icmp_ge (tgt := 107) hx hb dX3_callAll_12 (by decide) (fun c5 => ?_) (fun c5 => ?_)
  · have hf := it_t c5 hf
    refine lv_iload hx hb dX3_callAll_107 (lv_at hl 3 rfl) ?_
    exact q_reti (fun k : (Nat → Int32) × (Nat → Int32) × (Nat → Int32) × (Nat → Int32) => (wX3_callAll cI cJ cZ cS a_t a_queue a_callsTo a_firstCalled a_p1 a_p1_kinds a_p1_costs a_p1_terms a_p1_known k.1 k.2.1 k.2.2.1 v_p1_size v_p1_list v_p1_told v_p1_kinds v_p1_terms k.2.2.2)) fx hf h dX3_callAll_109
  have hf := it_f c5 hf
  refine lv_aload_n hx hb dX3_callAll_15 rfl (lv_at hl 1 rfl) ?_
  refine lv_iload hx hb dX3_callAll_16 (lv_at hl 4 rfl) ?_
  refine lv_iload_n hx hb dX3_callAll_18 rfl (lv_at hl 2 rfl) ?_
  obtain ⟨r6, k6, hg, hf⟩ := bR_inv hf
  refine q_ci (rest := []) (ws' := (wX3_callAll cI cJ cZ cS a_t a_queue a_callsTo a_firstCalled a_p1 a_p1_kinds a_p1_costs a_p1_terms a_p1_known v_queue v_callsTo v_firstCalled v_p1_size v_p1_list v_p1_told v_p1_kinds v_p1_terms k6)) (w1 := (wX0_called cI cJ cZ cS a_p1 a_p1_kinds a_p1_costs a_p1_terms a_p1_known v_p1_size v_p1_list v_p1_told v_p1_kinds v_p1_terms k6)) fx h [4, 5, 6, 7] rfl rfl rfl rfl (q_runV fx h hl.1 [4, 5, 6, 7] rfl rfl (tX0_called l D cI cJ cZ cS tb a_p1 a_p1_kinds a_p1_costs a_p1_terms a_p1_known H.size v_p1_size v_p1_list v_p1_told v_p1_kinds v_p1_terms v_p1_known y5 y2 r6 k6 hg) mvX0_called k_430 ⟨rfl, rfl⟩ ⟨Nat.le_of_ble_eq_true rfl, Nat.le_of_ble_eq_true rfl⟩ rfl rfl rfl rfl (Nat.le_of_ble_eq_true rfl) dX3_callAll_19 ⟨Nat.le_of_ble_eq_true rfl, Nat.le_of_ble_eq_true rfl⟩) (fun H locs h => ?_)
  refine lv_sipush (v := 255) hx hb dX3_callAll_22 (by decide) ?_
  refine lv_iand hx hb dX3_callAll_25 ?_
  obtain ⟨u7, eu7, hf⟩ := nm_inv hf
  refine lv_eqi eu7 ?_
  refine lv_istore (lv' := [(6, .int u7), (0, .ref a_t), (1, .ref a_p1), (2, .int y2), (4, .int y4), (5, .int y5)]) hx hb dX3_callAll_26 hl (by decide) rfl (fun ls hl => ?_)
  refine lv_aload_n hx hb dX3_callAll_28 rfl (lv_at hl 1 rfl) ?_
  refine q_get (v := .ref a_callsTo) fx inX3 h 0 rfl rfl 1 (by decide) k_145 rfl dX3_callAll_29 ?_
  refine lv_iload hx hb dX3_callAll_32 (lv_at hl 0 rfl) ?_
  obtain ⟨i8, hf⟩ := gIn_inv hf
  refine q_iald fx h 2 rfl i8 dX3_callAll_34 ?_
  refine lv_iconst (v := -1) hx hb dX3_callAll_35 (by decide) ?_
  refine lv_icmp_ne (tgt := 101) hx hb dX3_callAll_36 (by decide) (fun c9 => ?_) (fun c9 => ?_)
  · have hf := it_f c9 hf
    exact LX3_callAll_101 fx hag6 h (lv_sub hl [1, 2, 3, 4, 5] rfl) hf
  have hf := it_t c9 hf
  refine lv_iload hx hb dX3_callAll_39 (lv_at hl 4 rfl) ?_
  refine lv_sipush (v := 256) hx hb dX3_callAll_41 (by decide) ?_
  refine lv_icmp_ge (tgt := 101) hx hb dX3_callAll_44 (by decide) (fun c10 => ?_) (fun c10 => ?_)
  · have hf := it_t c10 hf
    exact LX3_callAll_101 fx hag6 h (lv_sub hl [1, 2, 3, 4, 5] rfl) hf
  have hf := it_f c10 hf
  refine lv_aload_n hx hb dX3_callAll_47 rfl (lv_at hl 1 rfl) ?_
  refine q_get (v := .ref a_callsTo) fx inX3 h 0 rfl rfl 1 (by decide) k_145 rfl dX3_callAll_48 ?_
  refine lv_iload hx hb dX3_callAll_51 (lv_at hl 0 rfl) ?_
  refine lv_aload_n hx hb dX3_callAll_53 rfl (lv_at hl 1 rfl) ?_
  refine q_get (v := .ref a_callsTo) fx inX3 h 0 rfl rfl 1 (by decide) k_145 rfl dX3_callAll_54 ?_
  refine lv_iload_n hx hb dX3_callAll_57 rfl (lv_at hl 3 rfl) ?_
  obtain ⟨i11, hf⟩ := gIn_inv hf
  refine q_iald fx h 2 rfl i11 dX3_callAll_58 ?_
  refine lv_iconst (v := 1) hx hb dX3_callAll_59 (by decide) ?_
  refine lv_iadd hx hb dX3_callAll_60 ?_
  obtain ⟨i12, hf⟩ := gIn_inv hf
  refine q_iast (ws' := (wX3_callAll cI cJ cZ cS a_t a_queue a_callsTo a_firstCalled a_p1 a_p1_kinds a_p1_costs a_p1_terms a_p1_known v_queue (upd v_callsTo u7.toNatClampNeg ((v_callsTo y2.toNatClampNeg) + 1)) v_firstCalled v_p1_size v_p1_list v_p1_told v_p1_kinds v_p1_terms k6)) fx h 2 rfl i12 rfl dX3_callAll_61 (fun H locs h => ?_)
  refine lv_aload_n hx hb dX3_callAll_62 rfl (lv_at hl 1 rfl) ?_
  refine q_get (v := .ref a_firstCalled) fx inX3 h 0 rfl rfl 2 (by decide) k_146 rfl dX3_callAll_63 ?_
  refine lv_iload hx hb dX3_callAll_66 (lv_at hl 0 rfl) ?_
  refine lv_aload_n hx hb dX3_callAll_68 rfl (lv_at hl 1 rfl) ?_
  refine q_get (v := .ref a_callsTo) fx inX3 h 0 rfl rfl 1 (by decide) k_145 rfl dX3_callAll_69 ?_
  refine lv_iload_n hx hb dX3_callAll_72 rfl (lv_at hl 3 rfl) ?_
  obtain ⟨i13, hf⟩ := gIn_inv hf
  refine q_iald fx h 2 rfl i13 dX3_callAll_73 ?_
  refine lv_if_ne (tgt := 82) hx hb dX3_callAll_74 (by decide) (fun c14 => ?_) (fun c14 => ?_)
  · have hf := it_f c14 hf
    refine lv_aload_n hx hb dX3_callAll_82 rfl (lv_at hl 1 rfl) ?_
    refine q_get (v := .ref a_firstCalled) fx inX3 h 0 rfl rfl 2 (by decide) k_146 rfl dX3_callAll_83 ?_
    refine lv_iload_n hx hb dX3_callAll_86 rfl (lv_at hl 3 rfl) ?_
    obtain ⟨i15, hf⟩ := gIn_inv hf
    refine q_iald fx h 3 rfl i15 dX3_callAll_87 ?_
    exact LX3_callAll_88 fx hag6 h (lv_sub hl [1, 2, 3, 4, 5, 0] rfl) hf
  have hf := it_t c14 hf
  refine lv_iload hx hb dX3_callAll_77 (lv_at hl 5 rfl) ?_
  refine lv_goto (tgt := 88) hx hb dX3_callAll_79 (by decide) ?_
  exact LX3_callAll_88 fx hag6 h (lv_sub hl [1, 2, 3, 4, 5, 0] rfl) hf
set_option maxRecDepth 100000 in
theorem EX3_callAll_6 {p : Program} {l : Launch} {e : Env} {s : State} {m : MethodId} {args : Array Value} {below : List Frame} {meth : Method} {c : Code} {D : va_G} {cI cJ cZ cS : ClassId} {tb : Nat} {A : Nat → Prop} {a_t a_queue a_callsTo a_firstCalled a_p1 a_p1_kinds a_p1_costs a_p1_terms a_p1_known : Nat} {v_p1_size : Int32} {v_p1_list : Int32} {v_p1_told : Int32} {v_p1_kinds : Nat → Int32} {v_p1_terms : Nat → Int64} {rr : Int32} {kk' : (Nat → Int32) × (Nat → Int32) × (Nat → Int32) × (Nat → Int32)} (fx : q_Fx p s m args meth c cX3_callAll 7 RX3 (some .int) D cI cJ cZ cS tb A) : ∀ (n : Nat), ∀ {v_queue : Nat → Int32} {v_callsTo : Nat → Int32} {v_firstCalled : Nat → Int32} {v_p1_known : Nat → Int32} {y2 : Int32} {y4 : Int32} {y5 : Int32} {H : Heap} {locs : List Loc} {ls : Array Slot}, q_H D A s (wX3_callAll cI cJ cZ cS a_t a_queue a_callsTo a_firstCalled a_p1 a_p1_kinds a_p1_costs a_p1_terms a_p1_known v_queue v_callsTo v_firstCalled v_p1_size v_p1_list v_p1_told v_p1_kinds v_p1_terms v_p1_known) H locs → lv_has ls 7 [(0, .ref a_t), (1, .ref a_p1), (2, .int y2), (4, .int y4), (5, .int y5)] → ll7 (fX3_callAll_6 v_p1_size v_p1_kinds v_p1_terms) n v_queue v_callsTo v_firstCalled v_p1_known y2 y4 y5 = some (rr, kk') → W p l e rX3_callAll s m args below meth c H locs 0 0 (MQ below (q_Ri D rr A ((fun k : (Nat → Int32) × (Nat → Int32) × (Nat → Int32) × (Nat → Int32) => (wX3_callAll cI cJ cZ cS a_t a_queue a_callsTo a_firstCalled a_p1 a_p1_kinds a_p1_costs a_p1_terms a_p1_known k.1 k.2.1 k.2.2.1 v_p1_size v_p1_list v_p1_told v_p1_kinds v_p1_terms k.2.2.2)) kk')) args s 0 0 A) (F0 m 6 ls []) := by
  intro n
  induction n with
  | zero => intro v_queue v_callsTo v_firstCalled v_p1_known y2 y4 y5 H locs ls h hl hf; exact (ll7_z hf).elim
  | succ n ih => intro v_queue v_callsTo v_firstCalled v_p1_known y2 y4 y5 H locs ls h hl hf; exact LX3_callAll_6 fx ih h hl (ll7_s hf)
def fX3_callAll (v_queue : Nat → Int32) (v_callsTo : Nat → Int32) (v_firstCalled : Nat → Int32) (v_p1_size : Int32) (v_p1_kinds : Nat → Int32) (v_p1_terms : Nat → Int64) (v_p1_known : Nat → Int32) (x2 : Int32) (x3 : Int32) : Option (Int32 × (Nat → Int32) × (Nat → Int32) × (Nat → Int32) × (Nat → Int32)) :=
  ll7 (fX3_callAll_6 v_p1_size v_p1_kinds v_p1_terms) qF v_queue v_callsTo v_firstCalled v_p1_known x2 x3 0
set_option maxRecDepth 100000 in
set_option maxHeartbeats 4000000 in
theorem tX3_callAll (l : Launch) (D : va_G) (cI cJ cZ cS : ClassId) (tb : Nat) (a_t a_queue a_callsTo a_firstCalled a_p1 a_p1_kinds a_p1_costs a_p1_terms a_p1_known : Nat) (sz : Nat) (v_queue : Nat → Int32) (v_callsTo : Nat → Int32) (v_firstCalled : Nat → Int32) (v_p1_size : Int32) (v_p1_list : Int32) (v_p1_told : Int32) (v_p1_kinds : Nat → Int32) (v_p1_terms : Nat → Int64) (v_p1_known : Nat → Int32) (x2 : Int32) (x3 : Int32) (rr : Int32) (kk' : (Nat → Int32) × (Nat → Int32) × (Nat → Int32) × (Nat → Int32)) (hf : fX3_callAll v_queue v_callsTo v_firstCalled v_p1_size v_p1_kinds v_p1_terms v_p1_known x2 x3 = some (rr, kk')) : Met l yX3_callAll (Cond.code yX3_callAll cX3_callAll 7 (some .int) :: wA) rX3_callAll (q_Pre D cI cJ cZ cS tb [.ref a_t, .ref a_p1, .int x2, .int x3] sz (wX3_callAll cI cJ cZ cS a_t a_queue a_callsTo a_firstCalled a_p1 a_p1_kinds a_p1_costs a_p1_terms a_p1_known v_queue v_callsTo v_firstCalled v_p1_size v_p1_list v_p1_told v_p1_kinds v_p1_terms v_p1_known)) (q_Ri D rr (va_A (wX3_callAll cI cJ cZ cS a_t a_queue a_callsTo a_firstCalled a_p1 a_p1_kinds a_p1_costs a_p1_terms a_p1_known v_queue v_callsTo v_firstCalled v_p1_size v_p1_list v_p1_told v_p1_kinds v_p1_terms v_p1_known) sz) ((fun k : (Nat → Int32) × (Nat → Int32) × (Nat → Int32) × (Nat → Int32) => (wX3_callAll cI cJ cZ cS a_t a_queue a_callsTo a_firstCalled a_p1 a_p1_kinds a_p1_costs a_p1_terms a_p1_known k.1 k.2.1 k.2.2.1 v_p1_size v_p1_list v_p1_told v_p1_kinds v_p1_terms k.2.2.2)) kk')) 0 0 (va_A (wX3_callAll cI cJ cZ cS a_t a_queue a_callsTo a_firstCalled a_p1 a_p1_kinds a_p1_costs a_p1_terms a_p1_known v_queue v_callsTo v_firstCalled v_p1_size v_p1_list v_p1_told v_p1_kinds v_p1_terms v_p1_known) sz) := by
  refine q_enter (Qf := fun A => (q_Ri D rr A ((fun k : (Nat → Int32) × (Nat → Int32) × (Nat → Int32) × (Nat → Int32) => (wX3_callAll cI cJ cZ cS a_t a_queue a_callsTo a_firstCalled a_p1 a_p1_kinds a_p1_costs a_p1_terms a_p1_known k.1 k.2.1 k.2.2.1 v_p1_size v_p1_list v_p1_told v_p1_kinds v_p1_terms k.2.2.2)) kk'))) (by decide) rfl (Nat.le_of_ble_eq_true rfl) ?_
  intro p e s m below meth c A ls fx hname h hl
  have hx := fx.1
  have hb := fx.2.1
  have hl : lv_has ls 7 [(0, .ref a_t), (1, .ref a_p1), (2, .int x2), (3, .int x3)] := hl
  generalize h9 : s.heap = H at h ⊢
  clear h9
  generalize h9 : ([] : List Loc) = locs at h ⊢
  clear h9
  unfold fX3_callAll at hf
  refine lv_iload_n hx hb dX3_callAll_0 rfl (lv_at hl 3 rfl) ?_
  refine lv_istore (lv' := [(4, .int x3), (0, .ref a_t), (1, .ref a_p1), (2, .int x2), (3, .int x3)]) hx hb dX3_callAll_1 hl (by decide) rfl (fun ls hl => ?_)
  refine lv_iconst (v := 0) hx hb dX3_callAll_3 (by decide) ?_
  refine lv_istore (lv' := [(5, .int 0), (4, .int x3), (0, .ref a_t), (1, .ref a_p1), (2, .int x2), (3, .int x3)]) hx hb dX3_callAll_4 hl (by decide) rfl (fun ls hl => ?_)
  exact EX3_callAll_6 fx qF h (lv_sub hl [2, 3, 4, 1, 0] rfl) hf
/-! X3_nearestSettled -/
abbrev wX3_nearestSettled (cI cJ cZ cS : ClassId) (a_t a_queue a_callsTo a_firstCalled a_p1 a_p1_kinds a_p1_costs a_p1_terms a_p1_known : Nat) (v_queue : Nat → Int32) (v_callsTo : Nat → Int32) (v_firstCalled : Nat → Int32) (v_p1_size : Int32) (v_p1_list : Int32) (v_p1_told : Int32) (v_p1_kinds : Nat → Int32) (v_p1_terms : Nat → Int64) (v_p1_known : Nat → Int32) : va_W := [(a_t, .inr (3, [.ref a_queue, .ref a_callsTo, .ref a_firstCalled])), (a_queue, .inl (cI, 256, .inl v_queue)), (a_callsTo, .inl (cI, 256, .inl v_callsTo)), (a_firstCalled, .inl (cI, 256, .inl v_firstCalled)), (a_p1, .inr (0, [.int v_p1_size, .int v_p1_list, .int v_p1_told, .ref a_p1_kinds, .ref a_p1_costs, .ref a_p1_terms, .ref a_p1_known])), (a_p1_kinds, .inl (cI, 8, .inl v_p1_kinds)), (a_p1_terms, .inl (cJ, 32, .inr (.inl v_p1_terms))), (a_p1_known, .inl (cI, 256, .inl v_p1_known))]
abbrev rX3_nearestSettled : Room := { frames := 6, cells := 0, slots := 0, locals := 138 }
def fX3_nearestSettled_43 (v_p1_size : Int32) (v_p1_list : Int32) (v_p1_kinds : Nat → Int32) (v_p1_terms : Nat → Int64) (ag43 : (Nat → Int32) → (Nat → Int32) → (Nat → Int32) → (Nat → Int32) → Int32 → Int32 → Option (Int32 × (Nat → Int32) × (Nat → Int32) × (Nat → Int32) × (Nat → Int32))) (v_queue : Nat → Int32) (v_callsTo : Nat → Int32) (v_firstCalled : Nat → Int32) (v_p1_known : Nat → Int32) (y3 : Int32) (y4 : Int32) : Option (Int32 × (Nat → Int32) × (Nat → Int32) × (Nat → Int32) × (Nat → Int32)) :=
  (if y3 ≤ y4 then (
  some ((-1), (v_queue, v_callsTo, v_firstCalled, v_p1_known)))
  else (
  (if (256 : Int32) ≤ y4 then (
  some ((-1), (v_queue, v_callsTo, v_firstCalled, v_p1_known)))
  else (
  gIn y4 256 (
  bR (fX0_isSettled v_p1_size v_p1_kinds v_p1_terms v_p1_known (v_queue y4.toNatClampNeg)) (fun r4 k4 =>
  (if r4 = 0 then (
  gIn y4 256 (
  bR (fX3_callAll v_queue v_callsTo v_firstCalled v_p1_size v_p1_kinds v_p1_terms k4 (v_queue y4.toNatClampNeg) y3) (fun r7 k7 =>
  nm (y4 + 1) (fun u8 =>
  ag43 k7.1 k7.2.1 k7.2.2.1 k7.2.2.2 r7 u8))))
  else (
  gIn y4 256 (
  some (v_queue y4.toNatClampNeg, (v_queue, v_callsTo, v_firstCalled, k4)))))))))))
set_option maxRecDepth 100000 in
set_option maxHeartbeats 4000000 in
theorem LX3_nearestSettled_43 {p : Program} {l : Launch} {e : Env} {s : State} {m : MethodId} {args : Array Value} {below : List Frame} {meth : Method} {c : Code} {D : va_G} {cI cJ cZ cS : ClassId} {tb : Nat} {A : Nat → Prop} {a_t a_queue a_callsTo a_firstCalled a_p1 a_p1_kinds a_p1_costs a_p1_terms a_p1_known : Nat} {v_p1_size : Int32} {v_p1_list : Int32} {v_p1_told : Int32} {v_p1_kinds : Nat → Int32} {v_p1_terms : Nat → Int64} {rr : Int32} {kk' : (Nat → Int32) × (Nat → Int32) × (Nat → Int32) × (Nat → Int32)} (fx : q_Fx p s m args meth c cX3_nearestSettled 5 RX3 (some .int) D cI cJ cZ cS tb A) {ag43 : (Nat → Int32) → (Nat → Int32) → (Nat → Int32) → (Nat → Int32) → Int32 → Int32 → Option (Int32 × (Nat → Int32) × (Nat → Int32) × (Nat → Int32) × (Nat → Int32))} (hag43 : ∀ {v_queue : Nat → Int32} {v_callsTo : Nat → Int32} {v_firstCalled : Nat → Int32} {v_p1_known : Nat → Int32} {y3 : Int32} {y4 : Int32} {H : Heap} {locs : List Loc} {ls : Array Slot}, q_H D A s (wX3_nearestSettled cI cJ cZ cS a_t a_queue a_callsTo a_firstCalled a_p1 a_p1_kinds a_p1_costs a_p1_terms a_p1_known v_queue v_callsTo v_firstCalled v_p1_size v_p1_list v_p1_told v_p1_kinds v_p1_terms v_p1_known) H locs → lv_has ls 5 [(0, .ref a_t), (1, .ref a_p1), (3, .int y3), (4, .int y4)] → ag43 v_queue v_callsTo v_firstCalled v_p1_known y3 y4 = some (rr, kk') → W p l e rX3_nearestSettled s m args below meth c H locs 0 0 (MQ below (q_Ri D rr A ((fun k : (Nat → Int32) × (Nat → Int32) × (Nat → Int32) × (Nat → Int32) => (wX3_nearestSettled cI cJ cZ cS a_t a_queue a_callsTo a_firstCalled a_p1 a_p1_kinds a_p1_costs a_p1_terms a_p1_known k.1 k.2.1 k.2.2.1 v_p1_size v_p1_list v_p1_told v_p1_kinds v_p1_terms k.2.2.2)) kk')) args s 0 0 A) (F0 m 43 ls [])) : ∀ {v_queue : Nat → Int32} {v_callsTo : Nat → Int32} {v_firstCalled : Nat → Int32} {v_p1_known : Nat → Int32} {y3 : Int32} {y4 : Int32} {H : Heap} {locs : List Loc} {ls : Array Slot}, q_H D A s (wX3_nearestSettled cI cJ cZ cS a_t a_queue a_callsTo a_firstCalled a_p1 a_p1_kinds a_p1_costs a_p1_terms a_p1_known v_queue v_callsTo v_firstCalled v_p1_size v_p1_list v_p1_told v_p1_kinds v_p1_terms v_p1_known) H locs → lv_has ls 5 [(0, .ref a_t), (1, .ref a_p1), (3, .int y3), (4, .int y4)] → fX3_nearestSettled_43 v_p1_size v_p1_list v_p1_kinds v_p1_terms ag43 v_queue v_callsTo v_firstCalled v_p1_known y3 y4 = some (rr, kk') → W p l e rX3_nearestSettled s m args below meth c H locs 0 0 (MQ below (q_Ri D rr A ((fun k : (Nat → Int32) × (Nat → Int32) × (Nat → Int32) × (Nat → Int32) => (wX3_nearestSettled cI cJ cZ cS a_t a_queue a_callsTo a_firstCalled a_p1 a_p1_kinds a_p1_costs a_p1_terms a_p1_known k.1 k.2.1 k.2.2.1 v_p1_size v_p1_list v_p1_told v_p1_kinds v_p1_terms k.2.2.2)) kk')) args s 0 0 A) (F0 m 43 ls []) := by
  intro v_queue v_callsTo v_firstCalled v_p1_known y3 y4 H locs ls h hl hf
  have hx := fx.1
  have hb := fx.2.1
  unfold fX3_nearestSettled_43 at hf
  refine lv_iload hx hb dX3_nearestSettled_43 (lv_at hl 3 rfl) ?_
  refine lv_iload_n hx hb dX3_nearestSettled_45 rfl (lv_at hl 2 rfl) ?_
  refine lv_icmp_ge (tgt := 99) hx hb dX3_nearestSettled_46 (by decide) (fun c1 => ?_) (fun c1 => ?_)
  · have hf := it_t c1 hf
    refine lv_iconst (v := -1) hx hb dX3_nearestSettled_99 (by decide) ?_
    exact q_reti (fun k : (Nat → Int32) × (Nat → Int32) × (Nat → Int32) × (Nat → Int32) => (wX3_nearestSettled cI cJ cZ cS a_t a_queue a_callsTo a_firstCalled a_p1 a_p1_kinds a_p1_costs a_p1_terms a_p1_known k.1 k.2.1 k.2.2.1 v_p1_size v_p1_list v_p1_told v_p1_kinds v_p1_terms k.2.2.2)) fx hf h dX3_nearestSettled_100
  have hf := it_f c1 hf
  refine lv_iload hx hb dX3_nearestSettled_49 (lv_at hl 3 rfl) ?_
  refine lv_sipush (v := 256) hx hb dX3_nearestSettled_51 (by decide) ?_
  refine lv_icmp_ge (tgt := 99) hx hb dX3_nearestSettled_54 (by decide) (fun c2 => ?_) (fun c2 => ?_)
  · have hf := it_t c2 hf
    refine lv_iconst (v := -1) hx hb dX3_nearestSettled_99 (by decide) ?_
    exact q_reti (fun k : (Nat → Int32) × (Nat → Int32) × (Nat → Int32) × (Nat → Int32) => (wX3_nearestSettled cI cJ cZ cS a_t a_queue a_callsTo a_firstCalled a_p1 a_p1_kinds a_p1_costs a_p1_terms a_p1_known k.1 k.2.1 k.2.2.1 v_p1_size v_p1_list v_p1_told v_p1_kinds v_p1_terms k.2.2.2)) fx hf h dX3_nearestSettled_100
  have hf := it_f c2 hf
  refine lv_aload_n hx hb dX3_nearestSettled_57 rfl (lv_at hl 1 rfl) ?_
  refine lv_aload_n hx hb dX3_nearestSettled_58 rfl (lv_at hl 0 rfl) ?_
  refine q_get (v := .ref a_queue) fx inX3 h 0 rfl rfl 0 (by decide) k_144 rfl dX3_nearestSettled_59 ?_
  refine lv_iload hx hb dX3_nearestSettled_62 (lv_at hl 3 rfl) ?_
  obtain ⟨i3, hf⟩ := gIn_inv hf
  refine q_iald fx h 1 rfl i3 dX3_nearestSettled_64 ?_
  obtain ⟨r4, k4, hg, hf⟩ := bR_inv hf
  refine q_ci (rest := []) (ws' := (wX3_nearestSettled cI cJ cZ cS a_t a_queue a_callsTo a_firstCalled a_p1 a_p1_kinds a_p1_costs a_p1_terms a_p1_known v_queue v_callsTo v_firstCalled v_p1_size v_p1_list v_p1_told v_p1_kinds v_p1_terms k4)) (w1 := (wX0_isSettled cI cJ cZ cS a_p1 a_p1_kinds a_p1_costs a_p1_terms a_p1_known v_p1_size v_p1_list v_p1_told v_p1_kinds v_p1_terms k4)) fx h [4, 5, 6, 7] rfl rfl rfl rfl (q_runV fx h hl.1 [4, 5, 6, 7] rfl rfl (tX0_isSettled l D cI cJ cZ cS tb a_p1 a_p1_kinds a_p1_costs a_p1_terms a_p1_known H.size v_p1_size v_p1_list v_p1_told v_p1_kinds v_p1_terms v_p1_known (v_queue y4.toNatClampNeg) r4 k4 hg) mvX0_isSettled k_425 ⟨rfl, rfl⟩ ⟨Nat.le_of_ble_eq_true rfl, Nat.le_of_ble_eq_true rfl⟩ rfl rfl rfl rfl (Nat.le_of_ble_eq_true rfl) dX3_nearestSettled_65 ⟨Nat.le_of_ble_eq_true rfl, Nat.le_of_ble_eq_true rfl⟩) (fun H locs h => ?_)
  refine lv_if_eq (tgt := 79) hx hb dX3_nearestSettled_68 (by decide) (fun c5 => ?_) (fun c5 => ?_)
  · have hf := it_t c5 hf
    refine lv_aload_n hx hb dX3_nearestSettled_79 rfl (lv_at hl 0 rfl) ?_
    refine lv_aload_n hx hb dX3_nearestSettled_80 rfl (lv_at hl 1 rfl) ?_
    refine lv_aload_n hx hb dX3_nearestSettled_81 rfl (lv_at hl 0 rfl) ?_
    refine q_get (v := .ref a_queue) fx inX3 h 0 rfl rfl 0 (by decide) k_144 rfl dX3_nearestSettled_82 ?_
    refine lv_iload hx hb dX3_nearestSettled_85 (lv_at hl 3 rfl) ?_
    obtain ⟨i6, hf⟩ := gIn_inv hf
    refine q_iald fx h 1 rfl i6 dX3_nearestSettled_87 ?_
    refine lv_iload_n hx hb dX3_nearestSettled_88 rfl (lv_at hl 2 rfl) ?_
    obtain ⟨r7, k7, hg, hf⟩ := bR_inv hf
    refine q_ci (rest := []) (ws' := (wX3_nearestSettled cI cJ cZ cS a_t a_queue a_callsTo a_firstCalled a_p1 a_p1_kinds a_p1_costs a_p1_terms a_p1_known k7.1 k7.2.1 k7.2.2.1 v_p1_size v_p1_list v_p1_told v_p1_kinds v_p1_terms k7.2.2.2)) (w1 := (wX3_callAll cI cJ cZ cS a_t a_queue a_callsTo a_firstCalled a_p1 a_p1_kinds a_p1_costs a_p1_terms a_p1_known k7.1 k7.2.1 k7.2.2.1 v_p1_size v_p1_list v_p1_told v_p1_kinds v_p1_terms k7.2.2.2)) fx h [0, 1, 2, 3, 4, 5, 6, 7] rfl rfl rfl rfl (q_runV fx h hl.1 [0, 1, 2, 3, 4, 5, 6, 7] rfl rfl (tX3_callAll l D cI cJ cZ cS tb a_t a_queue a_callsTo a_firstCalled a_p1 a_p1_kinds a_p1_costs a_p1_terms a_p1_known H.size v_queue v_callsTo v_firstCalled v_p1_size v_p1_list v_p1_told v_p1_kinds v_p1_terms k4 (v_queue y4.toNatClampNeg) y3 r7 k7 hg) mvX3_callAll k_426 ⟨rfl, rfl⟩ ⟨Nat.le_of_ble_eq_true rfl, Nat.le_of_ble_eq_true rfl⟩ rfl rfl rfl rfl (Nat.le_of_ble_eq_true rfl) dX3_nearestSettled_89 ⟨Nat.le_of_ble_eq_true rfl, Nat.le_of_ble_eq_true rfl⟩) (fun H locs h => ?_)
    refine lv_istore_n (lv' := [(3, .int r7), (0, .ref a_t), (1, .ref a_p1), (4, .int y4)]) hx hb dX3_nearestSettled_92 rfl hl (by decide) rfl (fun ls hl => ?_)
    obtain ⟨u8, eu8, hf⟩ := nm_inv hf
    refine lv_iinc (v := u8) (lv' := [(4, .int u8), (3, .int r7), (0, .ref a_t), (1, .ref a_p1)]) hx hb dX3_nearestSettled_93 hl (k := 3) rfl (by rw [eu8]; rfl) (by decide) rfl (fun ls hl => ?_)
    refine lv_goto (tgt := 43) hx hb dX3_nearestSettled_96 (by decide) ?_
    exact hag43 h (lv_sub hl [2, 3, 1, 0] rfl) hf
  have hf := it_f c5 hf
  refine lv_aload_n hx hb dX3_nearestSettled_71 rfl (lv_at hl 0 rfl) ?_
  refine q_get (v := .ref a_queue) fx inX3 h 0 rfl rfl 0 (by decide) k_144 rfl dX3_nearestSettled_72 ?_
  refine lv_iload hx hb dX3_nearestSettled_75 (lv_at hl 3 rfl) ?_
  obtain ⟨i9, hf⟩ := gIn_inv hf
  refine q_iald fx h 1 rfl i9 dX3_nearestSettled_77 ?_
  exact q_reti (fun k : (Nat → Int32) × (Nat → Int32) × (Nat → Int32) × (Nat → Int32) => (wX3_nearestSettled cI cJ cZ cS a_t a_queue a_callsTo a_firstCalled a_p1 a_p1_kinds a_p1_costs a_p1_terms a_p1_known k.1 k.2.1 k.2.2.1 v_p1_size v_p1_list v_p1_told v_p1_kinds v_p1_terms k.2.2.2)) fx hf h dX3_nearestSettled_78
set_option maxRecDepth 100000 in
theorem EX3_nearestSettled_43 {p : Program} {l : Launch} {e : Env} {s : State} {m : MethodId} {args : Array Value} {below : List Frame} {meth : Method} {c : Code} {D : va_G} {cI cJ cZ cS : ClassId} {tb : Nat} {A : Nat → Prop} {a_t a_queue a_callsTo a_firstCalled a_p1 a_p1_kinds a_p1_costs a_p1_terms a_p1_known : Nat} {v_p1_size : Int32} {v_p1_list : Int32} {v_p1_told : Int32} {v_p1_kinds : Nat → Int32} {v_p1_terms : Nat → Int64} {rr : Int32} {kk' : (Nat → Int32) × (Nat → Int32) × (Nat → Int32) × (Nat → Int32)} (fx : q_Fx p s m args meth c cX3_nearestSettled 5 RX3 (some .int) D cI cJ cZ cS tb A) : ∀ (n : Nat), ∀ {v_queue : Nat → Int32} {v_callsTo : Nat → Int32} {v_firstCalled : Nat → Int32} {v_p1_known : Nat → Int32} {y3 : Int32} {y4 : Int32} {H : Heap} {locs : List Loc} {ls : Array Slot}, q_H D A s (wX3_nearestSettled cI cJ cZ cS a_t a_queue a_callsTo a_firstCalled a_p1 a_p1_kinds a_p1_costs a_p1_terms a_p1_known v_queue v_callsTo v_firstCalled v_p1_size v_p1_list v_p1_told v_p1_kinds v_p1_terms v_p1_known) H locs → lv_has ls 5 [(0, .ref a_t), (1, .ref a_p1), (3, .int y3), (4, .int y4)] → ll6 (fX3_nearestSettled_43 v_p1_size v_p1_list v_p1_kinds v_p1_terms) n v_queue v_callsTo v_firstCalled v_p1_known y3 y4 = some (rr, kk') → W p l e rX3_nearestSettled s m args below meth c H locs 0 0 (MQ below (q_Ri D rr A ((fun k : (Nat → Int32) × (Nat → Int32) × (Nat → Int32) × (Nat → Int32) => (wX3_nearestSettled cI cJ cZ cS a_t a_queue a_callsTo a_firstCalled a_p1 a_p1_kinds a_p1_costs a_p1_terms a_p1_known k.1 k.2.1 k.2.2.1 v_p1_size v_p1_list v_p1_told v_p1_kinds v_p1_terms k.2.2.2)) kk')) args s 0 0 A) (F0 m 43 ls []) := by
  intro n
  induction n with
  | zero => intro v_queue v_callsTo v_firstCalled v_p1_known y3 y4 H locs ls h hl hf; exact (ll6_z hf).elim
  | succ n ih => intro v_queue v_callsTo v_firstCalled v_p1_known y3 y4 H locs ls h hl hf; exact LX3_nearestSettled_43 fx ih h hl (ll6_s hf)
def fX3_nearestSettled (v_queue : Nat → Int32) (v_callsTo : Nat → Int32) (v_firstCalled : Nat → Int32) (v_p1_size : Int32) (v_p1_list : Int32) (v_p1_kinds : Nat → Int32) (v_p1_terms : Nat → Int64) (v_p1_known : Nat → Int32) : Option (Int32 × (Nat → Int32) × (Nat → Int32) × (Nat → Int32) × (Nat → Int32)) :=
  bV (fJ7_fill_53178 256 v_callsTo (-1)) (fun k10 =>
  nm (v_p1_list &&& 255) (fun u11 =>
  gIn u11 256 (
  gIn u11 256 (
  ll6 (fX3_nearestSettled_43 v_p1_size v_p1_list v_p1_kinds v_p1_terms) qF (upd v_queue 0 u11) (upd k10 u11.toNatClampNeg 0) (upd v_firstCalled u11.toNatClampNeg (-1)) v_p1_known 1 0))))
set_option maxRecDepth 100000 in
set_option maxHeartbeats 4000000 in
theorem tX3_nearestSettled (l : Launch) (D : va_G) (cI cJ cZ cS : ClassId) (tb : Nat) (a_t a_queue a_callsTo a_firstCalled a_p1 a_p1_kinds a_p1_costs a_p1_terms a_p1_known : Nat) (sz : Nat) (v_queue : Nat → Int32) (v_callsTo : Nat → Int32) (v_firstCalled : Nat → Int32) (v_p1_size : Int32) (v_p1_list : Int32) (v_p1_told : Int32) (v_p1_kinds : Nat → Int32) (v_p1_terms : Nat → Int64) (v_p1_known : Nat → Int32) (rr : Int32) (kk' : (Nat → Int32) × (Nat → Int32) × (Nat → Int32) × (Nat → Int32)) (hf : fX3_nearestSettled v_queue v_callsTo v_firstCalled v_p1_size v_p1_list v_p1_kinds v_p1_terms v_p1_known = some (rr, kk')) : Met l yX3_nearestSettled (Cond.code yX3_nearestSettled cX3_nearestSettled 5 (some .int) :: wA) rX3_nearestSettled (q_Pre D cI cJ cZ cS tb [.ref a_t, .ref a_p1] sz (wX3_nearestSettled cI cJ cZ cS a_t a_queue a_callsTo a_firstCalled a_p1 a_p1_kinds a_p1_costs a_p1_terms a_p1_known v_queue v_callsTo v_firstCalled v_p1_size v_p1_list v_p1_told v_p1_kinds v_p1_terms v_p1_known)) (q_Ri D rr (va_A (wX3_nearestSettled cI cJ cZ cS a_t a_queue a_callsTo a_firstCalled a_p1 a_p1_kinds a_p1_costs a_p1_terms a_p1_known v_queue v_callsTo v_firstCalled v_p1_size v_p1_list v_p1_told v_p1_kinds v_p1_terms v_p1_known) sz) ((fun k : (Nat → Int32) × (Nat → Int32) × (Nat → Int32) × (Nat → Int32) => (wX3_nearestSettled cI cJ cZ cS a_t a_queue a_callsTo a_firstCalled a_p1 a_p1_kinds a_p1_costs a_p1_terms a_p1_known k.1 k.2.1 k.2.2.1 v_p1_size v_p1_list v_p1_told v_p1_kinds v_p1_terms k.2.2.2)) kk')) 0 0 (va_A (wX3_nearestSettled cI cJ cZ cS a_t a_queue a_callsTo a_firstCalled a_p1 a_p1_kinds a_p1_costs a_p1_terms a_p1_known v_queue v_callsTo v_firstCalled v_p1_size v_p1_list v_p1_told v_p1_kinds v_p1_terms v_p1_known) sz) := by
  refine q_enter (Qf := fun A => (q_Ri D rr A ((fun k : (Nat → Int32) × (Nat → Int32) × (Nat → Int32) × (Nat → Int32) => (wX3_nearestSettled cI cJ cZ cS a_t a_queue a_callsTo a_firstCalled a_p1 a_p1_kinds a_p1_costs a_p1_terms a_p1_known k.1 k.2.1 k.2.2.1 v_p1_size v_p1_list v_p1_told v_p1_kinds v_p1_terms k.2.2.2)) kk'))) (by decide) rfl (Nat.le_of_ble_eq_true rfl) ?_
  intro p e s m below meth c A ls fx hname h hl
  have hx := fx.1
  have hb := fx.2.1
  have hl : lv_has ls 5 [(0, .ref a_t), (1, .ref a_p1)] := hl
  generalize h9 : s.heap = H at h ⊢
  clear h9
  generalize h9 : ([] : List Loc) = locs at h ⊢
  clear h9
  unfold fX3_nearestSettled at hf
  refine lv_aload_n hx hb dX3_nearestSettled_0 rfl (lv_at hl 0 rfl) ?_
  refine q_get (v := .ref a_callsTo) fx inX3 h 0 rfl rfl 1 (by decide) k_145 rfl dX3_nearestSettled_1 ?_
  refine lv_iconst (v := -1) hx hb dX3_nearestSettled_4 (by decide) ?_
  obtain ⟨k10, hg, hf⟩ := bV_inv hf
  refine q_cv (rest := []) (ws' := (wX3_nearestSettled cI cJ cZ cS a_t a_queue a_callsTo a_firstCalled a_p1 a_p1_kinds a_p1_costs a_p1_terms a_p1_known v_queue k10 v_firstCalled v_p1_size v_p1_list v_p1_told v_p1_kinds v_p1_terms v_p1_known)) (w1 := (wJ7_fill_53178 cI cJ cZ cS 256 a_callsTo k10)) fx h [2] rfl rfl rfl rfl (q_runS fx h hl.1 [2] rfl rfl (tJ7_fill_53178 l D cI cJ cZ cS tb 256 a_callsTo H.size v_callsTo (-1) k10 hg) msJ7_fill_53178 k_424 ⟨rfl, rfl⟩ ⟨Nat.le_of_ble_eq_true rfl, Nat.le_of_ble_eq_true rfl⟩ rfl rfl (Nat.le_of_ble_eq_true rfl) dX3_nearestSettled_5 ⟨Nat.le_of_ble_eq_true rfl, Nat.le_of_ble_eq_true rfl⟩) (fun H locs h => ?_)
  refine lv_aload_n hx hb dX3_nearestSettled_8 rfl (lv_at hl 1 rfl) ?_
  refine q_getN (v := .int v_p1_list) fx inX0 h 4 rfl rfl 1 (by decide) nf_2 rfl dX3_nearestSettled_9 ?_
  refine lv_sipush (v := 255) hx hb dX3_nearestSettled_12 (by decide) ?_
  refine lv_iand hx hb dX3_nearestSettled_15 ?_
  obtain ⟨u11, eu11, hf⟩ := nm_inv hf
  refine lv_eqi eu11 ?_
  refine lv_istore_n (lv' := [(2, .int u11), (0, .ref a_t), (1, .ref a_p1)]) hx hb dX3_nearestSettled_16 rfl hl (by decide) rfl (fun ls hl => ?_)
  refine lv_aload_n hx hb dX3_nearestSettled_17 rfl (lv_at hl 1 rfl) ?_
  refine q_get (v := .ref a_queue) fx inX3 h 0 rfl rfl 0 (by decide) k_144 rfl dX3_nearestSettled_18 ?_
  refine lv_iconst (v := 0) hx hb dX3_nearestSettled_21 (by decide) ?_
  refine lv_iload_n hx hb dX3_nearestSettled_22 rfl (lv_at hl 0 rfl) ?_
  refine q_iastK (ws' := (wX3_nearestSettled cI cJ cZ cS a_t a_queue a_callsTo a_firstCalled a_p1 a_p1_kinds a_p1_costs a_p1_terms a_p1_known (upd v_queue 0 u11) k10 v_firstCalled v_p1_size v_p1_list v_p1_told v_p1_kinds v_p1_terms v_p1_known)) fx h 1 rfl 0 (vinK (by decide)) (by decide) rfl dX3_nearestSettled_23 (fun H locs h => ?_)
  refine lv_aload_n hx hb dX3_nearestSettled_24 rfl (lv_at hl 1 rfl) ?_
  refine q_get (v := .ref a_callsTo) fx inX3 h 0 rfl rfl 1 (by decide) k_145 rfl dX3_nearestSettled_25 ?_
  refine lv_iload_n hx hb dX3_nearestSettled_28 rfl (lv_at hl 0 rfl) ?_
  refine lv_iconst (v := 0) hx hb dX3_nearestSettled_29 (by decide) ?_
  obtain ⟨i12, hf⟩ := gIn_inv hf
  refine q_iast (ws' := (wX3_nearestSettled cI cJ cZ cS a_t a_queue a_callsTo a_firstCalled a_p1 a_p1_kinds a_p1_costs a_p1_terms a_p1_known (upd v_queue 0 u11) (upd k10 u11.toNatClampNeg 0) v_firstCalled v_p1_size v_p1_list v_p1_told v_p1_kinds v_p1_terms v_p1_known)) fx h 2 rfl i12 rfl dX3_nearestSettled_30 (fun H locs h => ?_)
  refine lv_aload_n hx hb dX3_nearestSettled_31 rfl (lv_at hl 1 rfl) ?_
  refine q_get (v := .ref a_firstCalled) fx inX3 h 0 rfl rfl 2 (by decide) k_146 rfl dX3_nearestSettled_32 ?_
  refine lv_iload_n hx hb dX3_nearestSettled_35 rfl (lv_at hl 0 rfl) ?_
  refine lv_iconst (v := -1) hx hb dX3_nearestSettled_36 (by decide) ?_
  obtain ⟨i13, hf⟩ := gIn_inv hf
  refine q_iast (ws' := (wX3_nearestSettled cI cJ cZ cS a_t a_queue a_callsTo a_firstCalled a_p1 a_p1_kinds a_p1_costs a_p1_terms a_p1_known (upd v_queue 0 u11) (upd k10 u11.toNatClampNeg 0) (upd v_firstCalled u11.toNatClampNeg (-1)) v_p1_size v_p1_list v_p1_told v_p1_kinds v_p1_terms v_p1_known)) fx h 3 rfl i13 rfl dX3_nearestSettled_37 (fun H locs h => ?_)
  refine lv_iconst (v := 1) hx hb dX3_nearestSettled_38 (by decide) ?_
  refine lv_istore_n (lv' := [(3, .int 1), (2, .int u11), (0, .ref a_t), (1, .ref a_p1)]) hx hb dX3_nearestSettled_39 rfl hl (by decide) rfl (fun ls hl => ?_)
  refine lv_iconst (v := 0) hx hb dX3_nearestSettled_40 (by decide) ?_
  refine lv_istore (lv' := [(4, .int 0), (3, .int 1), (2, .int u11), (0, .ref a_t), (1, .ref a_p1)]) hx hb dX3_nearestSettled_41 hl (by decide) rfl (fun ls hl => ?_)
  exact EX3_nearestSettled_43 fx qF h (lv_sub hl [3, 4, 1, 0] rfl) hf
/-! X3_callsTo -/
abbrev wX3_callsTo (cI cJ cZ cS : ClassId) (a_t a_queue a_callsTo a_firstCalled : Nat) (v_callsTo : Nat → Int32) : va_W := [(a_t, .inr (3, [.ref a_queue, .ref a_callsTo, .ref a_firstCalled])), (a_callsTo, .inl (cI, 256, .inl v_callsTo))]
abbrev rX3_callsTo : Room := { frames := 0, cells := 0, slots := 0, locals := 0 }
def fX3_callsTo (v_callsTo : Nat → Int32) (x1 : Int32) : Option (Int32 × Unit) :=
  gIn (x1 &&& 255) 256 (
  some (v_callsTo (x1 &&& 255).toNatClampNeg, ()))
set_option maxRecDepth 100000 in
set_option maxHeartbeats 4000000 in
theorem tX3_callsTo (l : Launch) (D : va_G) (cI cJ cZ cS : ClassId) (tb : Nat) (a_t a_queue a_callsTo a_firstCalled : Nat) (sz : Nat) (v_callsTo : Nat → Int32) (x1 : Int32) (rr : Int32) (kk' : Unit) (hf : fX3_callsTo v_callsTo x1 = some (rr, kk')) : Met l yX3_callsTo (Cond.code yX3_callsTo cX3_callsTo 2 (some .int) :: wA) rX3_callsTo (q_Pre D cI cJ cZ cS tb [.ref a_t, .int x1] sz (wX3_callsTo cI cJ cZ cS a_t a_queue a_callsTo a_firstCalled v_callsTo)) (q_Ri D rr (va_A (wX3_callsTo cI cJ cZ cS a_t a_queue a_callsTo a_firstCalled v_callsTo) sz) ((fun k : Unit => (wX3_callsTo cI cJ cZ cS a_t a_queue a_callsTo a_firstCalled v_callsTo)) kk')) 0 0 (va_A (wX3_callsTo cI cJ cZ cS a_t a_queue a_callsTo a_firstCalled v_callsTo) sz) := by
  refine q_enter (Qf := fun A => (q_Ri D rr A ((fun k : Unit => (wX3_callsTo cI cJ cZ cS a_t a_queue a_callsTo a_firstCalled v_callsTo)) kk'))) (by decide) rfl (Nat.le_of_ble_eq_true rfl) ?_
  intro p e s m below meth c A ls fx hname h hl
  have hx := fx.1
  have hb := fx.2.1
  have hl : lv_has ls 2 [(0, .ref a_t), (1, .int x1)] := hl
  generalize h9 : s.heap = H at h ⊢
  clear h9
  generalize h9 : ([] : List Loc) = locs at h ⊢
  clear h9
  unfold fX3_callsTo at hf
  refine lv_aload_n hx hb dX3_callsTo_0 rfl (lv_at hl 0 rfl) ?_
  refine q_get (v := .ref a_callsTo) fx inX3 h 0 rfl rfl 1 (by decide) k_145 rfl dX3_callsTo_1 ?_
  refine lv_iload_n hx hb dX3_callsTo_4 rfl (lv_at hl 1 rfl) ?_
  refine lv_sipush (v := 255) hx hb dX3_callsTo_5 (by decide) ?_
  refine lv_iand hx hb dX3_callsTo_8 ?_
  obtain ⟨i1, hf⟩ := gIn_inv hf
  refine q_iald fx h 1 rfl i1 dX3_callsTo_9 ?_
  exact q_reti (fun k : Unit => (wX3_callsTo cI cJ cZ cS a_t a_queue a_callsTo a_firstCalled v_callsTo)) fx hf h dX3_callsTo_10
/-! X4_fewest -/
abbrev wX4_fewest (cI cJ cZ cS : ClassId) (a_t a_party a_party_kinds a_party_costs a_party_terms a_party_known a_kept a_tape a_telephone a_telephone_queue a_telephone_callsTo a_telephone_firstCalled a_sheets a_findings : Nat) (v_isKept : Int32) (v_party_size : Int32) (v_party_list : Int32) (v_party_told : Int32) (v_party_kinds : Nat → Int32) (v_party_terms : Nat → Int64) (v_party_known : Nat → Int32) (v_telephone_queue : Nat → Int32) (v_telephone_callsTo : Nat → Int32) (v_telephone_firstCalled : Nat → Int32) (v_findings : Nat → Int32) : va_W := [(a_t, .inr (4, [.ref a_party, .ref a_kept, .int v_isKept, .ref a_tape, .ref a_telephone, .ref a_sheets, .ref a_findings])), (a_party, .inr (0, [.int v_party_size, .int v_party_list, .int v_party_told, .ref a_party_kinds, .ref a_party_costs, .ref a_party_terms, .ref a_party_known])), (a_party_kinds, .inl (cI, 8, .inl v_party_kinds)), (a_party_terms, .inl (cJ, 32, .inr (.inl v_party_terms))), (a_party_known, .inl (cI, 256, .inl v_party_known)), (a_telephone, .inr (3, [.ref a_telephone_queue, .ref a_telephone_callsTo, .ref a_telephone_firstCalled])), (a_telephone_queue, .inl (cI, 256, .inl v_telephone_queue)), (a_telephone_callsTo, .inl (cI, 256, .inl v_telephone_callsTo)), (a_telephone_firstCalled, .inl (cI, 256, .inl v_telephone_firstCalled)), (a_findings, .inl (cI, 7, .inl v_findings))]
abbrev rX4_fewest : Room := { frames := 7, cells := 0, slots := 0, locals := 162 }
def fX4_fewest (v_party_size : Int32) (v_party_list : Int32) (v_party_kinds : Nat → Int32) (v_party_terms : Nat → Int64) (v_party_known : Nat → Int32) (v_telephone_queue : Nat → Int32) (v_telephone_callsTo : Nat → Int32) (v_telephone_firstCalled : Nat → Int32) (v_findings : Nat → Int32) : Option (Int32 × (Nat → Int32) × (Nat → Int32) × (Nat → Int32) × (Nat → Int32) × (Nat → Int32)) :=
  bR (fX3_nearestSettled v_telephone_queue v_telephone_callsTo v_telephone_firstCalled v_party_size v_party_list v_party_kinds v_party_terms v_party_known) (fun r1 k1 =>
  (if (0 : Int32) ≤ r1 then (
  bR (fX3_callsTo k1.2.1 r1) (fun r3 k3 =>
  some (r3, (k1.2.2.2, k1.1, k1.2.1, k1.2.2.1, v_findings))))
  else (
  bR (fX4_found v_findings (-1000000004)) (fun r4 k4 =>
  some (r4, (k1.2.2.2, k1.1, k1.2.1, k1.2.2.1, k4))))))
set_option maxRecDepth 100000 in
set_option maxHeartbeats 4000000 in
theorem tX4_fewest (l : Launch) (D : va_G) (cI cJ cZ cS : ClassId) (tb : Nat) (a_t a_party a_party_kinds a_party_costs a_party_terms a_party_known a_kept a_tape a_telephone a_telephone_queue a_telephone_callsTo a_telephone_firstCalled a_sheets a_findings : Nat) (sz : Nat) (v_isKept : Int32) (v_party_size : Int32) (v_party_list : Int32) (v_party_told : Int32) (v_party_kinds : Nat → Int32) (v_party_terms : Nat → Int64) (v_party_known : Nat → Int32) (v_telephone_queue : Nat → Int32) (v_telephone_callsTo : Nat → Int32) (v_telephone_firstCalled : Nat → Int32) (v_findings : Nat → Int32) (rr : Int32) (kk' : (Nat → Int32) × (Nat → Int32) × (Nat → Int32) × (Nat → Int32) × (Nat → Int32)) (hf : fX4_fewest v_party_size v_party_list v_party_kinds v_party_terms v_party_known v_telephone_queue v_telephone_callsTo v_telephone_firstCalled v_findings = some (rr, kk')) : Met l yX4_fewest (Cond.code yX4_fewest cX4_fewest 2 (some .int) :: wA) rX4_fewest (q_Pre D cI cJ cZ cS tb [.ref a_t] sz (wX4_fewest cI cJ cZ cS a_t a_party a_party_kinds a_party_costs a_party_terms a_party_known a_kept a_tape a_telephone a_telephone_queue a_telephone_callsTo a_telephone_firstCalled a_sheets a_findings v_isKept v_party_size v_party_list v_party_told v_party_kinds v_party_terms v_party_known v_telephone_queue v_telephone_callsTo v_telephone_firstCalled v_findings)) (q_Ri D rr (va_A (wX4_fewest cI cJ cZ cS a_t a_party a_party_kinds a_party_costs a_party_terms a_party_known a_kept a_tape a_telephone a_telephone_queue a_telephone_callsTo a_telephone_firstCalled a_sheets a_findings v_isKept v_party_size v_party_list v_party_told v_party_kinds v_party_terms v_party_known v_telephone_queue v_telephone_callsTo v_telephone_firstCalled v_findings) sz) ((fun k : (Nat → Int32) × (Nat → Int32) × (Nat → Int32) × (Nat → Int32) × (Nat → Int32) => (wX4_fewest cI cJ cZ cS a_t a_party a_party_kinds a_party_costs a_party_terms a_party_known a_kept a_tape a_telephone a_telephone_queue a_telephone_callsTo a_telephone_firstCalled a_sheets a_findings v_isKept v_party_size v_party_list v_party_told v_party_kinds v_party_terms k.1 k.2.1 k.2.2.1 k.2.2.2.1 k.2.2.2.2)) kk')) 0 0 (va_A (wX4_fewest cI cJ cZ cS a_t a_party a_party_kinds a_party_costs a_party_terms a_party_known a_kept a_tape a_telephone a_telephone_queue a_telephone_callsTo a_telephone_firstCalled a_sheets a_findings v_isKept v_party_size v_party_list v_party_told v_party_kinds v_party_terms v_party_known v_telephone_queue v_telephone_callsTo v_telephone_firstCalled v_findings) sz) := by
  refine q_enter (Qf := fun A => (q_Ri D rr A ((fun k : (Nat → Int32) × (Nat → Int32) × (Nat → Int32) × (Nat → Int32) × (Nat → Int32) => (wX4_fewest cI cJ cZ cS a_t a_party a_party_kinds a_party_costs a_party_terms a_party_known a_kept a_tape a_telephone a_telephone_queue a_telephone_callsTo a_telephone_firstCalled a_sheets a_findings v_isKept v_party_size v_party_list v_party_told v_party_kinds v_party_terms k.1 k.2.1 k.2.2.1 k.2.2.2.1 k.2.2.2.2)) kk'))) (by decide) rfl (Nat.le_of_ble_eq_true rfl) ?_
  intro p e s m below meth c A ls fx hname h hl
  have hx := fx.1
  have hb := fx.2.1
  have hl : lv_has ls 2 [(0, .ref a_t)] := hl
  generalize h9 : s.heap = H at h ⊢
  clear h9
  generalize h9 : ([] : List Loc) = locs at h ⊢
  clear h9
  unfold fX4_fewest at hf
  refine lv_aload_n hx hb dX4_fewest_0 rfl (lv_at hl 0 rfl) ?_
  refine q_get (v := .ref a_telephone) fx inX4 h 0 rfl rfl 4 (by decide) k_178 rfl dX4_fewest_1 ?_
  refine lv_aload_n hx hb dX4_fewest_4 rfl (lv_at hl 0 rfl) ?_
  refine q_get (v := .ref a_party) fx inX4 h 0 rfl rfl 0 (by decide) k_174 rfl dX4_fewest_5 ?_
  obtain ⟨r1, k1, hg, hf⟩ := bR_inv hf
  refine q_ci (rest := []) (ws' := (wX4_fewest cI cJ cZ cS a_t a_party a_party_kinds a_party_costs a_party_terms a_party_known a_kept a_tape a_telephone a_telephone_queue a_telephone_callsTo a_telephone_firstCalled a_sheets a_findings v_isKept v_party_size v_party_list v_party_told v_party_kinds v_party_terms k1.2.2.2 k1.1 k1.2.1 k1.2.2.1 v_findings)) (w1 := (wX3_nearestSettled cI cJ cZ cS a_telephone a_telephone_queue a_telephone_callsTo a_telephone_firstCalled a_party a_party_kinds a_party_costs a_party_terms a_party_known k1.1 k1.2.1 k1.2.2.1 v_party_size v_party_list v_party_told v_party_kinds v_party_terms k1.2.2.2)) fx h [5, 6, 7, 8, 1, 2, 3, 4] rfl rfl rfl rfl (q_runV fx h hl.1 [5, 6, 7, 8, 1, 2, 3, 4] rfl rfl (tX3_nearestSettled l D cI cJ cZ cS tb a_telephone a_telephone_queue a_telephone_callsTo a_telephone_firstCalled a_party a_party_kinds a_party_costs a_party_terms a_party_known H.size v_telephone_queue v_telephone_callsTo v_telephone_firstCalled v_party_size v_party_list v_party_told v_party_kinds v_party_terms v_party_known r1 k1 hg) mvX3_nearestSettled k_420 ⟨rfl, rfl⟩ ⟨Nat.le_of_ble_eq_true rfl, Nat.le_of_ble_eq_true rfl⟩ rfl rfl rfl rfl (Nat.le_of_ble_eq_true rfl) dX4_fewest_8 ⟨Nat.le_of_ble_eq_true rfl, Nat.le_of_ble_eq_true rfl⟩) (fun H locs h => ?_)
  refine lv_istore_n (lv' := [(1, .int r1), (0, .ref a_t)]) hx hb dX4_fewest_11 rfl hl (by decide) rfl (fun ls hl => ?_)
  refine lv_iload_n hx hb dX4_fewest_12 rfl (lv_at hl 0 rfl) ?_
  refine lv_if_ge (tgt := 25) hx hb dX4_fewest_13 (by decide) (fun c2 => ?_) (fun c2 => ?_)
  · have hf := it_t c2 hf
    refine lv_aload_n hx hb dX4_fewest_25 rfl (lv_at hl 1 rfl) ?_
    refine q_get (v := .ref a_telephone) fx inX4 h 0 rfl rfl 4 (by decide) k_178 rfl dX4_fewest_26 ?_
    refine lv_iload_n hx hb dX4_fewest_29 rfl (lv_at hl 0 rfl) ?_
    obtain ⟨r3, k3, hg, hf⟩ := bR_inv hf
    refine q_ci (rest := []) (ws' := (wX4_fewest cI cJ cZ cS a_t a_party a_party_kinds a_party_costs a_party_terms a_party_known a_kept a_tape a_telephone a_telephone_queue a_telephone_callsTo a_telephone_firstCalled a_sheets a_findings v_isKept v_party_size v_party_list v_party_told v_party_kinds v_party_terms k1.2.2.2 k1.1 k1.2.1 k1.2.2.1 v_findings)) (w1 := (wX3_callsTo cI cJ cZ cS a_telephone a_telephone_queue a_telephone_callsTo a_telephone_firstCalled k1.2.1)) fx h [5, 7] rfl rfl rfl rfl (q_runV fx h hl.1 [5, 7] rfl rfl (tX3_callsTo l D cI cJ cZ cS tb a_telephone a_telephone_queue a_telephone_callsTo a_telephone_firstCalled H.size k1.2.1 r1 r3 k3 hg) mvX3_callsTo k_431 ⟨rfl, rfl⟩ ⟨Nat.le_of_ble_eq_true rfl, Nat.le_of_ble_eq_true rfl⟩ rfl rfl rfl rfl (Nat.le_of_ble_eq_true rfl) dX4_fewest_30 ⟨Nat.le_of_ble_eq_true rfl, Nat.le_of_ble_eq_true rfl⟩) (fun H locs h => ?_)
    exact q_reti (fun k : (Nat → Int32) × (Nat → Int32) × (Nat → Int32) × (Nat → Int32) × (Nat → Int32) => (wX4_fewest cI cJ cZ cS a_t a_party a_party_kinds a_party_costs a_party_terms a_party_known a_kept a_tape a_telephone a_telephone_queue a_telephone_callsTo a_telephone_firstCalled a_sheets a_findings v_isKept v_party_size v_party_list v_party_told v_party_kinds v_party_terms k.1 k.2.1 k.2.2.1 k.2.2.2.1 k.2.2.2.2)) fx hf h dX4_fewest_33
  have hf := it_f c2 hf
  refine lv_aload_n hx hb dX4_fewest_16 rfl (lv_at hl 1 rfl) ?_
  refine q_ldc fx k_402 dX4_fewest_17 ?_
  obtain ⟨r4, k4, hg, hf⟩ := bR_inv hf
  refine q_ci (rest := []) (ws' := (wX4_fewest cI cJ cZ cS a_t a_party a_party_kinds a_party_costs a_party_terms a_party_known a_kept a_tape a_telephone a_telephone_queue a_telephone_callsTo a_telephone_firstCalled a_sheets a_findings v_isKept v_party_size v_party_list v_party_told v_party_kinds v_party_terms k1.2.2.2 k1.1 k1.2.1 k1.2.2.1 k4)) (w1 := (wX4_found cI cJ cZ cS a_t a_party a_kept a_tape a_telephone a_sheets a_findings v_isKept k4)) fx h [0, 9] rfl rfl rfl rfl (q_runV fx h hl.1 [0, 9] rfl rfl (tX4_found l D cI cJ cZ cS tb a_t a_party a_kept a_tape a_telephone a_sheets a_findings H.size v_isKept v_findings (-1000000004) r4 k4 hg) mvX4_found k_207 ⟨rfl, rfl⟩ ⟨Nat.le_of_ble_eq_true rfl, Nat.le_of_ble_eq_true rfl⟩ rfl rfl rfl rfl (Nat.le_of_ble_eq_true rfl) dX4_fewest_19 ⟨Nat.le_of_ble_eq_true rfl, Nat.le_of_ble_eq_true rfl⟩) (fun H locs h => ?_)
  refine lv_goto (tgt := 33) hx hb dX4_fewest_22 (by decide) ?_
  exact q_reti (fun k : (Nat → Int32) × (Nat → Int32) × (Nat → Int32) × (Nat → Int32) × (Nat → Int32) => (wX4_fewest cI cJ cZ cS a_t a_party a_party_kinds a_party_costs a_party_terms a_party_known a_kept a_tape a_telephone a_telephone_queue a_telephone_callsTo a_telephone_firstCalled a_sheets a_findings v_isKept v_party_size v_party_list v_party_told v_party_kinds v_party_terms k.1 k.2.1 k.2.2.1 k.2.2.2.1 k.2.2.2.2)) fx hf h dX4_fewest_33
/-! X3_firstCalledTo -/
abbrev wX3_firstCalledTo (cI cJ cZ cS : ClassId) (a_t a_queue a_callsTo a_firstCalled : Nat) (v_firstCalled : Nat → Int32) : va_W := [(a_t, .inr (3, [.ref a_queue, .ref a_callsTo, .ref a_firstCalled])), (a_firstCalled, .inl (cI, 256, .inl v_firstCalled))]
abbrev rX3_firstCalledTo : Room := { frames := 0, cells := 0, slots := 0, locals := 0 }
def fX3_firstCalledTo (v_firstCalled : Nat → Int32) (x1 : Int32) : Option (Int32 × Unit) :=
  gIn (x1 &&& 255) 256 (
  some (v_firstCalled (x1 &&& 255).toNatClampNeg, ()))
set_option maxRecDepth 100000 in
set_option maxHeartbeats 4000000 in
theorem tX3_firstCalledTo (l : Launch) (D : va_G) (cI cJ cZ cS : ClassId) (tb : Nat) (a_t a_queue a_callsTo a_firstCalled : Nat) (sz : Nat) (v_firstCalled : Nat → Int32) (x1 : Int32) (rr : Int32) (kk' : Unit) (hf : fX3_firstCalledTo v_firstCalled x1 = some (rr, kk')) : Met l yX3_firstCalledTo (Cond.code yX3_firstCalledTo cX3_firstCalledTo 2 (some .int) :: wA) rX3_firstCalledTo (q_Pre D cI cJ cZ cS tb [.ref a_t, .int x1] sz (wX3_firstCalledTo cI cJ cZ cS a_t a_queue a_callsTo a_firstCalled v_firstCalled)) (q_Ri D rr (va_A (wX3_firstCalledTo cI cJ cZ cS a_t a_queue a_callsTo a_firstCalled v_firstCalled) sz) ((fun k : Unit => (wX3_firstCalledTo cI cJ cZ cS a_t a_queue a_callsTo a_firstCalled v_firstCalled)) kk')) 0 0 (va_A (wX3_firstCalledTo cI cJ cZ cS a_t a_queue a_callsTo a_firstCalled v_firstCalled) sz) := by
  refine q_enter (Qf := fun A => (q_Ri D rr A ((fun k : Unit => (wX3_firstCalledTo cI cJ cZ cS a_t a_queue a_callsTo a_firstCalled v_firstCalled)) kk'))) (by decide) rfl (Nat.le_of_ble_eq_true rfl) ?_
  intro p e s m below meth c A ls fx hname h hl
  have hx := fx.1
  have hb := fx.2.1
  have hl : lv_has ls 2 [(0, .ref a_t), (1, .int x1)] := hl
  generalize h9 : s.heap = H at h ⊢
  clear h9
  generalize h9 : ([] : List Loc) = locs at h ⊢
  clear h9
  unfold fX3_firstCalledTo at hf
  refine lv_aload_n hx hb dX3_firstCalledTo_0 rfl (lv_at hl 0 rfl) ?_
  refine q_get (v := .ref a_firstCalled) fx inX3 h 0 rfl rfl 2 (by decide) k_146 rfl dX3_firstCalledTo_1 ?_
  refine lv_iload_n hx hb dX3_firstCalledTo_4 rfl (lv_at hl 1 rfl) ?_
  refine lv_sipush (v := 255) hx hb dX3_firstCalledTo_5 (by decide) ?_
  refine lv_iand hx hb dX3_firstCalledTo_8 ?_
  obtain ⟨i1, hf⟩ := gIn_inv hf
  refine q_iald fx h 1 rfl i1 dX3_firstCalledTo_9 ?_
  exact q_reti (fun k : Unit => (wX3_firstCalledTo cI cJ cZ cS a_t a_queue a_callsTo a_firstCalled v_firstCalled)) fx hf h dX3_firstCalledTo_10
/-! X4_first -/
abbrev wX4_first (cI cJ cZ cS : ClassId) (a_t a_party a_party_kinds a_party_costs a_party_terms a_party_known a_kept a_tape a_telephone a_telephone_queue a_telephone_callsTo a_telephone_firstCalled a_sheets a_findings : Nat) (v_isKept : Int32) (v_party_size : Int32) (v_party_list : Int32) (v_party_told : Int32) (v_party_kinds : Nat → Int32) (v_party_terms : Nat → Int64) (v_party_known : Nat → Int32) (v_telephone_queue : Nat → Int32) (v_telephone_callsTo : Nat → Int32) (v_telephone_firstCalled : Nat → Int32) (v_findings : Nat → Int32) : va_W := [(a_t, .inr (4, [.ref a_party, .ref a_kept, .int v_isKept, .ref a_tape, .ref a_telephone, .ref a_sheets, .ref a_findings])), (a_party, .inr (0, [.int v_party_size, .int v_party_list, .int v_party_told, .ref a_party_kinds, .ref a_party_costs, .ref a_party_terms, .ref a_party_known])), (a_party_kinds, .inl (cI, 8, .inl v_party_kinds)), (a_party_terms, .inl (cJ, 32, .inr (.inl v_party_terms))), (a_party_known, .inl (cI, 256, .inl v_party_known)), (a_telephone, .inr (3, [.ref a_telephone_queue, .ref a_telephone_callsTo, .ref a_telephone_firstCalled])), (a_telephone_queue, .inl (cI, 256, .inl v_telephone_queue)), (a_telephone_callsTo, .inl (cI, 256, .inl v_telephone_callsTo)), (a_telephone_firstCalled, .inl (cI, 256, .inl v_telephone_firstCalled)), (a_findings, .inl (cI, 7, .inl v_findings))]
abbrev rX4_first : Room := { frames := 7, cells := 0, slots := 0, locals := 162 }
def fX4_first_28 (v_party_size : Int32) (v_party_list : Int32) (v_party_kinds : Nat → Int32) (v_party_terms : Nat → Int64) (v_party_known : Nat → Int32) (v_telephone_queue : Nat → Int32) (v_telephone_callsTo : Nat → Int32) (v_telephone_firstCalled : Nat → Int32) (v_findings : Nat → Int32) (s0 : Int32) : Option (Int32 × (Nat → Int32) × (Nat → Int32) × (Nat → Int32) × (Nat → Int32) × (Nat → Int32)) :=
  (if (0 : Int32) ≤ s0 then (
  some (s0, (v_party_known, v_telephone_queue, v_telephone_callsTo, v_telephone_firstCalled, v_findings)))
  else (
  bR (fX4_found v_findings (-1000000004)) (fun r2 k2 =>
  some (r2, (v_party_known, v_telephone_queue, v_telephone_callsTo, v_telephone_firstCalled, k2)))))
set_option maxRecDepth 100000 in
set_option maxHeartbeats 4000000 in
theorem LX4_first_28 {p : Program} {l : Launch} {e : Env} {s : State} {m : MethodId} {args : Array Value} {below : List Frame} {meth : Method} {c : Code} {D : va_G} {cI cJ cZ cS : ClassId} {tb : Nat} {A : Nat → Prop} {a_t a_party a_party_kinds a_party_costs a_party_terms a_party_known a_kept a_tape a_telephone a_telephone_queue a_telephone_callsTo a_telephone_firstCalled a_sheets a_findings : Nat} {v_isKept : Int32} {v_party_size : Int32} {v_party_list : Int32} {v_party_told : Int32} {v_party_kinds : Nat → Int32} {v_party_terms : Nat → Int64} {rr : Int32} {kk' : (Nat → Int32) × (Nat → Int32) × (Nat → Int32) × (Nat → Int32) × (Nat → Int32)} (fx : q_Fx p s m args meth c cX4_first 3 RX4 (some .int) D cI cJ cZ cS tb A) : ∀ {v_party_known : Nat → Int32} {v_telephone_queue : Nat → Int32} {v_telephone_callsTo : Nat → Int32} {v_telephone_firstCalled : Nat → Int32} {v_findings : Nat → Int32} {s0 : Int32} {H : Heap} {locs : List Loc} {ls : Array Slot}, q_H D A s (wX4_first cI cJ cZ cS a_t a_party a_party_kinds a_party_costs a_party_terms a_party_known a_kept a_tape a_telephone a_telephone_queue a_telephone_callsTo a_telephone_firstCalled a_sheets a_findings v_isKept v_party_size v_party_list v_party_told v_party_kinds v_party_terms v_party_known v_telephone_queue v_telephone_callsTo v_telephone_firstCalled v_findings) H locs → lv_has ls 3 [(0, .ref a_t)] → fX4_first_28 v_party_size v_party_list v_party_kinds v_party_terms v_party_known v_telephone_queue v_telephone_callsTo v_telephone_firstCalled v_findings s0 = some (rr, kk') → W p l e rX4_first s m args below meth c H locs 0 0 (MQ below (q_Ri D rr A ((fun k : (Nat → Int32) × (Nat → Int32) × (Nat → Int32) × (Nat → Int32) × (Nat → Int32) => (wX4_first cI cJ cZ cS a_t a_party a_party_kinds a_party_costs a_party_terms a_party_known a_kept a_tape a_telephone a_telephone_queue a_telephone_callsTo a_telephone_firstCalled a_sheets a_findings v_isKept v_party_size v_party_list v_party_told v_party_kinds v_party_terms k.1 k.2.1 k.2.2.1 k.2.2.2.1 k.2.2.2.2)) kk')) args s 0 0 A) (F0 m 28 ls [.int s0]) := by
  intro v_party_known v_telephone_queue v_telephone_callsTo v_telephone_firstCalled v_findings s0 H locs ls h hl hf
  have hx := fx.1
  have hb := fx.2.1
  unfold fX4_first_28 at hf
  refine lv_istore_n (lv' := [(2, .int s0), (0, .ref a_t)]) hx hb dX4_first_28 rfl hl (by decide) rfl (fun ls hl => ?_)
  refine lv_iload_n hx hb dX4_first_29 rfl (lv_at hl 0 rfl) ?_
  refine lv_if_ge (tgt := 42) hx hb dX4_first_30 (by decide) (fun c1 => ?_) (fun c1 => ?_)
  · have hf := it_t c1 hf
    refine lv_iload_n hx hb dX4_first_42 rfl (lv_at hl 0 rfl) ?_
    exact q_reti (fun k : (Nat → Int32) × (Nat → Int32) × (Nat → Int32) × (Nat → Int32) × (Nat → Int32) => (wX4_first cI cJ cZ cS a_t a_party a_party_kinds a_party_costs a_party_terms a_party_known a_kept a_tape a_telephone a_telephone_queue a_telephone_callsTo a_telephone_firstCalled a_sheets a_findings v_isKept v_party_size v_party_list v_party_told v_party_kinds v_party_terms k.1 k.2.1 k.2.2.1 k.2.2.2.1 k.2.2.2.2)) fx hf h dX4_first_43
  have hf := it_f c1 hf
  refine lv_aload_n hx hb dX4_first_33 rfl (lv_at hl 1 rfl) ?_
  refine q_ldc fx k_402 dX4_first_34 ?_
  obtain ⟨r2, k2, hg, hf⟩ := bR_inv hf
  refine q_ci (rest := []) (ws' := (wX4_first cI cJ cZ cS a_t a_party a_party_kinds a_party_costs a_party_terms a_party_known a_kept a_tape a_telephone a_telephone_queue a_telephone_callsTo a_telephone_firstCalled a_sheets a_findings v_isKept v_party_size v_party_list v_party_told v_party_kinds v_party_terms v_party_known v_telephone_queue v_telephone_callsTo v_telephone_firstCalled k2)) (w1 := (wX4_found cI cJ cZ cS a_t a_party a_kept a_tape a_telephone a_sheets a_findings v_isKept k2)) fx h [0, 9] rfl rfl rfl rfl (q_runV fx h hl.1 [0, 9] rfl rfl (tX4_found l D cI cJ cZ cS tb a_t a_party a_kept a_tape a_telephone a_sheets a_findings H.size v_isKept v_findings (-1000000004) r2 k2 hg) mvX4_found k_207 ⟨rfl, rfl⟩ ⟨Nat.le_of_ble_eq_true rfl, Nat.le_of_ble_eq_true rfl⟩ rfl rfl rfl rfl (Nat.le_of_ble_eq_true rfl) dX4_first_36 ⟨Nat.le_of_ble_eq_true rfl, Nat.le_of_ble_eq_true rfl⟩) (fun H locs h => ?_)
  refine lv_goto (tgt := 43) hx hb dX4_first_39 (by decide) ?_
  exact q_reti (fun k : (Nat → Int32) × (Nat → Int32) × (Nat → Int32) × (Nat → Int32) × (Nat → Int32) => (wX4_first cI cJ cZ cS a_t a_party a_party_kinds a_party_costs a_party_terms a_party_known a_kept a_tape a_telephone a_telephone_queue a_telephone_callsTo a_telephone_firstCalled a_sheets a_findings v_isKept v_party_size v_party_list v_party_told v_party_kinds v_party_terms k.1 k.2.1 k.2.2.1 k.2.2.2.1 k.2.2.2.2)) fx hf h dX4_first_43
def fX4_first (v_party_size : Int32) (v_party_list : Int32) (v_party_kinds : Nat → Int32) (v_party_terms : Nat → Int64) (v_party_known : Nat → Int32) (v_telephone_queue : Nat → Int32) (v_telephone_callsTo : Nat → Int32) (v_telephone_firstCalled : Nat → Int32) (v_findings : Nat → Int32) : Option (Int32 × (Nat → Int32) × (Nat → Int32) × (Nat → Int32) × (Nat → Int32) × (Nat → Int32)) :=
  bR (fX3_nearestSettled v_telephone_queue v_telephone_callsTo v_telephone_firstCalled v_party_size v_party_list v_party_kinds v_party_terms v_party_known) (fun r3 k3 =>
  (if (0 : Int32) ≤ r3 then (
  bR (fX3_firstCalledTo k3.2.2.1 r3) (fun r5 k5 =>
  fX4_first_28 v_party_size v_party_list v_party_kinds v_party_terms k3.2.2.2 k3.1 k3.2.1 k3.2.2.1 v_findings r5))
  else (
  fX4_first_28 v_party_size v_party_list v_party_kinds v_party_terms k3.2.2.2 k3.1 k3.2.1 k3.2.2.1 v_findings (-1))))
set_option maxRecDepth 100000 in
set_option maxHeartbeats 4000000 in
theorem tX4_first (l : Launch) (D : va_G) (cI cJ cZ cS : ClassId) (tb : Nat) (a_t a_party a_party_kinds a_party_costs a_party_terms a_party_known a_kept a_tape a_telephone a_telephone_queue a_telephone_callsTo a_telephone_firstCalled a_sheets a_findings : Nat) (sz : Nat) (v_isKept : Int32) (v_party_size : Int32) (v_party_list : Int32) (v_party_told : Int32) (v_party_kinds : Nat → Int32) (v_party_terms : Nat → Int64) (v_party_known : Nat → Int32) (v_telephone_queue : Nat → Int32) (v_telephone_callsTo : Nat → Int32) (v_telephone_firstCalled : Nat → Int32) (v_findings : Nat → Int32) (rr : Int32) (kk' : (Nat → Int32) × (Nat → Int32) × (Nat → Int32) × (Nat → Int32) × (Nat → Int32)) (hf : fX4_first v_party_size v_party_list v_party_kinds v_party_terms v_party_known v_telephone_queue v_telephone_callsTo v_telephone_firstCalled v_findings = some (rr, kk')) : Met l yX4_first (Cond.code yX4_first cX4_first 3 (some .int) :: wA) rX4_first (q_Pre D cI cJ cZ cS tb [.ref a_t] sz (wX4_first cI cJ cZ cS a_t a_party a_party_kinds a_party_costs a_party_terms a_party_known a_kept a_tape a_telephone a_telephone_queue a_telephone_callsTo a_telephone_firstCalled a_sheets a_findings v_isKept v_party_size v_party_list v_party_told v_party_kinds v_party_terms v_party_known v_telephone_queue v_telephone_callsTo v_telephone_firstCalled v_findings)) (q_Ri D rr (va_A (wX4_first cI cJ cZ cS a_t a_party a_party_kinds a_party_costs a_party_terms a_party_known a_kept a_tape a_telephone a_telephone_queue a_telephone_callsTo a_telephone_firstCalled a_sheets a_findings v_isKept v_party_size v_party_list v_party_told v_party_kinds v_party_terms v_party_known v_telephone_queue v_telephone_callsTo v_telephone_firstCalled v_findings) sz) ((fun k : (Nat → Int32) × (Nat → Int32) × (Nat → Int32) × (Nat → Int32) × (Nat → Int32) => (wX4_first cI cJ cZ cS a_t a_party a_party_kinds a_party_costs a_party_terms a_party_known a_kept a_tape a_telephone a_telephone_queue a_telephone_callsTo a_telephone_firstCalled a_sheets a_findings v_isKept v_party_size v_party_list v_party_told v_party_kinds v_party_terms k.1 k.2.1 k.2.2.1 k.2.2.2.1 k.2.2.2.2)) kk')) 0 0 (va_A (wX4_first cI cJ cZ cS a_t a_party a_party_kinds a_party_costs a_party_terms a_party_known a_kept a_tape a_telephone a_telephone_queue a_telephone_callsTo a_telephone_firstCalled a_sheets a_findings v_isKept v_party_size v_party_list v_party_told v_party_kinds v_party_terms v_party_known v_telephone_queue v_telephone_callsTo v_telephone_firstCalled v_findings) sz) := by
  refine q_enter (Qf := fun A => (q_Ri D rr A ((fun k : (Nat → Int32) × (Nat → Int32) × (Nat → Int32) × (Nat → Int32) × (Nat → Int32) => (wX4_first cI cJ cZ cS a_t a_party a_party_kinds a_party_costs a_party_terms a_party_known a_kept a_tape a_telephone a_telephone_queue a_telephone_callsTo a_telephone_firstCalled a_sheets a_findings v_isKept v_party_size v_party_list v_party_told v_party_kinds v_party_terms k.1 k.2.1 k.2.2.1 k.2.2.2.1 k.2.2.2.2)) kk'))) (by decide) rfl (Nat.le_of_ble_eq_true rfl) ?_
  intro p e s m below meth c A ls fx hname h hl
  have hx := fx.1
  have hb := fx.2.1
  have hl : lv_has ls 3 [(0, .ref a_t)] := hl
  generalize h9 : s.heap = H at h ⊢
  clear h9
  generalize h9 : ([] : List Loc) = locs at h ⊢
  clear h9
  unfold fX4_first at hf
  refine lv_aload_n hx hb dX4_first_0 rfl (lv_at hl 0 rfl) ?_
  refine q_get (v := .ref a_telephone) fx inX4 h 0 rfl rfl 4 (by decide) k_178 rfl dX4_first_1 ?_
  refine lv_aload_n hx hb dX4_first_4 rfl (lv_at hl 0 rfl) ?_
  refine q_get (v := .ref a_party) fx inX4 h 0 rfl rfl 0 (by decide) k_174 rfl dX4_first_5 ?_
  obtain ⟨r3, k3, hg, hf⟩ := bR_inv hf
  refine q_ci (rest := []) (ws' := (wX4_first cI cJ cZ cS a_t a_party a_party_kinds a_party_costs a_party_terms a_party_known a_kept a_tape a_telephone a_telephone_queue a_telephone_callsTo a_telephone_firstCalled a_sheets a_findings v_isKept v_party_size v_party_list v_party_told v_party_kinds v_party_terms k3.2.2.2 k3.1 k3.2.1 k3.2.2.1 v_findings)) (w1 := (wX3_nearestSettled cI cJ cZ cS a_telephone a_telephone_queue a_telephone_callsTo a_telephone_firstCalled a_party a_party_kinds a_party_costs a_party_terms a_party_known k3.1 k3.2.1 k3.2.2.1 v_party_size v_party_list v_party_told v_party_kinds v_party_terms k3.2.2.2)) fx h [5, 6, 7, 8, 1, 2, 3, 4] rfl rfl rfl rfl (q_runV fx h hl.1 [5, 6, 7, 8, 1, 2, 3, 4] rfl rfl (tX3_nearestSettled l D cI cJ cZ cS tb a_telephone a_telephone_queue a_telephone_callsTo a_telephone_firstCalled a_party a_party_kinds a_party_costs a_party_terms a_party_known H.size v_telephone_queue v_telephone_callsTo v_telephone_firstCalled v_party_size v_party_list v_party_told v_party_kinds v_party_terms v_party_known r3 k3 hg) mvX3_nearestSettled k_420 ⟨rfl, rfl⟩ ⟨Nat.le_of_ble_eq_true rfl, Nat.le_of_ble_eq_true rfl⟩ rfl rfl rfl rfl (Nat.le_of_ble_eq_true rfl) dX4_first_8 ⟨Nat.le_of_ble_eq_true rfl, Nat.le_of_ble_eq_true rfl⟩) (fun H locs h => ?_)
  refine lv_istore_n (lv' := [(1, .int r3), (0, .ref a_t)]) hx hb dX4_first_11 rfl hl (by decide) rfl (fun ls hl => ?_)
  refine lv_iload_n hx hb dX4_first_12 rfl (lv_at hl 0 rfl) ?_
  refine lv_if_ge (tgt := 20) hx hb dX4_first_13 (by decide) (fun c4 => ?_) (fun c4 => ?_)
  · have hf := it_t c4 hf
    refine lv_aload_n hx hb dX4_first_20 rfl (lv_at hl 1 rfl) ?_
    refine q_get (v := .ref a_telephone) fx inX4 h 0 rfl rfl 4 (by decide) k_178 rfl dX4_first_21 ?_
    refine lv_iload_n hx hb dX4_first_24 rfl (lv_at hl 0 rfl) ?_
    obtain ⟨r5, k5, hg, hf⟩ := bR_inv hf
    refine q_ci (rest := []) (ws' := (wX4_first cI cJ cZ cS a_t a_party a_party_kinds a_party_costs a_party_terms a_party_known a_kept a_tape a_telephone a_telephone_queue a_telephone_callsTo a_telephone_firstCalled a_sheets a_findings v_isKept v_party_size v_party_list v_party_told v_party_kinds v_party_terms k3.2.2.2 k3.1 k3.2.1 k3.2.2.1 v_findings)) (w1 := (wX3_firstCalledTo cI cJ cZ cS a_telephone a_telephone_queue a_telephone_callsTo a_telephone_firstCalled k3.2.2.1)) fx h [5, 8] rfl rfl rfl rfl (q_runV fx h hl.1 [5, 8] rfl rfl (tX3_firstCalledTo l D cI cJ cZ cS tb a_telephone a_telephone_queue a_telephone_callsTo a_telephone_firstCalled H.size k3.2.2.1 r3 r5 k5 hg) mvX3_firstCalledTo k_439 ⟨rfl, rfl⟩ ⟨Nat.le_of_ble_eq_true rfl, Nat.le_of_ble_eq_true rfl⟩ rfl rfl rfl rfl (Nat.le_of_ble_eq_true rfl) dX4_first_25 ⟨Nat.le_of_ble_eq_true rfl, Nat.le_of_ble_eq_true rfl⟩) (fun H locs h => ?_)
    exact LX4_first_28 fx h (lv_sub hl [1] rfl) hf
  have hf := it_f c4 hf
  refine lv_iconst (v := -1) hx hb dX4_first_16 (by decide) ?_
  refine lv_goto (tgt := 28) hx hb dX4_first_17 (by decide) ?_
  exact LX4_first_28 fx h (lv_sub hl [1] rfl) hf
end
section
/-! X4_settled -/
abbrev wX4_settled (cI cJ cZ cS : ClassId) (a_t a_party a_party_kinds a_party_costs a_party_terms a_party_known a_kept a_tape a_telephone a_sheets a_findings : Nat) (v_isKept : Int32) (v_party_size : Int32) (v_party_list : Int32) (v_party_told : Int32) (v_party_kinds : Nat → Int32) (v_party_terms : Nat → Int64) (v_party_known : Nat → Int32) : va_W := [(a_t, .inr (4, [.ref a_party, .ref a_kept, .int v_isKept, .ref a_tape, .ref a_telephone, .ref a_sheets, .ref a_findings])), (a_party, .inr (0, [.int v_party_size, .int v_party_list, .int v_party_told, .ref a_party_kinds, .ref a_party_costs, .ref a_party_terms, .ref a_party_known])), (a_party_kinds, .inl (cI, 8, .inl v_party_kinds)), (a_party_terms, .inl (cJ, 32, .inr (.inl v_party_terms))), (a_party_known, .inl (cI, 256, .inl v_party_known))]
abbrev rX4_settled : Room := { frames := 5, cells := 0, slots := 0, locals := 111 }
def fX4_settled_4 (v_party_size : Int32) (v_party_kinds : Nat → Int32) (v_party_terms : Nat → Int64) (ag4 : (Nat → Int32) → Int32 → Int32 → Option (Int32 × (Nat → Int32))) (v_party_known : Nat → Int32) (y1 : Int32) (y2 : Int32) : Option (Int32 × (Nat → Int32)) :=
  bR (fX0_lists v_party_size) (fun r1 k1 =>
  (if r1 ≤ y2 then (
  some (y1, v_party_known))
  else (
  bR (fX0_isSettled v_party_size v_party_kinds v_party_terms v_party_known y2) (fun r3 k3 =>
  bR (fX4_oneIf r3) (fun r4 k4 =>
  nm (y1 + r4) (fun u5 =>
  nm (y2 + 1) (fun u6 =>
  ag4 k3 u5 u6)))))))
set_option maxRecDepth 100000 in
set_option maxHeartbeats 4000000 in
theorem LX4_settled_4 {p : Program} {l : Launch} {e : Env} {s : State} {m : MethodId} {args : Array Value} {below : List Frame} {meth : Method} {c : Code} {D : va_G} {cI cJ cZ cS : ClassId} {tb : Nat} {A : Nat → Prop} {a_t a_party a_party_kinds a_party_costs a_party_terms a_party_known a_kept a_tape a_telephone a_sheets a_findings : Nat} {v_isKept : Int32} {v_party_size : Int32} {v_party_list : Int32} {v_party_told : Int32} {v_party_kinds : Nat → Int32} {v_party_terms : Nat → Int64} {rr : Int32} {kk' : (Nat → Int32)} (fx : q_Fx p s m args meth c cX4_settled 3 RX4 (some .int) D cI cJ cZ cS tb A) {ag4 : (Nat → Int32) → Int32 → Int32 → Option (Int32 × (Nat → Int32))} (hag4 : ∀ {v_party_known : Nat → Int32} {y1 : Int32} {y2 : Int32} {H : Heap} {locs : List Loc} {ls : Array Slot}, q_H D A s (wX4_settled cI cJ cZ cS a_t a_party a_party_kinds a_party_costs a_party_terms a_party_known a_kept a_tape a_telephone a_sheets a_findings v_isKept v_party_size v_party_list v_party_told v_party_kinds v_party_terms v_party_known) H locs → lv_has ls 3 [(0, .ref a_t), (1, .int y1), (2, .int y2)] → ag4 v_party_known y1 y2 = some (rr, kk') → W p l e rX4_settled s m args below meth c H locs 0 0 (MQ below (q_Ri D rr A ((fun k : (Nat → Int32) => (wX4_settled cI cJ cZ cS a_t a_party a_party_kinds a_party_costs a_party_terms a_party_known a_kept a_tape a_telephone a_sheets a_findings v_isKept v_party_size v_party_list v_party_told v_party_kinds v_party_terms k)) kk')) args s 0 0 A) (F0 m 4 ls [])) : ∀ {v_party_known : Nat → Int32} {y1 : Int32} {y2 : Int32} {H : Heap} {locs : List Loc} {ls : Array Slot}, q_H D A s (wX4_settled cI cJ cZ cS a_t a_party a_party_kinds a_party_costs a_party_terms a_party_known a_kept a_tape a_telephone a_sheets a_findings v_isKept v_party_size v_party_list v_party_told v_party_kinds v_party_terms v_party_known) H locs → lv_has ls 3 [(0, .ref a_t), (1, .int y1), (2, .int y2)] → fX4_settled_4 v_party_size v_party_kinds v_party_terms ag4 v_party_known y1 y2 = some (rr, kk') → W p l e rX4_settled s m args below meth c H locs 0 0 (MQ below (q_Ri D rr A ((fun k : (Nat → Int32) => (wX4_settled cI cJ cZ cS a_t a_party a_party_kinds a_party_costs a_party_terms a_party_known a_kept a_tape a_telephone a_sheets a_findings v_isKept v_party_size v_party_list v_party_told v_party_kinds v_party_terms k)) kk')) args s 0 0 A) (F0 m 4 ls []) := by
  intro v_party_known y1 y2 H locs ls h hl hf
  have hx := fx.1
  have hb := fx.2.1
  unfold fX4_settled_4 at hf
  refine lv_iload_n hx hb dX4_settled_4 rfl (lv_at hl 2 rfl) ?_
  refine lv_aload_n hx hb dX4_settled_5 rfl (lv_at hl 0 rfl) ?_
  refine q_get (v := .ref a_party) fx inX4 h 0 rfl rfl 0 (by decide) k_174 rfl dX4_settled_6 ?_
  obtain ⟨r1, k1, hg, hf⟩ := bR_inv hf
  refine q_ci (rest := [.int y2]) (ws' := (wX4_settled cI cJ cZ cS a_t a_party a_party_kinds a_party_costs a_party_terms a_party_known a_kept a_tape a_telephone a_sheets a_findings v_isKept v_party_size v_party_list v_party_told v_party_kinds v_party_terms v_party_known)) (w1 := (wX0_lists cI cJ cZ cS a_party a_party_kinds a_party_costs a_party_terms a_party_known v_party_size v_party_list v_party_told)) fx h [1] rfl rfl rfl rfl (q_runV fx h hl.1 [1] rfl rfl (tX0_lists l D cI cJ cZ cS tb a_party a_party_kinds a_party_costs a_party_terms a_party_known H.size v_party_size v_party_list v_party_told r1 k1 hg) mvX0_lists k_447 ⟨rfl, rfl⟩ ⟨Nat.le_of_ble_eq_true rfl, Nat.le_of_ble_eq_true rfl⟩ rfl rfl rfl rfl (Nat.le_of_ble_eq_true rfl) dX4_settled_9 ⟨Nat.le_of_ble_eq_true rfl, Nat.le_of_ble_eq_true rfl⟩) (fun H locs h => ?_)
  refine lv_icmp_ge (tgt := 35) hx hb dX4_settled_12 (by decide) (fun c2 => ?_) (fun c2 => ?_)
  · have hf := it_t c2 hf
    refine lv_iload_n hx hb dX4_settled_35 rfl (lv_at hl 1 rfl) ?_
    exact q_reti (fun k : (Nat → Int32) => (wX4_settled cI cJ cZ cS a_t a_party a_party_kinds a_party_costs a_party_terms a_party_known a_kept a_tape a_telephone a_sheets a_findings v_isKept v_party_size v_party_list v_party_told v_party_kinds v_party_terms k)) fx hf h dX4_settled_36
  have hf := it_f c2 hf
  refine lv_iload_n hx hb dX4_settled_15 rfl (lv_at hl 1 rfl) ?_
  refine lv_aload_n hx hb dX4_settled_16 rfl (lv_at hl 0 rfl) ?_
  refine q_get (v := .ref a_party) fx inX4 h 0 rfl rfl 0 (by decide) k_174 rfl dX4_settled_17 ?_
  refine lv_iload_n hx hb dX4_settled_20 rfl (lv_at hl 2 rfl) ?_
  obtain ⟨r3, k3, hg, hf⟩ := bR_inv hf
  refine q_ci (rest := [.int y1]) (ws' := (wX4_settled cI cJ cZ cS a_t a_party a_party_kinds a_party_costs a_party_terms a_party_known a_kept a_tape a_telephone a_sheets a_findings v_isKept v_party_size v_party_list v_party_told v_party_kinds v_party_terms k3)) (w1 := (wX0_isSettled cI cJ cZ cS a_party a_party_kinds a_party_costs a_party_terms a_party_known v_party_size v_party_list v_party_told v_party_kinds v_party_terms k3)) fx h [1, 2, 3, 4] rfl rfl rfl rfl (q_runV fx h hl.1 [1, 2, 3, 4] rfl rfl (tX0_isSettled l D cI cJ cZ cS tb a_party a_party_kinds a_party_costs a_party_terms a_party_known H.size v_party_size v_party_list v_party_told v_party_kinds v_party_terms v_party_known y2 r3 k3 hg) mvX0_isSettled k_358 ⟨rfl, rfl⟩ ⟨Nat.le_of_ble_eq_true rfl, Nat.le_of_ble_eq_true rfl⟩ rfl rfl rfl rfl (Nat.le_of_ble_eq_true rfl) dX4_settled_21 ⟨Nat.le_of_ble_eq_true rfl, Nat.le_of_ble_eq_true rfl⟩) (fun H locs h => ?_)
  obtain ⟨r4, k4, hg, hf⟩ := bR_inv hf
  refine q_ci (rest := [.int y1]) (ws' := (wX4_settled cI cJ cZ cS a_t a_party a_party_kinds a_party_costs a_party_terms a_party_known a_kept a_tape a_telephone a_sheets a_findings v_isKept v_party_size v_party_list v_party_told v_party_kinds v_party_terms k3)) (w1 := (wX4_oneIf cI cJ cZ cS)) fx h [] rfl rfl rfl rfl (q_runS fx h hl.1 [] rfl rfl (tX4_oneIf l D cI cJ cZ cS tb H.size r3 r4 k4 hg) msX4_oneIf k_246 ⟨rfl, rfl⟩ ⟨Nat.le_of_ble_eq_true rfl, Nat.le_of_ble_eq_true rfl⟩ rfl rfl (Nat.le_of_ble_eq_true rfl) dX4_settled_24 ⟨Nat.le_of_ble_eq_true rfl, Nat.le_of_ble_eq_true rfl⟩) (fun H locs h => ?_)
  refine lv_iadd hx hb dX4_settled_27 ?_
  obtain ⟨u5, eu5, hf⟩ := nm_inv hf
  refine lv_eqi eu5 ?_
  refine lv_istore_n (lv' := [(1, .int u5), (0, .ref a_t), (2, .int y2)]) hx hb dX4_settled_28 rfl hl (by decide) rfl (fun ls hl => ?_)
  obtain ⟨u6, eu6, hf⟩ := nm_inv hf
  refine lv_iinc (v := u6) (lv' := [(2, .int u6), (1, .int u5), (0, .ref a_t)]) hx hb dX4_settled_29 hl (k := 2) rfl (by rw [eu6]; rfl) (by decide) rfl (fun ls hl => ?_)
  refine lv_goto (tgt := 4) hx hb dX4_settled_32 (by decide) ?_
  exact hag4 h (lv_sub hl [2, 1, 0] rfl) hf
set_option maxRecDepth 100000 in
theorem EX4_settled_4 {p : Program} {l : Launch} {e : Env} {s : State} {m : MethodId} {args : Array Value} {below : List Frame} {meth : Method} {c : Code} {D : va_G} {cI cJ cZ cS : ClassId} {tb : Nat} {A : Nat → Prop} {a_t a_party a_party_kinds a_party_costs a_party_terms a_party_known a_kept a_tape a_telephone a_sheets a_findings : Nat} {v_isKept : Int32} {v_party_size : Int32} {v_party_list : Int32} {v_party_told : Int32} {v_party_kinds : Nat → Int32} {v_party_terms : Nat → Int64} {rr : Int32} {kk' : (Nat → Int32)} (fx : q_Fx p s m args meth c cX4_settled 3 RX4 (some .int) D cI cJ cZ cS tb A) : ∀ (n : Nat), ∀ {v_party_known : Nat → Int32} {y1 : Int32} {y2 : Int32} {H : Heap} {locs : List Loc} {ls : Array Slot}, q_H D A s (wX4_settled cI cJ cZ cS a_t a_party a_party_kinds a_party_costs a_party_terms a_party_known a_kept a_tape a_telephone a_sheets a_findings v_isKept v_party_size v_party_list v_party_told v_party_kinds v_party_terms v_party_known) H locs → lv_has ls 3 [(0, .ref a_t), (1, .int y1), (2, .int y2)] → ll3 (fX4_settled_4 v_party_size v_party_kinds v_party_terms) n v_party_known y1 y2 = some (rr, kk') → W p l e rX4_settled s m args below meth c H locs 0 0 (MQ below (q_Ri D rr A ((fun k : (Nat → Int32) => (wX4_settled cI cJ cZ cS a_t a_party a_party_kinds a_party_costs a_party_terms a_party_known a_kept a_tape a_telephone a_sheets a_findings v_isKept v_party_size v_party_list v_party_told v_party_kinds v_party_terms k)) kk')) args s 0 0 A) (F0 m 4 ls []) := by
  intro n
  induction n with
  | zero => intro v_party_known y1 y2 H locs ls h hl hf; exact (ll3_z hf).elim
  | succ n ih => intro v_party_known y1 y2 H locs ls h hl hf; exact LX4_settled_4 fx ih h hl (ll3_s hf)
def fX4_settled (v_party_size : Int32) (v_party_kinds : Nat → Int32) (v_party_terms : Nat → Int64) (v_party_known : Nat → Int32) : Option (Int32 × (Nat → Int32)) :=
  ll3 (fX4_settled_4 v_party_size v_party_kinds v_party_terms) qF v_party_known 0 0
set_option maxRecDepth 100000 in
set_option maxHeartbeats 4000000 in
theorem tX4_settled (l : Launch) (D : va_G) (cI cJ cZ cS : ClassId) (tb : Nat) (a_t a_party a_party_kinds a_party_costs a_party_terms a_party_known a_kept a_tape a_telephone a_sheets a_findings : Nat) (sz : Nat) (v_isKept : Int32) (v_party_size : Int32) (v_party_list : Int32) (v_party_told : Int32) (v_party_kinds : Nat → Int32) (v_party_terms : Nat → Int64) (v_party_known : Nat → Int32) (rr : Int32) (kk' : (Nat → Int32)) (hf : fX4_settled v_party_size v_party_kinds v_party_terms v_party_known = some (rr, kk')) : Met l yX4_settled (Cond.code yX4_settled cX4_settled 3 (some .int) :: wA) rX4_settled (q_Pre D cI cJ cZ cS tb [.ref a_t] sz (wX4_settled cI cJ cZ cS a_t a_party a_party_kinds a_party_costs a_party_terms a_party_known a_kept a_tape a_telephone a_sheets a_findings v_isKept v_party_size v_party_list v_party_told v_party_kinds v_party_terms v_party_known)) (q_Ri D rr (va_A (wX4_settled cI cJ cZ cS a_t a_party a_party_kinds a_party_costs a_party_terms a_party_known a_kept a_tape a_telephone a_sheets a_findings v_isKept v_party_size v_party_list v_party_told v_party_kinds v_party_terms v_party_known) sz) ((fun k : (Nat → Int32) => (wX4_settled cI cJ cZ cS a_t a_party a_party_kinds a_party_costs a_party_terms a_party_known a_kept a_tape a_telephone a_sheets a_findings v_isKept v_party_size v_party_list v_party_told v_party_kinds v_party_terms k)) kk')) 0 0 (va_A (wX4_settled cI cJ cZ cS a_t a_party a_party_kinds a_party_costs a_party_terms a_party_known a_kept a_tape a_telephone a_sheets a_findings v_isKept v_party_size v_party_list v_party_told v_party_kinds v_party_terms v_party_known) sz) := by
  refine q_enter (Qf := fun A => (q_Ri D rr A ((fun k : (Nat → Int32) => (wX4_settled cI cJ cZ cS a_t a_party a_party_kinds a_party_costs a_party_terms a_party_known a_kept a_tape a_telephone a_sheets a_findings v_isKept v_party_size v_party_list v_party_told v_party_kinds v_party_terms k)) kk'))) (by decide) rfl (Nat.le_of_ble_eq_true rfl) ?_
  intro p e s m below meth c A ls fx hname h hl
  have hx := fx.1
  have hb := fx.2.1
  have hl : lv_has ls 3 [(0, .ref a_t)] := hl
  generalize h9 : s.heap = H at h ⊢
  clear h9
  generalize h9 : ([] : List Loc) = locs at h ⊢
  clear h9
  unfold fX4_settled at hf
  refine lv_iconst (v := 0) hx hb dX4_settled_0 (by decide) ?_
  refine lv_istore_n (lv' := [(1, .int 0), (0, .ref a_t)]) hx hb dX4_settled_1 rfl hl (by decide) rfl (fun ls hl => ?_)
  refine lv_iconst (v := 0) hx hb dX4_settled_2 (by decide) ?_
  refine lv_istore_n (lv' := [(2, .int 0), (1, .int 0), (0, .ref a_t)]) hx hb dX4_settled_3 rfl hl (by decide) rfl (fun ls hl => ?_)
  exact EX4_settled_4 fx qF h (lv_sub hl [2, 1, 0] rfl) hf
/-! X4_ith -/
abbrev wX4_ith (cI cJ cZ cS : ClassId) (a_t a_party a_party_kinds a_party_costs a_party_terms a_party_known a_kept a_tape a_telephone a_sheets a_findings : Nat) (v_isKept : Int32) (v_party_size : Int32) (v_party_list : Int32) (v_party_told : Int32) (v_party_kinds : Nat → Int32) (v_party_terms : Nat → Int64) (v_party_known : Nat → Int32) (v_findings : Nat → Int32) : va_W := [(a_t, .inr (4, [.ref a_party, .ref a_kept, .int v_isKept, .ref a_tape, .ref a_telephone, .ref a_sheets, .ref a_findings])), (a_party, .inr (0, [.int v_party_size, .int v_party_list, .int v_party_told, .ref a_party_kinds, .ref a_party_costs, .ref a_party_terms, .ref a_party_known])), (a_party_kinds, .inl (cI, 8, .inl v_party_kinds)), (a_party_terms, .inl (cJ, 32, .inr (.inl v_party_terms))), (a_party_known, .inl (cI, 256, .inl v_party_known)), (a_findings, .inl (cI, 7, .inl v_findings))]
abbrev rX4_ith : Room := { frames := 5, cells := 0, slots := 0, locals := 111 }
def fX4_ith_47 (v_party_size : Int32) (v_party_kinds : Nat → Int32) (v_party_terms : Nat → Int64) (ag15 : (Nat → Int32) → (Nat → Int32) → Int32 → Int32 → Int32 → Option (Int32 × (Nat → Int32) × (Nat → Int32))) (v_party_known : Nat → Int32) (v_findings : Nat → Int32) (y1 : Int32) (y2 : Int32) (y3 : Int32) : Option (Int32 × (Nat → Int32) × (Nat → Int32)) :=
  nm (y3 + 1) (fun u1 =>
  ag15 v_party_known v_findings y1 y2 u1)
set_option maxRecDepth 100000 in
set_option maxHeartbeats 4000000 in
theorem LX4_ith_47 {p : Program} {l : Launch} {e : Env} {s : State} {m : MethodId} {args : Array Value} {below : List Frame} {meth : Method} {c : Code} {D : va_G} {cI cJ cZ cS : ClassId} {tb : Nat} {A : Nat → Prop} {a_t a_party a_party_kinds a_party_costs a_party_terms a_party_known a_kept a_tape a_telephone a_sheets a_findings : Nat} {v_isKept : Int32} {v_party_size : Int32} {v_party_list : Int32} {v_party_told : Int32} {v_party_kinds : Nat → Int32} {v_party_terms : Nat → Int64} {rr : Int32} {kk' : (Nat → Int32) × (Nat → Int32)} (fx : q_Fx p s m args meth c cX4_ith 4 RX4 (some .int) D cI cJ cZ cS tb A) {ag15 : (Nat → Int32) → (Nat → Int32) → Int32 → Int32 → Int32 → Option (Int32 × (Nat → Int32) × (Nat → Int32))} (hag15 : ∀ {v_party_known : Nat → Int32} {v_findings : Nat → Int32} {y1 : Int32} {y2 : Int32} {y3 : Int32} {H : Heap} {locs : List Loc} {ls : Array Slot}, q_H D A s (wX4_ith cI cJ cZ cS a_t a_party a_party_kinds a_party_costs a_party_terms a_party_known a_kept a_tape a_telephone a_sheets a_findings v_isKept v_party_size v_party_list v_party_told v_party_kinds v_party_terms v_party_known v_findings) H locs → lv_has ls 4 [(0, .ref a_t), (1, .int y1), (2, .int y2), (3, .int y3)] → ag15 v_party_known v_findings y1 y2 y3 = some (rr, kk') → W p l e rX4_ith s m args below meth c H locs 0 0 (MQ below (q_Ri D rr A ((fun k : (Nat → Int32) × (Nat → Int32) => (wX4_ith cI cJ cZ cS a_t a_party a_party_kinds a_party_costs a_party_terms a_party_known a_kept a_tape a_telephone a_sheets a_findings v_isKept v_party_size v_party_list v_party_told v_party_kinds v_party_terms k.1 k.2)) kk')) args s 0 0 A) (F0 m 15 ls [])) : ∀ {v_party_known : Nat → Int32} {v_findings : Nat → Int32} {y1 : Int32} {y2 : Int32} {y3 : Int32} {H : Heap} {locs : List Loc} {ls : Array Slot}, q_H D A s (wX4_ith cI cJ cZ cS a_t a_party a_party_kinds a_party_costs a_party_terms a_party_known a_kept a_tape a_telephone a_sheets a_findings v_isKept v_party_size v_party_list v_party_told v_party_kinds v_party_terms v_party_known v_findings) H locs → lv_has ls 4 [(0, .ref a_t), (1, .int y1), (2, .int y2), (3, .int y3)] → fX4_ith_47 v_party_size v_party_kinds v_party_terms ag15 v_party_known v_findings y1 y2 y3 = some (rr, kk') → W p l e rX4_ith s m args below meth c H locs 0 0 (MQ below (q_Ri D rr A ((fun k : (Nat → Int32) × (Nat → Int32) => (wX4_ith cI cJ cZ cS a_t a_party a_party_kinds a_party_costs a_party_terms a_party_known a_kept a_tape a_telephone a_sheets a_findings v_isKept v_party_size v_party_list v_party_told v_party_kinds v_party_terms k.1 k.2)) kk')) args s 0 0 A) (F0 m 47 ls []) := by
  intro v_party_known v_findings y1 y2 y3 H locs ls h hl hf
  have hx := fx.1
  have hb := fx.2.1
  unfold fX4_ith_47 at hf
  obtain ⟨u1, eu1, hf⟩ := nm_inv hf
  refine lv_iinc (v := u1) (lv' := [(3, .int u1), (0, .ref a_t), (1, .int y1), (2, .int y2)]) hx hb dX4_ith_47 hl (k := 3) rfl (by rw [eu1]; rfl) (by decide) rfl (fun ls hl => ?_)
  refine lv_goto (tgt := 15) hx hb dX4_ith_50 (by decide) ?_
  exact hag15 h (lv_sub hl [1, 2, 3, 0] rfl) hf
def fX4_ith_15 (v_party_size : Int32) (v_party_kinds : Nat → Int32) (v_party_terms : Nat → Int64) (ag15 : (Nat → Int32) → (Nat → Int32) → Int32 → Int32 → Int32 → Option (Int32 × (Nat → Int32) × (Nat → Int32))) (v_party_known : Nat → Int32) (v_findings : Nat → Int32) (y1 : Int32) (y2 : Int32) (y3 : Int32) : Option (Int32 × (Nat → Int32) × (Nat → Int32)) :=
  bR (fX0_lists v_party_size) (fun r2 k2 =>
  (if r2 ≤ y3 then (
  bR (fX4_found v_findings (-1000000004)) (fun r4 k4 =>
  some (r4, (v_party_known, k4))))
  else (
  bR (fX0_isSettled v_party_size v_party_kinds v_party_terms v_party_known y3) (fun r5 k5 =>
  (if r5 = 0 then (
  fX4_ith_47 v_party_size v_party_kinds v_party_terms ag15 k5 v_findings y1 y2 y3)
  else (
  (if y2 = y1 then (
  some (y3, (k5, v_findings)))
  else (
  nm (y2 + 1) (fun u8 =>
  fX4_ith_47 v_party_size v_party_kinds v_party_terms ag15 k5 v_findings y1 u8 y3)))))))))
set_option maxRecDepth 100000 in
set_option maxHeartbeats 4000000 in
theorem LX4_ith_15 {p : Program} {l : Launch} {e : Env} {s : State} {m : MethodId} {args : Array Value} {below : List Frame} {meth : Method} {c : Code} {D : va_G} {cI cJ cZ cS : ClassId} {tb : Nat} {A : Nat → Prop} {a_t a_party a_party_kinds a_party_costs a_party_terms a_party_known a_kept a_tape a_telephone a_sheets a_findings : Nat} {v_isKept : Int32} {v_party_size : Int32} {v_party_list : Int32} {v_party_told : Int32} {v_party_kinds : Nat → Int32} {v_party_terms : Nat → Int64} {rr : Int32} {kk' : (Nat → Int32) × (Nat → Int32)} (fx : q_Fx p s m args meth c cX4_ith 4 RX4 (some .int) D cI cJ cZ cS tb A) {ag15 : (Nat → Int32) → (Nat → Int32) → Int32 → Int32 → Int32 → Option (Int32 × (Nat → Int32) × (Nat → Int32))} (hag15 : ∀ {v_party_known : Nat → Int32} {v_findings : Nat → Int32} {y1 : Int32} {y2 : Int32} {y3 : Int32} {H : Heap} {locs : List Loc} {ls : Array Slot}, q_H D A s (wX4_ith cI cJ cZ cS a_t a_party a_party_kinds a_party_costs a_party_terms a_party_known a_kept a_tape a_telephone a_sheets a_findings v_isKept v_party_size v_party_list v_party_told v_party_kinds v_party_terms v_party_known v_findings) H locs → lv_has ls 4 [(0, .ref a_t), (1, .int y1), (2, .int y2), (3, .int y3)] → ag15 v_party_known v_findings y1 y2 y3 = some (rr, kk') → W p l e rX4_ith s m args below meth c H locs 0 0 (MQ below (q_Ri D rr A ((fun k : (Nat → Int32) × (Nat → Int32) => (wX4_ith cI cJ cZ cS a_t a_party a_party_kinds a_party_costs a_party_terms a_party_known a_kept a_tape a_telephone a_sheets a_findings v_isKept v_party_size v_party_list v_party_told v_party_kinds v_party_terms k.1 k.2)) kk')) args s 0 0 A) (F0 m 15 ls [])) : ∀ {v_party_known : Nat → Int32} {v_findings : Nat → Int32} {y1 : Int32} {y2 : Int32} {y3 : Int32} {H : Heap} {locs : List Loc} {ls : Array Slot}, q_H D A s (wX4_ith cI cJ cZ cS a_t a_party a_party_kinds a_party_costs a_party_terms a_party_known a_kept a_tape a_telephone a_sheets a_findings v_isKept v_party_size v_party_list v_party_told v_party_kinds v_party_terms v_party_known v_findings) H locs → lv_has ls 4 [(0, .ref a_t), (1, .int y1), (2, .int y2), (3, .int y3)] → fX4_ith_15 v_party_size v_party_kinds v_party_terms ag15 v_party_known v_findings y1 y2 y3 = some (rr, kk') → W p l e rX4_ith s m args below meth c H locs 0 0 (MQ below (q_Ri D rr A ((fun k : (Nat → Int32) × (Nat → Int32) => (wX4_ith cI cJ cZ cS a_t a_party a_party_kinds a_party_costs a_party_terms a_party_known a_kept a_tape a_telephone a_sheets a_findings v_isKept v_party_size v_party_list v_party_told v_party_kinds v_party_terms k.1 k.2)) kk')) args s 0 0 A) (F0 m 15 ls []) := by
  intro v_party_known v_findings y1 y2 y3 H locs ls h hl hf
  have hx := fx.1
  have hb := fx.2.1
  unfold fX4_ith_15 at hf
  refine lv_iload_n hx hb dX4_ith_15 rfl (lv_at hl 3 rfl) ?_
  refine lv_aload_n hx hb dX4_ith_16 rfl (lv_at hl 0 rfl) ?_
  refine q_get (v := .ref a_party) fx inX4 h 0 rfl rfl 0 (by decide) k_174 rfl dX4_ith_17 ?_
  obtain ⟨r2, k2, hg, hf⟩ := bR_inv hf
  refine q_ci (rest := [.int y3]) (ws' := (wX4_ith cI cJ cZ cS a_t a_party a_party_kinds a_party_costs a_party_terms a_party_known a_kept a_tape a_telephone a_sheets a_findings v_isKept v_party_size v_party_list v_party_told v_party_kinds v_party_terms v_party_known v_findings)) (w1 := (wX0_lists cI cJ cZ cS a_party a_party_kinds a_party_costs a_party_terms a_party_known v_party_size v_party_list v_party_told)) fx h [1] rfl rfl rfl rfl (q_runV fx h hl.1 [1] rfl rfl (tX0_lists l D cI cJ cZ cS tb a_party a_party_kinds a_party_costs a_party_terms a_party_known H.size v_party_size v_party_list v_party_told r2 k2 hg) mvX0_lists k_447 ⟨rfl, rfl⟩ ⟨Nat.le_of_ble_eq_true rfl, Nat.le_of_ble_eq_true rfl⟩ rfl rfl rfl rfl (Nat.le_of_ble_eq_true rfl) dX4_ith_20 ⟨Nat.le_of_ble_eq_true rfl, Nat.le_of_ble_eq_true rfl⟩) (fun H locs h => ?_)
  refine lv_icmp_ge (tgt := 53) hx hb dX4_ith_23 (by decide) (fun c3 => ?_) (fun c3 => ?_)
  · have hf := it_t c3 hf
    refine lv_aload_n hx hb dX4_ith_53 rfl (lv_at hl 0 rfl) ?_
    refine q_ldc fx k_402 dX4_ith_54 ?_
    obtain ⟨r4, k4, hg, hf⟩ := bR_inv hf
    refine q_ci (rest := []) (ws' := (wX4_ith cI cJ cZ cS a_t a_party a_party_kinds a_party_costs a_party_terms a_party_known a_kept a_tape a_telephone a_sheets a_findings v_isKept v_party_size v_party_list v_party_told v_party_kinds v_party_terms v_party_known k4)) (w1 := (wX4_found cI cJ cZ cS a_t a_party a_kept a_tape a_telephone a_sheets a_findings v_isKept k4)) fx h [0, 5] rfl rfl rfl rfl (q_runV fx h hl.1 [0, 5] rfl rfl (tX4_found l D cI cJ cZ cS tb a_t a_party a_kept a_tape a_telephone a_sheets a_findings H.size v_isKept v_findings (-1000000004) r4 k4 hg) mvX4_found k_207 ⟨rfl, rfl⟩ ⟨Nat.le_of_ble_eq_true rfl, Nat.le_of_ble_eq_true rfl⟩ rfl rfl rfl rfl (Nat.le_of_ble_eq_true rfl) dX4_ith_56 ⟨Nat.le_of_ble_eq_true rfl, Nat.le_of_ble_eq_true rfl⟩) (fun H locs h => ?_)
    exact q_reti (fun k : (Nat → Int32) × (Nat → Int32) => (wX4_ith cI cJ cZ cS a_t a_party a_party_kinds a_party_costs a_party_terms a_party_known a_kept a_tape a_telephone a_sheets a_findings v_isKept v_party_size v_party_list v_party_told v_party_kinds v_party_terms k.1 k.2)) fx hf h dX4_ith_59
  have hf := it_f c3 hf
  refine lv_aload_n hx hb dX4_ith_26 rfl (lv_at hl 0 rfl) ?_
  refine q_get (v := .ref a_party) fx inX4 h 0 rfl rfl 0 (by decide) k_174 rfl dX4_ith_27 ?_
  refine lv_iload_n hx hb dX4_ith_30 rfl (lv_at hl 3 rfl) ?_
  obtain ⟨r5, k5, hg, hf⟩ := bR_inv hf
  refine q_ci (rest := []) (ws' := (wX4_ith cI cJ cZ cS a_t a_party a_party_kinds a_party_costs a_party_terms a_party_known a_kept a_tape a_telephone a_sheets a_findings v_isKept v_party_size v_party_list v_party_told v_party_kinds v_party_terms k5 v_findings)) (w1 := (wX0_isSettled cI cJ cZ cS a_party a_party_kinds a_party_costs a_party_terms a_party_known v_party_size v_party_list v_party_told v_party_kinds v_party_terms k5)) fx h [1, 2, 3, 4] rfl rfl rfl rfl (q_runV fx h hl.1 [1, 2, 3, 4] rfl rfl (tX0_isSettled l D cI cJ cZ cS tb a_party a_party_kinds a_party_costs a_party_terms a_party_known H.size v_party_size v_party_list v_party_told v_party_kinds v_party_terms v_party_known y3 r5 k5 hg) mvX0_isSettled k_358 ⟨rfl, rfl⟩ ⟨Nat.le_of_ble_eq_true rfl, Nat.le_of_ble_eq_true rfl⟩ rfl rfl rfl rfl (Nat.le_of_ble_eq_true rfl) dX4_ith_31 ⟨Nat.le_of_ble_eq_true rfl, Nat.le_of_ble_eq_true rfl⟩) (fun H locs h => ?_)
  refine lv_if_eq (tgt := 47) hx hb dX4_ith_34 (by decide) (fun c6 => ?_) (fun c6 => ?_)
  · have hf := it_t c6 hf
    exact LX4_ith_47 fx hag15 h (lv_sub hl [0, 1, 2, 3] rfl) hf
  have hf := it_f c6 hf
  refine lv_iload_n hx hb dX4_ith_37 rfl (lv_at hl 2 rfl) ?_
  refine lv_iload_n hx hb dX4_ith_38 rfl (lv_at hl 1 rfl) ?_
  refine lv_icmp_ne (tgt := 44) hx hb dX4_ith_39 (by decide) (fun c7 => ?_) (fun c7 => ?_)
  · have hf := it_f c7 hf
    obtain ⟨u8, eu8, hf⟩ := nm_inv hf
    refine lv_iinc (v := u8) (lv' := [(2, .int u8), (0, .ref a_t), (1, .int y1), (3, .int y3)]) hx hb dX4_ith_44 hl (k := 2) rfl (by rw [eu8]; rfl) (by decide) rfl (fun ls hl => ?_)
    exact LX4_ith_47 fx hag15 h (lv_sub hl [1, 2, 0, 3] rfl) hf
  have hf := it_t c7 hf
  refine lv_iload_n hx hb dX4_ith_42 rfl (lv_at hl 3 rfl) ?_
  exact q_reti (fun k : (Nat → Int32) × (Nat → Int32) => (wX4_ith cI cJ cZ cS a_t a_party a_party_kinds a_party_costs a_party_terms a_party_known a_kept a_tape a_telephone a_sheets a_findings v_isKept v_party_size v_party_list v_party_told v_party_kinds v_party_terms k.1 k.2)) fx hf h dX4_ith_43
set_option maxRecDepth 100000 in
theorem EX4_ith_15 {p : Program} {l : Launch} {e : Env} {s : State} {m : MethodId} {args : Array Value} {below : List Frame} {meth : Method} {c : Code} {D : va_G} {cI cJ cZ cS : ClassId} {tb : Nat} {A : Nat → Prop} {a_t a_party a_party_kinds a_party_costs a_party_terms a_party_known a_kept a_tape a_telephone a_sheets a_findings : Nat} {v_isKept : Int32} {v_party_size : Int32} {v_party_list : Int32} {v_party_told : Int32} {v_party_kinds : Nat → Int32} {v_party_terms : Nat → Int64} {rr : Int32} {kk' : (Nat → Int32) × (Nat → Int32)} (fx : q_Fx p s m args meth c cX4_ith 4 RX4 (some .int) D cI cJ cZ cS tb A) : ∀ (n : Nat), ∀ {v_party_known : Nat → Int32} {v_findings : Nat → Int32} {y1 : Int32} {y2 : Int32} {y3 : Int32} {H : Heap} {locs : List Loc} {ls : Array Slot}, q_H D A s (wX4_ith cI cJ cZ cS a_t a_party a_party_kinds a_party_costs a_party_terms a_party_known a_kept a_tape a_telephone a_sheets a_findings v_isKept v_party_size v_party_list v_party_told v_party_kinds v_party_terms v_party_known v_findings) H locs → lv_has ls 4 [(0, .ref a_t), (1, .int y1), (2, .int y2), (3, .int y3)] → ll5 (fX4_ith_15 v_party_size v_party_kinds v_party_terms) n v_party_known v_findings y1 y2 y3 = some (rr, kk') → W p l e rX4_ith s m args below meth c H locs 0 0 (MQ below (q_Ri D rr A ((fun k : (Nat → Int32) × (Nat → Int32) => (wX4_ith cI cJ cZ cS a_t a_party a_party_kinds a_party_costs a_party_terms a_party_known a_kept a_tape a_telephone a_sheets a_findings v_isKept v_party_size v_party_list v_party_told v_party_kinds v_party_terms k.1 k.2)) kk')) args s 0 0 A) (F0 m 15 ls []) := by
  intro n
  induction n with
  | zero => intro v_party_known v_findings y1 y2 y3 H locs ls h hl hf; exact (ll5_z hf).elim
  | succ n ih => intro v_party_known v_findings y1 y2 y3 H locs ls h hl hf; exact LX4_ith_15 fx ih h hl (ll5_s hf)
def fX4_ith (v_party_size : Int32) (v_party_kinds : Nat → Int32) (v_party_terms : Nat → Int64) (v_party_known : Nat → Int32) (v_findings : Nat → Int32) (x1 : Int32) : Option (Int32 × (Nat → Int32) × (Nat → Int32)) :=
  (if (0 : Int32) ≤ x1 then (
  ll5 (fX4_ith_15 v_party_size v_party_kinds v_party_terms) qF v_party_known v_findings x1 0 0)
  else (
  bR (fX4_found v_findings (-1000000001)) (fun r10 k10 =>
  some (r10, (v_party_known, k10)))))
set_option maxRecDepth 100000 in
set_option maxHeartbeats 4000000 in
theorem tX4_ith (l : Launch) (D : va_G) (cI cJ cZ cS : ClassId) (tb : Nat) (a_t a_party a_party_kinds a_party_costs a_party_terms a_party_known a_kept a_tape a_telephone a_sheets a_findings : Nat) (sz : Nat) (v_isKept : Int32) (v_party_size : Int32) (v_party_list : Int32) (v_party_told : Int32) (v_party_kinds : Nat → Int32) (v_party_terms : Nat → Int64) (v_party_known : Nat → Int32) (v_findings : Nat → Int32) (x1 : Int32) (rr : Int32) (kk' : (Nat → Int32) × (Nat → Int32)) (hf : fX4_ith v_party_size v_party_kinds v_party_terms v_party_known v_findings x1 = some (rr, kk')) : Met l yX4_ith (Cond.code yX4_ith cX4_ith 4 (some .int) :: wA) rX4_ith (q_Pre D cI cJ cZ cS tb [.ref a_t, .int x1] sz (wX4_ith cI cJ cZ cS a_t a_party a_party_kinds a_party_costs a_party_terms a_party_known a_kept a_tape a_telephone a_sheets a_findings v_isKept v_party_size v_party_list v_party_told v_party_kinds v_party_terms v_party_known v_findings)) (q_Ri D rr (va_A (wX4_ith cI cJ cZ cS a_t a_party a_party_kinds a_party_costs a_party_terms a_party_known a_kept a_tape a_telephone a_sheets a_findings v_isKept v_party_size v_party_list v_party_told v_party_kinds v_party_terms v_party_known v_findings) sz) ((fun k : (Nat → Int32) × (Nat → Int32) => (wX4_ith cI cJ cZ cS a_t a_party a_party_kinds a_party_costs a_party_terms a_party_known a_kept a_tape a_telephone a_sheets a_findings v_isKept v_party_size v_party_list v_party_told v_party_kinds v_party_terms k.1 k.2)) kk')) 0 0 (va_A (wX4_ith cI cJ cZ cS a_t a_party a_party_kinds a_party_costs a_party_terms a_party_known a_kept a_tape a_telephone a_sheets a_findings v_isKept v_party_size v_party_list v_party_told v_party_kinds v_party_terms v_party_known v_findings) sz) := by
  refine q_enter (Qf := fun A => (q_Ri D rr A ((fun k : (Nat → Int32) × (Nat → Int32) => (wX4_ith cI cJ cZ cS a_t a_party a_party_kinds a_party_costs a_party_terms a_party_known a_kept a_tape a_telephone a_sheets a_findings v_isKept v_party_size v_party_list v_party_told v_party_kinds v_party_terms k.1 k.2)) kk'))) (by decide) rfl (Nat.le_of_ble_eq_true rfl) ?_
  intro p e s m below meth c A ls fx hname h hl
  have hx := fx.1
  have hb := fx.2.1
  have hl : lv_has ls 4 [(0, .ref a_t), (1, .int x1)] := hl
  generalize h9 : s.heap = H at h ⊢
  clear h9
  generalize h9 : ([] : List Loc) = locs at h ⊢
  clear h9
  unfold fX4_ith at hf
  refine lv_iload_n hx hb dX4_ith_0 rfl (lv_at hl 1 rfl) ?_
  refine lv_if_ge (tgt := 11) hx hb dX4_ith_1 (by decide) (fun c9 => ?_) (fun c9 => ?_)
  · have hf := it_t c9 hf
    refine lv_iconst (v := 0) hx hb dX4_ith_11 (by decide) ?_
    refine lv_istore_n (lv' := [(2, .int 0), (0, .ref a_t), (1, .int x1)]) hx hb dX4_ith_12 rfl hl (by decide) rfl (fun ls hl => ?_)
    refine lv_iconst (v := 0) hx hb dX4_ith_13 (by decide) ?_
    refine lv_istore_n (lv' := [(3, .int 0), (2, .int 0), (0, .ref a_t), (1, .int x1)]) hx hb dX4_ith_14 rfl hl (by decide) rfl (fun ls hl => ?_)
    exact EX4_ith_15 fx qF h (lv_sub hl [2, 3, 1, 0] rfl) hf
  have hf := it_f c9 hf
  refine lv_aload_n hx hb dX4_ith_4 rfl (lv_at hl 0 rfl) ?_
  refine q_ldc fx k_206 dX4_ith_5 ?_
  obtain ⟨r10, k10, hg, hf⟩ := bR_inv hf
  refine q_ci (rest := []) (ws' := (wX4_ith cI cJ cZ cS a_t a_party a_party_kinds a_party_costs a_party_terms a_party_known a_kept a_tape a_telephone a_sheets a_findings v_isKept v_party_size v_party_list v_party_told v_party_kinds v_party_terms v_party_known k10)) (w1 := (wX4_found cI cJ cZ cS a_t a_party a_kept a_tape a_telephone a_sheets a_findings v_isKept k10)) fx h [0, 5] rfl rfl rfl rfl (q_runV fx h hl.1 [0, 5] rfl rfl (tX4_found l D cI cJ cZ cS tb a_t a_party a_kept a_tape a_telephone a_sheets a_findings H.size v_isKept v_findings (-1000000001) r10 k10 hg) mvX4_found k_207 ⟨rfl, rfl⟩ ⟨Nat.le_of_ble_eq_true rfl, Nat.le_of_ble_eq_true rfl⟩ rfl rfl rfl rfl (Nat.le_of_ble_eq_true rfl) dX4_ith_7 ⟨Nat.le_of_ble_eq_true rfl, Nat.le_of_ble_eq_true rfl⟩) (fun H locs h => ?_)
  exact q_reti (fun k : (Nat → Int32) × (Nat → Int32) => (wX4_ith cI cJ cZ cS a_t a_party a_party_kinds a_party_costs a_party_terms a_party_known a_kept a_tape a_telephone a_sheets a_findings v_isKept v_party_size v_party_list v_party_told v_party_kinds v_party_terms k.1 k.2)) fx hf h dX4_ith_10
/-! X0_everyone -/
abbrev wX0_everyone (cI cJ cZ cS : ClassId) (a_t a_kinds a_costs a_terms a_known : Nat) (v_size : Int32) (v_list : Int32) (v_told : Int32) : va_W := [(a_t, .inr (0, [.int v_size, .int v_list, .int v_told, .ref a_kinds, .ref a_costs, .ref a_terms, .ref a_known]))]
abbrev rX0_everyone : Room := { frames := 1, cells := 0, slots := 0, locals := 20 }
def fX0_everyone (v_size : Int32) : Option (Int32 × Unit) :=
  bR (fX0_lists v_size) (fun r1 k1 =>
  some (r1 - 1, ()))
set_option maxRecDepth 100000 in
set_option maxHeartbeats 4000000 in
theorem tX0_everyone (l : Launch) (D : va_G) (cI cJ cZ cS : ClassId) (tb : Nat) (a_t a_kinds a_costs a_terms a_known : Nat) (sz : Nat) (v_size : Int32) (v_list : Int32) (v_told : Int32) (rr : Int32) (kk' : Unit) (hf : fX0_everyone v_size = some (rr, kk')) : Met l yX0_everyone (Cond.code yX0_everyone cX0_everyone 1 (some .int) :: wA) rX0_everyone (q_Pre D cI cJ cZ cS tb [.ref a_t] sz (wX0_everyone cI cJ cZ cS a_t a_kinds a_costs a_terms a_known v_size v_list v_told)) (q_Ri D rr (va_A (wX0_everyone cI cJ cZ cS a_t a_kinds a_costs a_terms a_known v_size v_list v_told) sz) ((fun k : Unit => (wX0_everyone cI cJ cZ cS a_t a_kinds a_costs a_terms a_known v_size v_list v_told)) kk')) 0 0 (va_A (wX0_everyone cI cJ cZ cS a_t a_kinds a_costs a_terms a_known v_size v_list v_told) sz) := by
  refine q_enter (Qf := fun A => (q_Ri D rr A ((fun k : Unit => (wX0_everyone cI cJ cZ cS a_t a_kinds a_costs a_terms a_known v_size v_list v_told)) kk'))) (by decide) rfl (Nat.le_of_ble_eq_true rfl) ?_
  intro p e s m below meth c A ls fx hname h hl
  have hx := fx.1
  have hb := fx.2.1
  have hl : lv_has ls 1 [(0, .ref a_t)] := hl
  generalize h9 : s.heap = H at h ⊢
  clear h9
  generalize h9 : ([] : List Loc) = locs at h ⊢
  clear h9
  unfold fX0_everyone at hf
  refine lv_aload_n hx hb dX0_everyone_0 rfl (lv_at hl 0 rfl) ?_
  obtain ⟨r1, k1, hg, hf⟩ := bR_inv hf
  refine q_ci (rest := []) (ws' := (wX0_everyone cI cJ cZ cS a_t a_kinds a_costs a_terms a_known v_size v_list v_told)) (w1 := (wX0_lists cI cJ cZ cS a_t a_kinds a_costs a_terms a_known v_size v_list v_told)) fx h [0] rfl rfl rfl rfl (q_runV fx h hl.1 [0] rfl rfl (tX0_lists l D cI cJ cZ cS tb a_t a_kinds a_costs a_terms a_known H.size v_size v_list v_told r1 k1 hg) mvX0_lists k_350 ⟨rfl, rfl⟩ ⟨Nat.le_of_ble_eq_true rfl, Nat.le_of_ble_eq_true rfl⟩ rfl rfl rfl rfl (Nat.le_of_ble_eq_true rfl) dX0_everyone_1 ⟨Nat.le_of_ble_eq_true rfl, Nat.le_of_ble_eq_true rfl⟩) (fun H locs h => ?_)
  refine lv_iconst (v := 1) hx hb dX0_everyone_4 (by decide) ?_
  refine lv_isub hx hb dX0_everyone_5 ?_
  exact q_reti (fun k : Unit => (wX0_everyone cI cJ cZ cS a_t a_kinds a_costs a_terms a_known v_size v_list v_told)) fx hf h dX0_everyone_6
/-! X4_sure -/
abbrev wX4_sure (cI cJ cZ cS : ClassId) (a_t a_party a_party_kinds a_party_costs a_party_terms a_party_known a_kept a_tape a_telephone a_sheets a_findings : Nat) (v_isKept : Int32) (v_party_size : Int32) (v_party_list : Int32) (v_party_told : Int32) (v_party_kinds : Nat → Int32) (v_party_terms : Nat → Int64) (v_party_known : Nat → Int32) (v_findings : Nat → Int32) : va_W := [(a_t, .inr (4, [.ref a_party, .ref a_kept, .int v_isKept, .ref a_tape, .ref a_telephone, .ref a_sheets, .ref a_findings])), (a_party, .inr (0, [.int v_party_size, .int v_party_list, .int v_party_told, .ref a_party_kinds, .ref a_party_costs, .ref a_party_terms, .ref a_party_known])), (a_party_kinds, .inl (cI, 8, .inl v_party_kinds)), (a_party_terms, .inl (cJ, 32, .inr (.inl v_party_terms))), (a_party_known, .inl (cI, 256, .inl v_party_known)), (a_findings, .inl (cI, 7, .inl v_findings))]
abbrev rX4_sure : Room := { frames := 5, cells := 0, slots := 0, locals := 111 }
def fX4_sure_94 (v_party_size : Int32) (v_party_kinds : Nat → Int32) (v_party_terms : Nat → Int64) (ag36 : (Nat → Int32) → (Nat → Int32) → Int32 → Int32 → Int32 → Int32 → Int32 → Int32 → Option (Int32 × (Nat → Int32) × (Nat → Int32))) (v_party_known : Nat → Int32) (v_findings : Nat → Int32) (y1 : Int32) (y2 : Int32) (y3 : Int32) (y4 : Int32) (y5 : Int32) (y6 : Int32) : Option (Int32 × (Nat → Int32) × (Nat → Int32)) :=
  nm (y6 + 1) (fun u1 =>
  ag36 v_party_known v_findings y1 y2 y3 y4 y5 u1)
set_option maxRecDepth 100000 in
set_option maxHeartbeats 4000000 in
theorem LX4_sure_94 {p : Program} {l : Launch} {e : Env} {s : State} {m : MethodId} {args : Array Value} {below : List Frame} {meth : Method} {c : Code} {D : va_G} {cI cJ cZ cS : ClassId} {tb : Nat} {A : Nat → Prop} {a_t a_party a_party_kinds a_party_costs a_party_terms a_party_known a_kept a_tape a_telephone a_sheets a_findings : Nat} {v_isKept : Int32} {v_party_size : Int32} {v_party_list : Int32} {v_party_told : Int32} {v_party_kinds : Nat → Int32} {v_party_terms : Nat → Int64} {rr : Int32} {kk' : (Nat → Int32) × (Nat → Int32)} (fx : q_Fx p s m args meth c cX4_sure 7 RX4 (some .int) D cI cJ cZ cS tb A) {ag36 : (Nat → Int32) → (Nat → Int32) → Int32 → Int32 → Int32 → Int32 → Int32 → Int32 → Option (Int32 × (Nat → Int32) × (Nat → Int32))} (hag36 : ∀ {v_party_known : Nat → Int32} {v_findings : Nat → Int32} {y1 : Int32} {y2 : Int32} {y3 : Int32} {y4 : Int32} {y5 : Int32} {y6 : Int32} {H : Heap} {locs : List Loc} {ls : Array Slot}, q_H D A s (wX4_sure cI cJ cZ cS a_t a_party a_party_kinds a_party_costs a_party_terms a_party_known a_kept a_tape a_telephone a_sheets a_findings v_isKept v_party_size v_party_list v_party_told v_party_kinds v_party_terms v_party_known v_findings) H locs → lv_has ls 7 [(0, .ref a_t), (1, .int y1), (2, .int y2), (3, .int y3), (4, .int y4), (5, .int y5), (6, .int y6)] → ag36 v_party_known v_findings y1 y2 y3 y4 y5 y6 = some (rr, kk') → W p l e rX4_sure s m args below meth c H locs 0 0 (MQ below (q_Ri D rr A ((fun k : (Nat → Int32) × (Nat → Int32) => (wX4_sure cI cJ cZ cS a_t a_party a_party_kinds a_party_costs a_party_terms a_party_known a_kept a_tape a_telephone a_sheets a_findings v_isKept v_party_size v_party_list v_party_told v_party_kinds v_party_terms k.1 k.2)) kk')) args s 0 0 A) (F0 m 36 ls [])) : ∀ {v_party_known : Nat → Int32} {v_findings : Nat → Int32} {y1 : Int32} {y2 : Int32} {y3 : Int32} {y4 : Int32} {y5 : Int32} {y6 : Int32} {H : Heap} {locs : List Loc} {ls : Array Slot}, q_H D A s (wX4_sure cI cJ cZ cS a_t a_party a_party_kinds a_party_costs a_party_terms a_party_known a_kept a_tape a_telephone a_sheets a_findings v_isKept v_party_size v_party_list v_party_told v_party_kinds v_party_terms v_party_known v_findings) H locs → lv_has ls 7 [(0, .ref a_t), (1, .int y1), (2, .int y2), (3, .int y3), (4, .int y4), (5, .int y5), (6, .int y6)] → fX4_sure_94 v_party_size v_party_kinds v_party_terms ag36 v_party_known v_findings y1 y2 y3 y4 y5 y6 = some (rr, kk') → W p l e rX4_sure s m args below meth c H locs 0 0 (MQ below (q_Ri D rr A ((fun k : (Nat → Int32) × (Nat → Int32) => (wX4_sure cI cJ cZ cS a_t a_party a_party_kinds a_party_costs a_party_terms a_party_known a_kept a_tape a_telephone a_sheets a_findings v_isKept v_party_size v_party_list v_party_told v_party_kinds v_party_terms k.1 k.2)) kk')) args s 0 0 A) (F0 m 94 ls []) := by
  intro v_party_known v_findings y1 y2 y3 y4 y5 y6 H locs ls h hl hf
  have hx := fx.1
  have hb := fx.2.1
  unfold fX4_sure_94 at hf
  obtain ⟨u1, eu1, hf⟩ := nm_inv hf
  refine lv_iinc (v := u1) (lv' := [(6, .int u1), (0, .ref a_t), (1, .int y1), (2, .int y2), (3, .int y3), (4, .int y4), (5, .int y5)]) hx hb dX4_sure_94 hl (k := 6) rfl (by rw [eu1]; rfl) (by decide) rfl (fun ls hl => ?_)
  refine lv_goto (tgt := 36) hx hb dX4_sure_97 (by decide) ?_
  exact hag36 h (lv_sub hl [1, 2, 3, 4, 5, 6, 0] rfl) hf
def fX4_sure_36 (v_party_size : Int32) (v_party_kinds : Nat → Int32) (v_party_terms : Nat → Int64) (ag36 : (Nat → Int32) → (Nat → Int32) → Int32 → Int32 → Int32 → Int32 → Int32 → Int32 → Option (Int32 × (Nat → Int32) × (Nat → Int32))) (v_party_known : Nat → Int32) (v_findings : Nat → Int32) (y1 : Int32) (y2 : Int32) (y3 : Int32) (y4 : Int32) (y5 : Int32) (y6 : Int32) : Option (Int32 × (Nat → Int32) × (Nat → Int32)) :=
  bR (fX0_lists v_party_size) (fun r2 k2 =>
  (if r2 ≤ y6 then (
  (if (0 : Int32) ≤ y4 then (
  (if (y1).toInt < 0 ∨ 2 < (y1).toInt then (
  some (y5, (v_party_known, v_findings)))
  else (if y1 = 0 then (
  some (y2, (v_party_known, v_findings)))
  else (if y1 = 1 then (
  some (y3, (v_party_known, v_findings)))
  else (if y1 = 2 then (
  some (y4, (v_party_known, v_findings)))
  else none)))))
  else (
  bR (fX4_found v_findings (-1000000004)) (fun r9 k9 =>
  some (r9, (v_party_known, k9))))))
  else (
  bR (fX0_isSettled v_party_size v_party_kinds v_party_terms v_party_known y6) (fun r10 k10 =>
  (if r10 = 0 then (
  fX4_sure_94 v_party_size v_party_kinds v_party_terms ag36 k10 v_findings y1 y2 y3 y4 y5 y6)
  else (
  nm (y2 &&& y6) (fun u12 =>
  nm (y3 ||| y6) (fun u13 =>
  bR (fJ6_bitCount_0f7a4 y6) (fun r14 k14 =>
  nm (jmax y4 r14) (fun u15 =>
  bR (fJ6_bitCount_0f7a4 y6) (fun r16 k16 =>
  nm (jmin y5 r16) (fun u17 =>
  fX4_sure_94 v_party_size v_party_kinds v_party_terms ag36 k10 v_findings y1 u12 u13 u15 u17 y6))))))))))))
set_option maxRecDepth 100000 in
set_option maxHeartbeats 4000000 in
theorem LX4_sure_36 {p : Program} {l : Launch} {e : Env} {s : State} {m : MethodId} {args : Array Value} {below : List Frame} {meth : Method} {c : Code} {D : va_G} {cI cJ cZ cS : ClassId} {tb : Nat} {A : Nat → Prop} {a_t a_party a_party_kinds a_party_costs a_party_terms a_party_known a_kept a_tape a_telephone a_sheets a_findings : Nat} {v_isKept : Int32} {v_party_size : Int32} {v_party_list : Int32} {v_party_told : Int32} {v_party_kinds : Nat → Int32} {v_party_terms : Nat → Int64} {rr : Int32} {kk' : (Nat → Int32) × (Nat → Int32)} (fx : q_Fx p s m args meth c cX4_sure 7 RX4 (some .int) D cI cJ cZ cS tb A) {ag36 : (Nat → Int32) → (Nat → Int32) → Int32 → Int32 → Int32 → Int32 → Int32 → Int32 → Option (Int32 × (Nat → Int32) × (Nat → Int32))} (hag36 : ∀ {v_party_known : Nat → Int32} {v_findings : Nat → Int32} {y1 : Int32} {y2 : Int32} {y3 : Int32} {y4 : Int32} {y5 : Int32} {y6 : Int32} {H : Heap} {locs : List Loc} {ls : Array Slot}, q_H D A s (wX4_sure cI cJ cZ cS a_t a_party a_party_kinds a_party_costs a_party_terms a_party_known a_kept a_tape a_telephone a_sheets a_findings v_isKept v_party_size v_party_list v_party_told v_party_kinds v_party_terms v_party_known v_findings) H locs → lv_has ls 7 [(0, .ref a_t), (1, .int y1), (2, .int y2), (3, .int y3), (4, .int y4), (5, .int y5), (6, .int y6)] → ag36 v_party_known v_findings y1 y2 y3 y4 y5 y6 = some (rr, kk') → W p l e rX4_sure s m args below meth c H locs 0 0 (MQ below (q_Ri D rr A ((fun k : (Nat → Int32) × (Nat → Int32) => (wX4_sure cI cJ cZ cS a_t a_party a_party_kinds a_party_costs a_party_terms a_party_known a_kept a_tape a_telephone a_sheets a_findings v_isKept v_party_size v_party_list v_party_told v_party_kinds v_party_terms k.1 k.2)) kk')) args s 0 0 A) (F0 m 36 ls [])) : ∀ {v_party_known : Nat → Int32} {v_findings : Nat → Int32} {y1 : Int32} {y2 : Int32} {y3 : Int32} {y4 : Int32} {y5 : Int32} {y6 : Int32} {H : Heap} {locs : List Loc} {ls : Array Slot}, q_H D A s (wX4_sure cI cJ cZ cS a_t a_party a_party_kinds a_party_costs a_party_terms a_party_known a_kept a_tape a_telephone a_sheets a_findings v_isKept v_party_size v_party_list v_party_told v_party_kinds v_party_terms v_party_known v_findings) H locs → lv_has ls 7 [(0, .ref a_t), (1, .int y1), (2, .int y2), (3, .int y3), (4, .int y4), (5, .int y5), (6, .int y6)] → fX4_sure_36 v_party_size v_party_kinds v_party_terms ag36 v_party_known v_findings y1 y2 y3 y4 y5 y6 = some (rr, kk') → W p l e rX4_sure s m args below meth c H locs 0 0 (MQ below (q_Ri D rr A ((fun k : (Nat → Int32) × (Nat → Int32) => (wX4_sure cI cJ cZ cS a_t a_party a_party_kinds a_party_costs a_party_terms a_party_known a_kept a_tape a_telephone a_sheets a_findings v_isKept v_party_size v_party_list v_party_told v_party_kinds v_party_terms k.1 k.2)) kk')) args s 0 0 A) (F0 m 36 ls []) := by
  intro v_party_known v_findings y1 y2 y3 y4 y5 y6 H locs ls h hl hf
  have hx := fx.1
  have hb := fx.2.1
  unfold fX4_sure_36 at hf
  refine lv_iload hx hb dX4_sure_36 (lv_at hl 6 rfl) ?_
  refine lv_aload_n hx hb dX4_sure_38 rfl (lv_at hl 0 rfl) ?_
  refine q_get (v := .ref a_party) fx inX4 h 0 rfl rfl 0 (by decide) k_174 rfl dX4_sure_39 ?_
  obtain ⟨r2, k2, hg, hf⟩ := bR_inv hf
  refine q_ci (rest := [.int y6]) (ws' := (wX4_sure cI cJ cZ cS a_t a_party a_party_kinds a_party_costs a_party_terms a_party_known a_kept a_tape a_telephone a_sheets a_findings v_isKept v_party_size v_party_list v_party_told v_party_kinds v_party_terms v_party_known v_findings)) (w1 := (wX0_lists cI cJ cZ cS a_party a_party_kinds a_party_costs a_party_terms a_party_known v_party_size v_party_list v_party_told)) fx h [1] rfl rfl rfl rfl (q_runV fx h hl.1 [1] rfl rfl (tX0_lists l D cI cJ cZ cS tb a_party a_party_kinds a_party_costs a_party_terms a_party_known H.size v_party_size v_party_list v_party_told r2 k2 hg) mvX0_lists k_447 ⟨rfl, rfl⟩ ⟨Nat.le_of_ble_eq_true rfl, Nat.le_of_ble_eq_true rfl⟩ rfl rfl rfl rfl (Nat.le_of_ble_eq_true rfl) dX4_sure_42 ⟨Nat.le_of_ble_eq_true rfl, Nat.le_of_ble_eq_true rfl⟩) (fun H locs h => ?_)
  refine lv_icmp_ge (tgt := 100) hx hb dX4_sure_45 (by decide) (fun c3 => ?_) (fun c3 => ?_)
  · have hf := it_t c3 hf
    refine lv_iload hx hb dX4_sure_100 (lv_at hl 4 rfl) ?_
    refine lv_if_ge (tgt := 112) hx hb dX4_sure_102 (by decide) (fun c4 => ?_) (fun c4 => ?_)
    · have hf := it_t c4 hf
      refine lv_iload_n hx hb dX4_sure_112 rfl (lv_at hl 1 rfl) ?_
      rcases it_or hf with ⟨c5, hf⟩ | ⟨c5, hf⟩
      · refine lv_tableOut (tgt := 147) hx hb dX4_sure_113 c5 (by decide) ?_
        refine lv_iload hx hb dX4_sure_147 (lv_at hl 5 rfl) ?_
        exact q_reti (fun k : (Nat → Int32) × (Nat → Int32) => (wX4_sure cI cJ cZ cS a_t a_party a_party_kinds a_party_costs a_party_terms a_party_known a_kept a_tape a_telephone a_sheets a_findings v_isKept v_party_size v_party_list v_party_told v_party_kinds v_party_terms k.1 k.2)) fx hf h dX4_sure_149
      have c5 := not_or.mp c5
      rcases it_or hf with ⟨c6, hf⟩ | ⟨c6, hf⟩
      · refine lv_tableIn (off := 27) (tgt := 140) hx hb dX4_sure_113 c5.1 c5.2 (by rw [c6]; rfl) (by decide) ?_
        refine lv_iload_n hx hb dX4_sure_140 rfl (lv_at hl 2 rfl) ?_
        exact q_reti (fun k : (Nat → Int32) × (Nat → Int32) => (wX4_sure cI cJ cZ cS a_t a_party a_party_kinds a_party_costs a_party_terms a_party_known a_kept a_tape a_telephone a_sheets a_findings v_isKept v_party_size v_party_list v_party_told v_party_kinds v_party_terms k.1 k.2)) fx hf h dX4_sure_141
      rcases it_or hf with ⟨c7, hf⟩ | ⟨c7, hf⟩
      · refine lv_tableIn (off := 29) (tgt := 142) hx hb dX4_sure_113 c5.1 c5.2 (by rw [c7]; rfl) (by decide) ?_
        refine lv_iload_n hx hb dX4_sure_142 rfl (lv_at hl 3 rfl) ?_
        exact q_reti (fun k : (Nat → Int32) × (Nat → Int32) => (wX4_sure cI cJ cZ cS a_t a_party a_party_kinds a_party_costs a_party_terms a_party_known a_kept a_tape a_telephone a_sheets a_findings v_isKept v_party_size v_party_list v_party_told v_party_kinds v_party_terms k.1 k.2)) fx hf h dX4_sure_143
      rcases it_or hf with ⟨c8, hf⟩ | ⟨c8, hf⟩
      · refine lv_tableIn (off := 31) (tgt := 144) hx hb dX4_sure_113 c5.1 c5.2 (by rw [c8]; rfl) (by decide) ?_
        refine lv_iload hx hb dX4_sure_144 (lv_at hl 4 rfl) ?_
        exact q_reti (fun k : (Nat → Int32) × (Nat → Int32) => (wX4_sure cI cJ cZ cS a_t a_party a_party_kinds a_party_costs a_party_terms a_party_known a_kept a_tape a_telephone a_sheets a_findings v_isKept v_party_size v_party_list v_party_told v_party_kinds v_party_terms k.1 k.2)) fx hf h dX4_sure_146
      cases hf
    have hf := it_f c4 hf
    refine lv_aload_n hx hb dX4_sure_105 rfl (lv_at hl 0 rfl) ?_
    refine q_ldc fx k_402 dX4_sure_106 ?_
    obtain ⟨r9, k9, hg, hf⟩ := bR_inv hf
    refine q_ci (rest := []) (ws' := (wX4_sure cI cJ cZ cS a_t a_party a_party_kinds a_party_costs a_party_terms a_party_known a_kept a_tape a_telephone a_sheets a_findings v_isKept v_party_size v_party_list v_party_told v_party_kinds v_party_terms v_party_known k9)) (w1 := (wX4_found cI cJ cZ cS a_t a_party a_kept a_tape a_telephone a_sheets a_findings v_isKept k9)) fx h [0, 5] rfl rfl rfl rfl (q_runV fx h hl.1 [0, 5] rfl rfl (tX4_found l D cI cJ cZ cS tb a_t a_party a_kept a_tape a_telephone a_sheets a_findings H.size v_isKept v_findings (-1000000004) r9 k9 hg) mvX4_found k_207 ⟨rfl, rfl⟩ ⟨Nat.le_of_ble_eq_true rfl, Nat.le_of_ble_eq_true rfl⟩ rfl rfl rfl rfl (Nat.le_of_ble_eq_true rfl) dX4_sure_108 ⟨Nat.le_of_ble_eq_true rfl, Nat.le_of_ble_eq_true rfl⟩) (fun H locs h => ?_)
    exact q_reti (fun k : (Nat → Int32) × (Nat → Int32) => (wX4_sure cI cJ cZ cS a_t a_party a_party_kinds a_party_costs a_party_terms a_party_known a_kept a_tape a_telephone a_sheets a_findings v_isKept v_party_size v_party_list v_party_told v_party_kinds v_party_terms k.1 k.2)) fx hf h dX4_sure_111
  have hf := it_f c3 hf
  refine lv_aload_n hx hb dX4_sure_48 rfl (lv_at hl 0 rfl) ?_
  refine q_get (v := .ref a_party) fx inX4 h 0 rfl rfl 0 (by decide) k_174 rfl dX4_sure_49 ?_
  refine lv_iload hx hb dX4_sure_52 (lv_at hl 6 rfl) ?_
  obtain ⟨r10, k10, hg, hf⟩ := bR_inv hf
  refine q_ci (rest := []) (ws' := (wX4_sure cI cJ cZ cS a_t a_party a_party_kinds a_party_costs a_party_terms a_party_known a_kept a_tape a_telephone a_sheets a_findings v_isKept v_party_size v_party_list v_party_told v_party_kinds v_party_terms k10 v_findings)) (w1 := (wX0_isSettled cI cJ cZ cS a_party a_party_kinds a_party_costs a_party_terms a_party_known v_party_size v_party_list v_party_told v_party_kinds v_party_terms k10)) fx h [1, 2, 3, 4] rfl rfl rfl rfl (q_runV fx h hl.1 [1, 2, 3, 4] rfl rfl (tX0_isSettled l D cI cJ cZ cS tb a_party a_party_kinds a_party_costs a_party_terms a_party_known H.size v_party_size v_party_list v_party_told v_party_kinds v_party_terms v_party_known y6 r10 k10 hg) mvX0_isSettled k_358 ⟨rfl, rfl⟩ ⟨Nat.le_of_ble_eq_true rfl, Nat.le_of_ble_eq_true rfl⟩ rfl rfl rfl rfl (Nat.le_of_ble_eq_true rfl) dX4_sure_54 ⟨Nat.le_of_ble_eq_true rfl, Nat.le_of_ble_eq_true rfl⟩) (fun H locs h => ?_)
  refine lv_if_eq (tgt := 94) hx hb dX4_sure_57 (by decide) (fun c11 => ?_) (fun c11 => ?_)
  · have hf := it_t c11 hf
    exact LX4_sure_94 fx hag36 h (lv_sub hl [0, 1, 2, 3, 4, 5, 6] rfl) hf
  have hf := it_f c11 hf
  refine lv_iload_n hx hb dX4_sure_60 rfl (lv_at hl 2 rfl) ?_
  refine lv_iload hx hb dX4_sure_61 (lv_at hl 6 rfl) ?_
  refine lv_iand hx hb dX4_sure_63 ?_
  obtain ⟨u12, eu12, hf⟩ := nm_inv hf
  refine lv_eqi eu12 ?_
  refine lv_istore_n (lv' := [(2, .int u12), (0, .ref a_t), (1, .int y1), (3, .int y3), (4, .int y4), (5, .int y5), (6, .int y6)]) hx hb dX4_sure_64 rfl hl (by decide) rfl (fun ls hl => ?_)
  refine lv_iload_n hx hb dX4_sure_65 rfl (lv_at hl 3 rfl) ?_
  refine lv_iload hx hb dX4_sure_66 (lv_at hl 6 rfl) ?_
  refine lv_ior hx hb dX4_sure_68 ?_
  obtain ⟨u13, eu13, hf⟩ := nm_inv hf
  refine lv_eqi eu13 ?_
  refine lv_istore_n (lv' := [(3, .int u13), (2, .int u12), (0, .ref a_t), (1, .int y1), (4, .int y4), (5, .int y5), (6, .int y6)]) hx hb dX4_sure_69 rfl hl (by decide) rfl (fun ls hl => ?_)
  refine lv_iload hx hb dX4_sure_70 (lv_at hl 4 rfl) ?_
  refine lv_iload hx hb dX4_sure_72 (lv_at hl 6 rfl) ?_
  obtain ⟨r14, k14, hg, hf⟩ := bR_inv hf
  refine q_ci (rest := [.int y4]) (ws' := (wX4_sure cI cJ cZ cS a_t a_party a_party_kinds a_party_costs a_party_terms a_party_known a_kept a_tape a_telephone a_sheets a_findings v_isKept v_party_size v_party_list v_party_told v_party_kinds v_party_terms k10 v_findings)) (w1 := (wJ6_bitCount_0f7a4 cI cJ cZ cS)) fx h [] rfl rfl rfl rfl (q_runS fx h hl.1 [] rfl rfl (tJ6_bitCount_0f7a4 l D cI cJ cZ cS tb H.size y6 r14 k14 hg) msJ6_bitCount_0f7a4 k_239 ⟨rfl, rfl⟩ ⟨Nat.le_of_ble_eq_true rfl, Nat.le_of_ble_eq_true rfl⟩ rfl rfl (Nat.le_of_ble_eq_true rfl) dX4_sure_74 ⟨Nat.le_of_ble_eq_true rfl, Nat.le_of_ble_eq_true rfl⟩) (fun H locs h => ?_)
  refine q_mmax fx hl.1 k_460 (Nat.le_of_ble_eq_true rfl) (Nat.le_of_ble_eq_true rfl) (Nat.le_of_ble_eq_true rfl) (Nat.le_of_ble_eq_true rfl) dX4_sure_77 ?_
  obtain ⟨u15, eu15, hf⟩ := nm_inv hf
  refine lv_eqi eu15 ?_
  refine lv_istore (lv' := [(4, .int u15), (3, .int u13), (2, .int u12), (0, .ref a_t), (1, .int y1), (5, .int y5), (6, .int y6)]) hx hb dX4_sure_80 hl (by decide) rfl (fun ls hl => ?_)
  refine lv_iload hx hb dX4_sure_82 (lv_at hl 5 rfl) ?_
  refine lv_iload hx hb dX4_sure_84 (lv_at hl 6 rfl) ?_
  obtain ⟨r16, k16, hg, hf⟩ := bR_inv hf
  refine q_ci (rest := [.int y5]) (ws' := (wX4_sure cI cJ cZ cS a_t a_party a_party_kinds a_party_costs a_party_terms a_party_known a_kept a_tape a_telephone a_sheets a_findings v_isKept v_party_size v_party_list v_party_told v_party_kinds v_party_terms k10 v_findings)) (w1 := (wJ6_bitCount_0f7a4 cI cJ cZ cS)) fx h [] rfl rfl rfl rfl (q_runS fx h hl.1 [] rfl rfl (tJ6_bitCount_0f7a4 l D cI cJ cZ cS tb H.size y6 r16 k16 hg) msJ6_bitCount_0f7a4 k_239 ⟨rfl, rfl⟩ ⟨Nat.le_of_ble_eq_true rfl, Nat.le_of_ble_eq_true rfl⟩ rfl rfl (Nat.le_of_ble_eq_true rfl) dX4_sure_86 ⟨Nat.le_of_ble_eq_true rfl, Nat.le_of_ble_eq_true rfl⟩) (fun H locs h => ?_)
  refine q_mmin fx hl.1 k_463 (Nat.le_of_ble_eq_true rfl) (Nat.le_of_ble_eq_true rfl) (Nat.le_of_ble_eq_true rfl) (Nat.le_of_ble_eq_true rfl) dX4_sure_89 ?_
  obtain ⟨u17, eu17, hf⟩ := nm_inv hf
  refine lv_eqi eu17 ?_
  refine lv_istore (lv' := [(5, .int u17), (4, .int u15), (3, .int u13), (2, .int u12), (0, .ref a_t), (1, .int y1), (6, .int y6)]) hx hb dX4_sure_92 hl (by decide) rfl (fun ls hl => ?_)
  exact LX4_sure_94 fx hag36 h (lv_sub hl [4, 5, 3, 2, 1, 0, 6] rfl) hf
set_option maxRecDepth 100000 in
theorem EX4_sure_36 {p : Program} {l : Launch} {e : Env} {s : State} {m : MethodId} {args : Array Value} {below : List Frame} {meth : Method} {c : Code} {D : va_G} {cI cJ cZ cS : ClassId} {tb : Nat} {A : Nat → Prop} {a_t a_party a_party_kinds a_party_costs a_party_terms a_party_known a_kept a_tape a_telephone a_sheets a_findings : Nat} {v_isKept : Int32} {v_party_size : Int32} {v_party_list : Int32} {v_party_told : Int32} {v_party_kinds : Nat → Int32} {v_party_terms : Nat → Int64} {rr : Int32} {kk' : (Nat → Int32) × (Nat → Int32)} (fx : q_Fx p s m args meth c cX4_sure 7 RX4 (some .int) D cI cJ cZ cS tb A) : ∀ (n : Nat), ∀ {v_party_known : Nat → Int32} {v_findings : Nat → Int32} {y1 : Int32} {y2 : Int32} {y3 : Int32} {y4 : Int32} {y5 : Int32} {y6 : Int32} {H : Heap} {locs : List Loc} {ls : Array Slot}, q_H D A s (wX4_sure cI cJ cZ cS a_t a_party a_party_kinds a_party_costs a_party_terms a_party_known a_kept a_tape a_telephone a_sheets a_findings v_isKept v_party_size v_party_list v_party_told v_party_kinds v_party_terms v_party_known v_findings) H locs → lv_has ls 7 [(0, .ref a_t), (1, .int y1), (2, .int y2), (3, .int y3), (4, .int y4), (5, .int y5), (6, .int y6)] → ll8 (fX4_sure_36 v_party_size v_party_kinds v_party_terms) n v_party_known v_findings y1 y2 y3 y4 y5 y6 = some (rr, kk') → W p l e rX4_sure s m args below meth c H locs 0 0 (MQ below (q_Ri D rr A ((fun k : (Nat → Int32) × (Nat → Int32) => (wX4_sure cI cJ cZ cS a_t a_party a_party_kinds a_party_costs a_party_terms a_party_known a_kept a_tape a_telephone a_sheets a_findings v_isKept v_party_size v_party_list v_party_told v_party_kinds v_party_terms k.1 k.2)) kk')) args s 0 0 A) (F0 m 36 ls []) := by
  intro n
  induction n with
  | zero => intro v_party_known v_findings y1 y2 y3 y4 y5 y6 H locs ls h hl hf; exact (ll8_z hf).elim
  | succ n ih => intro v_party_known v_findings y1 y2 y3 y4 y5 y6 H locs ls h hl hf; exact LX4_sure_36 fx ih h hl (ll8_s hf)
def fX4_sure_9 (v_party_size : Int32) (v_party_kinds : Nat → Int32) (v_party_terms : Nat → Int64) (v_party_known : Nat → Int32) (v_findings : Nat → Int32) : Option (Int32 × (Nat → Int32) × (Nat → Int32)) :=
  bR (fX4_found v_findings (-1000000001)) (fun r18 k18 =>
  some (r18, (v_party_known, k18)))
set_option maxRecDepth 100000 in
set_option maxHeartbeats 4000000 in
theorem LX4_sure_9 {p : Program} {l : Launch} {e : Env} {s : State} {m : MethodId} {args : Array Value} {below : List Frame} {meth : Method} {c : Code} {D : va_G} {cI cJ cZ cS : ClassId} {tb : Nat} {A : Nat → Prop} {a_t a_party a_party_kinds a_party_costs a_party_terms a_party_known a_kept a_tape a_telephone a_sheets a_findings : Nat} {v_isKept : Int32} {v_party_size : Int32} {v_party_list : Int32} {v_party_told : Int32} {v_party_kinds : Nat → Int32} {v_party_terms : Nat → Int64} {rr : Int32} {kk' : (Nat → Int32) × (Nat → Int32)} (fx : q_Fx p s m args meth c cX4_sure 7 RX4 (some .int) D cI cJ cZ cS tb A) : ∀ {v_party_known : Nat → Int32} {v_findings : Nat → Int32} {H : Heap} {locs : List Loc} {ls : Array Slot}, q_H D A s (wX4_sure cI cJ cZ cS a_t a_party a_party_kinds a_party_costs a_party_terms a_party_known a_kept a_tape a_telephone a_sheets a_findings v_isKept v_party_size v_party_list v_party_told v_party_kinds v_party_terms v_party_known v_findings) H locs → lv_has ls 7 [(0, .ref a_t)] → fX4_sure_9 v_party_size v_party_kinds v_party_terms v_party_known v_findings = some (rr, kk') → W p l e rX4_sure s m args below meth c H locs 0 0 (MQ below (q_Ri D rr A ((fun k : (Nat → Int32) × (Nat → Int32) => (wX4_sure cI cJ cZ cS a_t a_party a_party_kinds a_party_costs a_party_terms a_party_known a_kept a_tape a_telephone a_sheets a_findings v_isKept v_party_size v_party_list v_party_told v_party_kinds v_party_terms k.1 k.2)) kk')) args s 0 0 A) (F0 m 9 ls []) := by
  intro v_party_known v_findings H locs ls h hl hf
  have hx := fx.1
  have hb := fx.2.1
  unfold fX4_sure_9 at hf
  refine lv_aload_n hx hb dX4_sure_9 rfl (lv_at hl 0 rfl) ?_
  refine q_ldc fx k_206 dX4_sure_10 ?_
  obtain ⟨r18, k18, hg, hf⟩ := bR_inv hf
  refine q_ci (rest := []) (ws' := (wX4_sure cI cJ cZ cS a_t a_party a_party_kinds a_party_costs a_party_terms a_party_known a_kept a_tape a_telephone a_sheets a_findings v_isKept v_party_size v_party_list v_party_told v_party_kinds v_party_terms v_party_known k18)) (w1 := (wX4_found cI cJ cZ cS a_t a_party a_kept a_tape a_telephone a_sheets a_findings v_isKept k18)) fx h [0, 5] rfl rfl rfl rfl (q_runV fx h hl.1 [0, 5] rfl rfl (tX4_found l D cI cJ cZ cS tb a_t a_party a_kept a_tape a_telephone a_sheets a_findings H.size v_isKept v_findings (-1000000001) r18 k18 hg) mvX4_found k_207 ⟨rfl, rfl⟩ ⟨Nat.le_of_ble_eq_true rfl, Nat.le_of_ble_eq_true rfl⟩ rfl rfl rfl rfl (Nat.le_of_ble_eq_true rfl) dX4_sure_12 ⟨Nat.le_of_ble_eq_true rfl, Nat.le_of_ble_eq_true rfl⟩) (fun H locs h => ?_)
  exact q_reti (fun k : (Nat → Int32) × (Nat → Int32) => (wX4_sure cI cJ cZ cS a_t a_party a_party_kinds a_party_costs a_party_terms a_party_known a_kept a_tape a_telephone a_sheets a_findings v_isKept v_party_size v_party_list v_party_told v_party_kinds v_party_terms k.1 k.2)) fx hf h dX4_sure_15
def fX4_sure (v_party_size : Int32) (v_party_kinds : Nat → Int32) (v_party_terms : Nat → Int64) (v_party_known : Nat → Int32) (v_findings : Nat → Int32) (x1 : Int32) : Option (Int32 × (Nat → Int32) × (Nat → Int32)) :=
  (if x1 < 0 then (
  fX4_sure_9 v_party_size v_party_kinds v_party_terms v_party_known v_findings)
  else (
  (if x1 ≤ 3 then (
  bR (fX0_everyone v_party_size) (fun r21 k21 =>
  ll8 (fX4_sure_36 v_party_size v_party_kinds v_party_terms) qF v_party_known v_findings x1 r21 0 (-1) 8 0))
  else (
  fX4_sure_9 v_party_size v_party_kinds v_party_terms v_party_known v_findings))))
set_option maxRecDepth 100000 in
set_option maxHeartbeats 4000000 in
theorem tX4_sure (l : Launch) (D : va_G) (cI cJ cZ cS : ClassId) (tb : Nat) (a_t a_party a_party_kinds a_party_costs a_party_terms a_party_known a_kept a_tape a_telephone a_sheets a_findings : Nat) (sz : Nat) (v_isKept : Int32) (v_party_size : Int32) (v_party_list : Int32) (v_party_told : Int32) (v_party_kinds : Nat → Int32) (v_party_terms : Nat → Int64) (v_party_known : Nat → Int32) (v_findings : Nat → Int32) (x1 : Int32) (rr : Int32) (kk' : (Nat → Int32) × (Nat → Int32)) (hf : fX4_sure v_party_size v_party_kinds v_party_terms v_party_known v_findings x1 = some (rr, kk')) : Met l yX4_sure (Cond.code yX4_sure cX4_sure 7 (some .int) :: wA) rX4_sure (q_Pre D cI cJ cZ cS tb [.ref a_t, .int x1] sz (wX4_sure cI cJ cZ cS a_t a_party a_party_kinds a_party_costs a_party_terms a_party_known a_kept a_tape a_telephone a_sheets a_findings v_isKept v_party_size v_party_list v_party_told v_party_kinds v_party_terms v_party_known v_findings)) (q_Ri D rr (va_A (wX4_sure cI cJ cZ cS a_t a_party a_party_kinds a_party_costs a_party_terms a_party_known a_kept a_tape a_telephone a_sheets a_findings v_isKept v_party_size v_party_list v_party_told v_party_kinds v_party_terms v_party_known v_findings) sz) ((fun k : (Nat → Int32) × (Nat → Int32) => (wX4_sure cI cJ cZ cS a_t a_party a_party_kinds a_party_costs a_party_terms a_party_known a_kept a_tape a_telephone a_sheets a_findings v_isKept v_party_size v_party_list v_party_told v_party_kinds v_party_terms k.1 k.2)) kk')) 0 0 (va_A (wX4_sure cI cJ cZ cS a_t a_party a_party_kinds a_party_costs a_party_terms a_party_known a_kept a_tape a_telephone a_sheets a_findings v_isKept v_party_size v_party_list v_party_told v_party_kinds v_party_terms v_party_known v_findings) sz) := by
  refine q_enter (Qf := fun A => (q_Ri D rr A ((fun k : (Nat → Int32) × (Nat → Int32) => (wX4_sure cI cJ cZ cS a_t a_party a_party_kinds a_party_costs a_party_terms a_party_known a_kept a_tape a_telephone a_sheets a_findings v_isKept v_party_size v_party_list v_party_told v_party_kinds v_party_terms k.1 k.2)) kk'))) (by decide) rfl (Nat.le_of_ble_eq_true rfl) ?_
  intro p e s m below meth c A ls fx hname h hl
  have hx := fx.1
  have hb := fx.2.1
  have hl : lv_has ls 7 [(0, .ref a_t), (1, .int x1)] := hl
  generalize h9 : s.heap = H at h ⊢
  clear h9
  generalize h9 : ([] : List Loc) = locs at h ⊢
  clear h9
  unfold fX4_sure at hf
  refine lv_iload_n hx hb dX4_sure_0 rfl (lv_at hl 1 rfl) ?_
  refine lv_if_lt (tgt := 9) hx hb dX4_sure_1 (by decide) (fun c19 => ?_) (fun c19 => ?_)
  · have hf := it_t c19 hf
    exact LX4_sure_9 fx h (lv_sub hl [0] rfl) hf
  have hf := it_f c19 hf
  refine lv_iload_n hx hb dX4_sure_4 rfl (lv_at hl 1 rfl) ?_
  refine lv_iconst (v := 3) hx hb dX4_sure_5 (by decide) ?_
  refine lv_icmp_le (tgt := 16) hx hb dX4_sure_6 (by decide) (fun c20 => ?_) (fun c20 => ?_)
  · have hf := it_t c20 hf
    refine lv_aload_n hx hb dX4_sure_16 rfl (lv_at hl 0 rfl) ?_
    refine q_get (v := .ref a_party) fx inX4 h 0 rfl rfl 0 (by decide) k_174 rfl dX4_sure_17 ?_
    obtain ⟨r21, k21, hg, hf⟩ := bR_inv hf
    refine q_ci (rest := []) (ws' := (wX4_sure cI cJ cZ cS a_t a_party a_party_kinds a_party_costs a_party_terms a_party_known a_kept a_tape a_telephone a_sheets a_findings v_isKept v_party_size v_party_list v_party_told v_party_kinds v_party_terms v_party_known v_findings)) (w1 := (wX0_everyone cI cJ cZ cS a_party a_party_kinds a_party_costs a_party_terms a_party_known v_party_size v_party_list v_party_told)) fx h [1] rfl rfl rfl rfl (q_runV fx h hl.1 [1] rfl rfl (tX0_everyone l D cI cJ cZ cS tb a_party a_party_kinds a_party_costs a_party_terms a_party_known H.size v_party_size v_party_list v_party_told r21 k21 hg) mvX0_everyone k_456 ⟨rfl, rfl⟩ ⟨Nat.le_of_ble_eq_true rfl, Nat.le_of_ble_eq_true rfl⟩ rfl rfl rfl rfl (Nat.le_of_ble_eq_true rfl) dX4_sure_20 ⟨Nat.le_of_ble_eq_true rfl, Nat.le_of_ble_eq_true rfl⟩) (fun H locs h => ?_)
    refine lv_istore_n (lv' := [(2, .int r21), (0, .ref a_t), (1, .int x1)]) hx hb dX4_sure_23 rfl hl (by decide) rfl (fun ls hl => ?_)
    refine lv_iconst (v := 0) hx hb dX4_sure_24 (by decide) ?_
    refine lv_istore_n (lv' := [(3, .int 0), (2, .int r21), (0, .ref a_t), (1, .int x1)]) hx hb dX4_sure_25 rfl hl (by decide) rfl (fun ls hl => ?_)
    refine lv_iconst (v := -1) hx hb dX4_sure_26 (by decide) ?_
    refine lv_istore (lv' := [(4, .int (-1)), (3, .int 0), (2, .int r21), (0, .ref a_t), (1, .int x1)]) hx hb dX4_sure_27 hl (by decide) rfl (fun ls hl => ?_)
    refine lv_bipush (v := 8) hx hb dX4_sure_29 (by decide) ?_
    refine lv_istore (lv' := [(5, .int 8), (4, .int (-1)), (3, .int 0), (2, .int r21), (0, .ref a_t), (1, .int x1)]) hx hb dX4_sure_31 hl (by decide) rfl (fun ls hl => ?_)
    refine lv_iconst (v := 0) hx hb dX4_sure_33 (by decide) ?_
    refine lv_istore (lv' := [(6, .int 0), (5, .int 8), (4, .int (-1)), (3, .int 0), (2, .int r21), (0, .ref a_t), (1, .int x1)]) hx hb dX4_sure_34 hl (by decide) rfl (fun ls hl => ?_)
    exact EX4_sure_36 fx qF h (lv_sub hl [5, 6, 4, 3, 2, 1, 0] rfl) hf
  have hf := it_f c20 hf
  exact LX4_sure_9 fx h (lv_sub hl [0] rfl) hf
/-! X4_basin -/
abbrev wX4_basin (cI cJ cZ cS : ClassId) (a_t a_party a_party_kinds a_party_costs a_party_terms a_party_known a_kept a_tape a_telephone a_sheets a_findings : Nat) (v_isKept : Int32) (v_party_size : Int32) (v_party_list : Int32) (v_party_told : Int32) (v_party_kinds : Nat → Int32) (v_party_terms : Nat → Int64) (v_party_known : Nat → Int32) : va_W := [(a_t, .inr (4, [.ref a_party, .ref a_kept, .int v_isKept, .ref a_tape, .ref a_telephone, .ref a_sheets, .ref a_findings])), (a_party, .inr (0, [.int v_party_size, .int v_party_list, .int v_party_told, .ref a_party_kinds, .ref a_party_costs, .ref a_party_terms, .ref a_party_known])), (a_party_kinds, .inl (cI, 8, .inl v_party_kinds)), (a_party_terms, .inl (cJ, 32, .inr (.inl v_party_terms))), (a_party_known, .inl (cI, 256, .inl v_party_known))]
abbrev rX4_basin : Room := { frames := 6, cells := 0, slots := 0, locals := 135 }
def fX4_basin_4 (v_party_size : Int32) (v_party_kinds : Nat → Int32) (v_party_terms : Nat → Int64) (ag4 : (Nat → Int32) → Int32 → Int32 → Option (Int32 × (Nat → Int32))) (v_party_known : Nat → Int32) (y1 : Int32) (y2 : Int32) : Option (Int32 × (Nat → Int32)) :=
  bR (fX0_lists v_party_size) (fun r1 k1 =>
  (if r1 ≤ y2 then (
  some (y1, v_party_known))
  else (
  bR (fX0_behind v_party_size v_party_kinds v_party_terms v_party_known y2 256) (fun r3 k3 =>
  bR (fX0_isSettled v_party_size v_party_kinds v_party_terms k3 r3) (fun r4 k4 =>
  bR (fX4_oneIf r4) (fun r5 k5 =>
  nm (y1 + r5) (fun u6 =>
  nm (y2 + 1) (fun u7 =>
  ag4 k4 u6 u7))))))))
set_option maxRecDepth 100000 in
set_option maxHeartbeats 4000000 in
theorem LX4_basin_4 {p : Program} {l : Launch} {e : Env} {s : State} {m : MethodId} {args : Array Value} {below : List Frame} {meth : Method} {c : Code} {D : va_G} {cI cJ cZ cS : ClassId} {tb : Nat} {A : Nat → Prop} {a_t a_party a_party_kinds a_party_costs a_party_terms a_party_known a_kept a_tape a_telephone a_sheets a_findings : Nat} {v_isKept : Int32} {v_party_size : Int32} {v_party_list : Int32} {v_party_told : Int32} {v_party_kinds : Nat → Int32} {v_party_terms : Nat → Int64} {rr : Int32} {kk' : (Nat → Int32)} (fx : q_Fx p s m args meth c cX4_basin 3 RX4 (some .int) D cI cJ cZ cS tb A) {ag4 : (Nat → Int32) → Int32 → Int32 → Option (Int32 × (Nat → Int32))} (hag4 : ∀ {v_party_known : Nat → Int32} {y1 : Int32} {y2 : Int32} {H : Heap} {locs : List Loc} {ls : Array Slot}, q_H D A s (wX4_basin cI cJ cZ cS a_t a_party a_party_kinds a_party_costs a_party_terms a_party_known a_kept a_tape a_telephone a_sheets a_findings v_isKept v_party_size v_party_list v_party_told v_party_kinds v_party_terms v_party_known) H locs → lv_has ls 3 [(0, .ref a_t), (1, .int y1), (2, .int y2)] → ag4 v_party_known y1 y2 = some (rr, kk') → W p l e rX4_basin s m args below meth c H locs 0 0 (MQ below (q_Ri D rr A ((fun k : (Nat → Int32) => (wX4_basin cI cJ cZ cS a_t a_party a_party_kinds a_party_costs a_party_terms a_party_known a_kept a_tape a_telephone a_sheets a_findings v_isKept v_party_size v_party_list v_party_told v_party_kinds v_party_terms k)) kk')) args s 0 0 A) (F0 m 4 ls [])) : ∀ {v_party_known : Nat → Int32} {y1 : Int32} {y2 : Int32} {H : Heap} {locs : List Loc} {ls : Array Slot}, q_H D A s (wX4_basin cI cJ cZ cS a_t a_party a_party_kinds a_party_costs a_party_terms a_party_known a_kept a_tape a_telephone a_sheets a_findings v_isKept v_party_size v_party_list v_party_told v_party_kinds v_party_terms v_party_known) H locs → lv_has ls 3 [(0, .ref a_t), (1, .int y1), (2, .int y2)] → fX4_basin_4 v_party_size v_party_kinds v_party_terms ag4 v_party_known y1 y2 = some (rr, kk') → W p l e rX4_basin s m args below meth c H locs 0 0 (MQ below (q_Ri D rr A ((fun k : (Nat → Int32) => (wX4_basin cI cJ cZ cS a_t a_party a_party_kinds a_party_costs a_party_terms a_party_known a_kept a_tape a_telephone a_sheets a_findings v_isKept v_party_size v_party_list v_party_told v_party_kinds v_party_terms k)) kk')) args s 0 0 A) (F0 m 4 ls []) := by
  intro v_party_known y1 y2 H locs ls h hl hf
  have hx := fx.1
  have hb := fx.2.1
  unfold fX4_basin_4 at hf
  refine lv_iload_n hx hb dX4_basin_4 rfl (lv_at hl 2 rfl) ?_
  refine lv_aload_n hx hb dX4_basin_5 rfl (lv_at hl 0 rfl) ?_
  refine q_get (v := .ref a_party) fx inX4 h 0 rfl rfl 0 (by decide) k_174 rfl dX4_basin_6 ?_
  obtain ⟨r1, k1, hg, hf⟩ := bR_inv hf
  refine q_ci (rest := [.int y2]) (ws' := (wX4_basin cI cJ cZ cS a_t a_party a_party_kinds a_party_costs a_party_terms a_party_known a_kept a_tape a_telephone a_sheets a_findings v_isKept v_party_size v_party_list v_party_told v_party_kinds v_party_terms v_party_known)) (w1 := (wX0_lists cI cJ cZ cS a_party a_party_kinds a_party_costs a_party_terms a_party_known v_party_size v_party_list v_party_told)) fx h [1] rfl rfl rfl rfl (q_runV fx h hl.1 [1] rfl rfl (tX0_lists l D cI cJ cZ cS tb a_party a_party_kinds a_party_costs a_party_terms a_party_known H.size v_party_size v_party_list v_party_told r1 k1 hg) mvX0_lists k_447 ⟨rfl, rfl⟩ ⟨Nat.le_of_ble_eq_true rfl, Nat.le_of_ble_eq_true rfl⟩ rfl rfl rfl rfl (Nat.le_of_ble_eq_true rfl) dX4_basin_9 ⟨Nat.le_of_ble_eq_true rfl, Nat.le_of_ble_eq_true rfl⟩) (fun H locs h => ?_)
  refine lv_icmp_ge (tgt := 45) hx hb dX4_basin_12 (by decide) (fun c2 => ?_) (fun c2 => ?_)
  · have hf := it_t c2 hf
    refine lv_iload_n hx hb dX4_basin_45 rfl (lv_at hl 1 rfl) ?_
    exact q_reti (fun k : (Nat → Int32) => (wX4_basin cI cJ cZ cS a_t a_party a_party_kinds a_party_costs a_party_terms a_party_known a_kept a_tape a_telephone a_sheets a_findings v_isKept v_party_size v_party_list v_party_told v_party_kinds v_party_terms k)) fx hf h dX4_basin_46
  have hf := it_f c2 hf
  refine lv_iload_n hx hb dX4_basin_15 rfl (lv_at hl 1 rfl) ?_
  refine lv_aload_n hx hb dX4_basin_16 rfl (lv_at hl 0 rfl) ?_
  refine q_get (v := .ref a_party) fx inX4 h 0 rfl rfl 0 (by decide) k_174 rfl dX4_basin_17 ?_
  refine lv_aload_n hx hb dX4_basin_20 rfl (lv_at hl 0 rfl) ?_
  refine q_get (v := .ref a_party) fx inX4 h 0 rfl rfl 0 (by decide) k_174 rfl dX4_basin_21 ?_
  refine lv_iload_n hx hb dX4_basin_24 rfl (lv_at hl 2 rfl) ?_
  refine lv_sipush (v := 256) hx hb dX4_basin_25 (by decide) ?_
  obtain ⟨r3, k3, hg, hf⟩ := bR_inv hf
  refine q_ci (rest := [.ref a_party, .int y1]) (ws' := (wX4_basin cI cJ cZ cS a_t a_party a_party_kinds a_party_costs a_party_terms a_party_known a_kept a_tape a_telephone a_sheets a_findings v_isKept v_party_size v_party_list v_party_told v_party_kinds v_party_terms k3)) (w1 := (wX0_behind cI cJ cZ cS a_party a_party_kinds a_party_costs a_party_terms a_party_known v_party_size v_party_list v_party_told v_party_kinds v_party_terms k3)) fx h [1, 2, 3, 4] rfl rfl rfl rfl (q_runV fx h hl.1 [1, 2, 3, 4] rfl rfl (tX0_behind l D cI cJ cZ cS tb a_party a_party_kinds a_party_costs a_party_terms a_party_known H.size v_party_size v_party_list v_party_told v_party_kinds v_party_terms v_party_known y2 256 r3 k3 hg) mvX0_behind k_389 ⟨rfl, rfl⟩ ⟨Nat.le_of_ble_eq_true rfl, Nat.le_of_ble_eq_true rfl⟩ rfl rfl rfl rfl (Nat.le_of_ble_eq_true rfl) dX4_basin_28 ⟨Nat.le_of_ble_eq_true rfl, Nat.le_of_ble_eq_true rfl⟩) (fun H locs h => ?_)
  obtain ⟨r4, k4, hg, hf⟩ := bR_inv hf
  refine q_ci (rest := [.int y1]) (ws' := (wX4_basin cI cJ cZ cS a_t a_party a_party_kinds a_party_costs a_party_terms a_party_known a_kept a_tape a_telephone a_sheets a_findings v_isKept v_party_size v_party_list v_party_told v_party_kinds v_party_terms k4)) (w1 := (wX0_isSettled cI cJ cZ cS a_party a_party_kinds a_party_costs a_party_terms a_party_known v_party_size v_party_list v_party_told v_party_kinds v_party_terms k4)) fx h [1, 2, 3, 4] rfl rfl rfl rfl (q_runV fx h hl.1 [1, 2, 3, 4] rfl rfl (tX0_isSettled l D cI cJ cZ cS tb a_party a_party_kinds a_party_costs a_party_terms a_party_known H.size v_party_size v_party_list v_party_told v_party_kinds v_party_terms k3 r3 r4 k4 hg) mvX0_isSettled k_358 ⟨rfl, rfl⟩ ⟨Nat.le_of_ble_eq_true rfl, Nat.le_of_ble_eq_true rfl⟩ rfl rfl rfl rfl (Nat.le_of_ble_eq_true rfl) dX4_basin_31 ⟨Nat.le_of_ble_eq_true rfl, Nat.le_of_ble_eq_true rfl⟩) (fun H locs h => ?_)
  obtain ⟨r5, k5, hg, hf⟩ := bR_inv hf
  refine q_ci (rest := [.int y1]) (ws' := (wX4_basin cI cJ cZ cS a_t a_party a_party_kinds a_party_costs a_party_terms a_party_known a_kept a_tape a_telephone a_sheets a_findings v_isKept v_party_size v_party_list v_party_told v_party_kinds v_party_terms k4)) (w1 := (wX4_oneIf cI cJ cZ cS)) fx h [] rfl rfl rfl rfl (q_runS fx h hl.1 [] rfl rfl (tX4_oneIf l D cI cJ cZ cS tb H.size r4 r5 k5 hg) msX4_oneIf k_246 ⟨rfl, rfl⟩ ⟨Nat.le_of_ble_eq_true rfl, Nat.le_of_ble_eq_true rfl⟩ rfl rfl (Nat.le_of_ble_eq_true rfl) dX4_basin_34 ⟨Nat.le_of_ble_eq_true rfl, Nat.le_of_ble_eq_true rfl⟩) (fun H locs h => ?_)
  refine lv_iadd hx hb dX4_basin_37 ?_
  obtain ⟨u6, eu6, hf⟩ := nm_inv hf
  refine lv_eqi eu6 ?_
  refine lv_istore_n (lv' := [(1, .int u6), (0, .ref a_t), (2, .int y2)]) hx hb dX4_basin_38 rfl hl (by decide) rfl (fun ls hl => ?_)
  obtain ⟨u7, eu7, hf⟩ := nm_inv hf
  refine lv_iinc (v := u7) (lv' := [(2, .int u7), (1, .int u6), (0, .ref a_t)]) hx hb dX4_basin_39 hl (k := 2) rfl (by rw [eu7]; rfl) (by decide) rfl (fun ls hl => ?_)
  refine lv_goto (tgt := 4) hx hb dX4_basin_42 (by decide) ?_
  exact hag4 h (lv_sub hl [2, 1, 0] rfl) hf
set_option maxRecDepth 100000 in
theorem EX4_basin_4 {p : Program} {l : Launch} {e : Env} {s : State} {m : MethodId} {args : Array Value} {below : List Frame} {meth : Method} {c : Code} {D : va_G} {cI cJ cZ cS : ClassId} {tb : Nat} {A : Nat → Prop} {a_t a_party a_party_kinds a_party_costs a_party_terms a_party_known a_kept a_tape a_telephone a_sheets a_findings : Nat} {v_isKept : Int32} {v_party_size : Int32} {v_party_list : Int32} {v_party_told : Int32} {v_party_kinds : Nat → Int32} {v_party_terms : Nat → Int64} {rr : Int32} {kk' : (Nat → Int32)} (fx : q_Fx p s m args meth c cX4_basin 3 RX4 (some .int) D cI cJ cZ cS tb A) : ∀ (n : Nat), ∀ {v_party_known : Nat → Int32} {y1 : Int32} {y2 : Int32} {H : Heap} {locs : List Loc} {ls : Array Slot}, q_H D A s (wX4_basin cI cJ cZ cS a_t a_party a_party_kinds a_party_costs a_party_terms a_party_known a_kept a_tape a_telephone a_sheets a_findings v_isKept v_party_size v_party_list v_party_told v_party_kinds v_party_terms v_party_known) H locs → lv_has ls 3 [(0, .ref a_t), (1, .int y1), (2, .int y2)] → ll3 (fX4_basin_4 v_party_size v_party_kinds v_party_terms) n v_party_known y1 y2 = some (rr, kk') → W p l e rX4_basin s m args below meth c H locs 0 0 (MQ below (q_Ri D rr A ((fun k : (Nat → Int32) => (wX4_basin cI cJ cZ cS a_t a_party a_party_kinds a_party_costs a_party_terms a_party_known a_kept a_tape a_telephone a_sheets a_findings v_isKept v_party_size v_party_list v_party_told v_party_kinds v_party_terms k)) kk')) args s 0 0 A) (F0 m 4 ls []) := by
  intro n
  induction n with
  | zero => intro v_party_known y1 y2 H locs ls h hl hf; exact (ll3_z hf).elim
  | succ n ih => intro v_party_known y1 y2 H locs ls h hl hf; exact LX4_basin_4 fx ih h hl (ll3_s hf)
def fX4_basin (v_party_size : Int32) (v_party_kinds : Nat → Int32) (v_party_terms : Nat → Int64) (v_party_known : Nat → Int32) : Option (Int32 × (Nat → Int32)) :=
  ll3 (fX4_basin_4 v_party_size v_party_kinds v_party_terms) qF v_party_known 0 0
set_option maxRecDepth 100000 in
set_option maxHeartbeats 4000000 in
theorem tX4_basin (l : Launch) (D : va_G) (cI cJ cZ cS : ClassId) (tb : Nat) (a_t a_party a_party_kinds a_party_costs a_party_terms a_party_known a_kept a_tape a_telephone a_sheets a_findings : Nat) (sz : Nat) (v_isKept : Int32) (v_party_size : Int32) (v_party_list : Int32) (v_party_told : Int32) (v_party_kinds : Nat → Int32) (v_party_terms : Nat → Int64) (v_party_known : Nat → Int32) (rr : Int32) (kk' : (Nat → Int32)) (hf : fX4_basin v_party_size v_party_kinds v_party_terms v_party_known = some (rr, kk')) : Met l yX4_basin (Cond.code yX4_basin cX4_basin 3 (some .int) :: wA) rX4_basin (q_Pre D cI cJ cZ cS tb [.ref a_t] sz (wX4_basin cI cJ cZ cS a_t a_party a_party_kinds a_party_costs a_party_terms a_party_known a_kept a_tape a_telephone a_sheets a_findings v_isKept v_party_size v_party_list v_party_told v_party_kinds v_party_terms v_party_known)) (q_Ri D rr (va_A (wX4_basin cI cJ cZ cS a_t a_party a_party_kinds a_party_costs a_party_terms a_party_known a_kept a_tape a_telephone a_sheets a_findings v_isKept v_party_size v_party_list v_party_told v_party_kinds v_party_terms v_party_known) sz) ((fun k : (Nat → Int32) => (wX4_basin cI cJ cZ cS a_t a_party a_party_kinds a_party_costs a_party_terms a_party_known a_kept a_tape a_telephone a_sheets a_findings v_isKept v_party_size v_party_list v_party_told v_party_kinds v_party_terms k)) kk')) 0 0 (va_A (wX4_basin cI cJ cZ cS a_t a_party a_party_kinds a_party_costs a_party_terms a_party_known a_kept a_tape a_telephone a_sheets a_findings v_isKept v_party_size v_party_list v_party_told v_party_kinds v_party_terms v_party_known) sz) := by
  refine q_enter (Qf := fun A => (q_Ri D rr A ((fun k : (Nat → Int32) => (wX4_basin cI cJ cZ cS a_t a_party a_party_kinds a_party_costs a_party_terms a_party_known a_kept a_tape a_telephone a_sheets a_findings v_isKept v_party_size v_party_list v_party_told v_party_kinds v_party_terms k)) kk'))) (by decide) rfl (Nat.le_of_ble_eq_true rfl) ?_
  intro p e s m below meth c A ls fx hname h hl
  have hx := fx.1
  have hb := fx.2.1
  have hl : lv_has ls 3 [(0, .ref a_t)] := hl
  generalize h9 : s.heap = H at h ⊢
  clear h9
  generalize h9 : ([] : List Loc) = locs at h ⊢
  clear h9
  unfold fX4_basin at hf
  refine lv_iconst (v := 0) hx hb dX4_basin_0 (by decide) ?_
  refine lv_istore_n (lv' := [(1, .int 0), (0, .ref a_t)]) hx hb dX4_basin_1 rfl hl (by decide) rfl (fun ls hl => ?_)
  refine lv_iconst (v := 0) hx hb dX4_basin_2 (by decide) ?_
  refine lv_istore_n (lv' := [(2, .int 0), (1, .int 0), (0, .ref a_t)]) hx hb dX4_basin_3 rfl hl (by decide) rfl (fun ls hl => ?_)
  exact EX4_basin_4 fx qF h (lv_sub hl [2, 1, 0] rfl) hf
/-! X4_odds -/
abbrev wX4_odds (cI cJ cZ cS : ClassId) (a_t a_party a_party_kinds a_party_costs a_party_terms a_party_known a_kept a_tape a_telephone a_sheets a_findings : Nat) (v_isKept : Int32) (v_party_size : Int32) (v_party_list : Int32) (v_party_told : Int32) (v_party_kinds : Nat → Int32) (v_party_terms : Nat → Int64) (v_party_known : Nat → Int32) (v_findings : Nat → Int32) : va_W := [(a_t, .inr (4, [.ref a_party, .ref a_kept, .int v_isKept, .ref a_tape, .ref a_telephone, .ref a_sheets, .ref a_findings])), (a_party, .inr (0, [.int v_party_size, .int v_party_list, .int v_party_told, .ref a_party_kinds, .ref a_party_costs, .ref a_party_terms, .ref a_party_known])), (a_party_kinds, .inl (cI, 8, .inl v_party_kinds)), (a_party_terms, .inl (cJ, 32, .inr (.inl v_party_terms))), (a_party_known, .inl (cI, 256, .inl v_party_known)), (a_findings, .inl (cI, 7, .inl v_findings))]
abbrev rX4_odds : Room := { frames := 6, cells := 0, slots := 0, locals := 135 }
def fX4_odds_148 (v_party_size : Int32) (v_party_kinds : Nat → Int32) (v_party_terms : Nat → Int64) (v_party_known : Nat → Int32) (v_findings : Nat → Int32) (y2 : Int32) (y3 : Int64) (y5 : Int64) : Option (Int64 × (Nat → Int32) × (Nat → Int32)) :=
  (if y2 = 0 then (
  some (y3, (v_party_known, v_findings)))
  else (
  some (y5, (v_party_known, v_findings))))
set_option maxRecDepth 100000 in
set_option maxHeartbeats 4000000 in
theorem LX4_odds_148 {p : Program} {l : Launch} {e : Env} {s : State} {m : MethodId} {args : Array Value} {below : List Frame} {meth : Method} {c : Code} {D : va_G} {cI cJ cZ cS : ClassId} {tb : Nat} {A : Nat → Prop} {a_t a_party a_party_kinds a_party_costs a_party_terms a_party_known a_kept a_tape a_telephone a_sheets a_findings : Nat} {v_isKept : Int32} {v_party_size : Int32} {v_party_list : Int32} {v_party_told : Int32} {v_party_kinds : Nat → Int32} {v_party_terms : Nat → Int64} {rr : Int64} {kk' : (Nat → Int32) × (Nat → Int32)} (fx : q_Fx p s m args meth c cX4_odds 9 RX4 (some .long) D cI cJ cZ cS tb A) : ∀ {v_party_known : Nat → Int32} {v_findings : Nat → Int32} {y2 : Int32} {y3 : Int64} {y5 : Int64} {H : Heap} {locs : List Loc} {ls : Array Slot}, q_H D A s (wX4_odds cI cJ cZ cS a_t a_party a_party_kinds a_party_costs a_party_terms a_party_known a_kept a_tape a_telephone a_sheets a_findings v_isKept v_party_size v_party_list v_party_told v_party_kinds v_party_terms v_party_known v_findings) H locs → lv_has ls 9 [(2, .int y2), (3, .long y3), (5, .long y5)] → fX4_odds_148 v_party_size v_party_kinds v_party_terms v_party_known v_findings y2 y3 y5 = some (rr, kk') → W p l e rX4_odds s m args below meth c H locs 0 0 (MQ below (q_Rl D rr A ((fun k : (Nat → Int32) × (Nat → Int32) => (wX4_odds cI cJ cZ cS a_t a_party a_party_kinds a_party_costs a_party_terms a_party_known a_kept a_tape a_telephone a_sheets a_findings v_isKept v_party_size v_party_list v_party_told v_party_kinds v_party_terms k.1 k.2)) kk')) args s 0 0 A) (F0 m 148 ls []) := by
  intro v_party_known v_findings y2 y3 y5 H locs ls h hl hf
  have hx := fx.1
  have hb := fx.2.1
  unfold fX4_odds_148 at hf
  refine lv_iload_n hx hb dX4_odds_148 rfl (lv_at hl 0 rfl) ?_
  refine lv_if_ne (tgt := 156) hx hb dX4_odds_149 (by decide) (fun c1 => ?_) (fun c1 => ?_)
  · have hf := it_f c1 hf
    refine lv_lload hx hb dX4_odds_156 (lv_at hl 2 rfl) ?_
    exact q_retl (fun k : (Nat → Int32) × (Nat → Int32) => (wX4_odds cI cJ cZ cS a_t a_party a_party_kinds a_party_costs a_party_terms a_party_known a_kept a_tape a_telephone a_sheets a_findings v_isKept v_party_size v_party_list v_party_told v_party_kinds v_party_terms k.1 k.2)) fx hf h dX4_odds_158
  have hf := it_t c1 hf
  refine lv_lload_n hx hb dX4_odds_152 rfl (lv_at hl 1 rfl) ?_
  refine lv_goto (tgt := 158) hx hb dX4_odds_153 (by decide) ?_
  exact q_retl (fun k : (Nat → Int32) × (Nat → Int32) => (wX4_odds cI cJ cZ cS a_t a_party a_party_kinds a_party_costs a_party_terms a_party_known a_kept a_tape a_telephone a_sheets a_findings v_isKept v_party_size v_party_list v_party_told v_party_kinds v_party_terms k.1 k.2)) fx hf h dX4_odds_158
def fX4_odds_100 (v_party_size : Int32) (v_party_kinds : Nat → Int32) (v_party_terms : Nat → Int64) (ag100 : (Nat → Int32) → (Nat → Int32) → Int32 → Int64 → Int64 → Int32 → Option (Int64 × (Nat → Int32) × (Nat → Int32))) (v_party_known : Nat → Int32) (v_findings : Nat → Int32) (y2 : Int32) (y3 : Int64) (y5 : Int64) (y7 : Int32) : Option (Int64 × (Nat → Int32) × (Nat → Int32)) :=
  (if (8 : Int32) ≤ y7 then (
  fX4_odds_148 v_party_size v_party_kinds v_party_terms v_party_known v_findings y2 y3 y5)
  else (
  (if (lg_cmp (jlrem y3 2) 0) = 0 then (
  (if (lg_cmp (jlrem y5 2) 0) = 0 then (
  nm (y3 / 2) (fun u5 =>
  nm (y5 / 2) (fun u6 =>
  nm (y7 + 1) (fun u7 =>
  ag100 v_party_known v_findings y2 u5 u6 u7))))
  else (
  fX4_odds_148 v_party_size v_party_kinds v_party_terms v_party_known v_findings y2 y3 y5)))
  else (
  fX4_odds_148 v_party_size v_party_kinds v_party_terms v_party_known v_findings y2 y3 y5))))
set_option maxRecDepth 100000 in
set_option maxHeartbeats 4000000 in
theorem LX4_odds_100 {p : Program} {l : Launch} {e : Env} {s : State} {m : MethodId} {args : Array Value} {below : List Frame} {meth : Method} {c : Code} {D : va_G} {cI cJ cZ cS : ClassId} {tb : Nat} {A : Nat → Prop} {a_t a_party a_party_kinds a_party_costs a_party_terms a_party_known a_kept a_tape a_telephone a_sheets a_findings : Nat} {v_isKept : Int32} {v_party_size : Int32} {v_party_list : Int32} {v_party_told : Int32} {v_party_kinds : Nat → Int32} {v_party_terms : Nat → Int64} {rr : Int64} {kk' : (Nat → Int32) × (Nat → Int32)} (fx : q_Fx p s m args meth c cX4_odds 9 RX4 (some .long) D cI cJ cZ cS tb A) {ag100 : (Nat → Int32) → (Nat → Int32) → Int32 → Int64 → Int64 → Int32 → Option (Int64 × (Nat → Int32) × (Nat → Int32))} (hag100 : ∀ {v_party_known : Nat → Int32} {v_findings : Nat → Int32} {y2 : Int32} {y3 : Int64} {y5 : Int64} {y7 : Int32} {H : Heap} {locs : List Loc} {ls : Array Slot}, q_H D A s (wX4_odds cI cJ cZ cS a_t a_party a_party_kinds a_party_costs a_party_terms a_party_known a_kept a_tape a_telephone a_sheets a_findings v_isKept v_party_size v_party_list v_party_told v_party_kinds v_party_terms v_party_known v_findings) H locs → lv_has ls 9 [(2, .int y2), (3, .long y3), (5, .long y5), (7, .int y7)] → ag100 v_party_known v_findings y2 y3 y5 y7 = some (rr, kk') → W p l e rX4_odds s m args below meth c H locs 0 0 (MQ below (q_Rl D rr A ((fun k : (Nat → Int32) × (Nat → Int32) => (wX4_odds cI cJ cZ cS a_t a_party a_party_kinds a_party_costs a_party_terms a_party_known a_kept a_tape a_telephone a_sheets a_findings v_isKept v_party_size v_party_list v_party_told v_party_kinds v_party_terms k.1 k.2)) kk')) args s 0 0 A) (F0 m 100 ls [])) : ∀ {v_party_known : Nat → Int32} {v_findings : Nat → Int32} {y2 : Int32} {y3 : Int64} {y5 : Int64} {y7 : Int32} {H : Heap} {locs : List Loc} {ls : Array Slot}, q_H D A s (wX4_odds cI cJ cZ cS a_t a_party a_party_kinds a_party_costs a_party_terms a_party_known a_kept a_tape a_telephone a_sheets a_findings v_isKept v_party_size v_party_list v_party_told v_party_kinds v_party_terms v_party_known v_findings) H locs → lv_has ls 9 [(2, .int y2), (3, .long y3), (5, .long y5), (7, .int y7)] → fX4_odds_100 v_party_size v_party_kinds v_party_terms ag100 v_party_known v_findings y2 y3 y5 y7 = some (rr, kk') → W p l e rX4_odds s m args below meth c H locs 0 0 (MQ below (q_Rl D rr A ((fun k : (Nat → Int32) × (Nat → Int32) => (wX4_odds cI cJ cZ cS a_t a_party a_party_kinds a_party_costs a_party_terms a_party_known a_kept a_tape a_telephone a_sheets a_findings v_isKept v_party_size v_party_list v_party_told v_party_kinds v_party_terms k.1 k.2)) kk')) args s 0 0 A) (F0 m 100 ls []) := by
  intro v_party_known v_findings y2 y3 y5 y7 H locs ls h hl hf
  have hx := fx.1
  have hb := fx.2.1
  unfold fX4_odds_100 at hf
  refine lv_iload hx hb dX4_odds_100 (lv_at hl 3 rfl) ?_
  refine lv_bipush (v := 8) hx hb dX4_odds_102 (by decide) ?_
  refine lv_icmp_ge (tgt := 148) hx hb dX4_odds_104 (by decide) (fun c2 => ?_) (fun c2 => ?_)
  · have hf := it_t c2 hf
    exact LX4_odds_148 fx h (lv_sub hl [0, 1, 2] rfl) hf
  have hf := it_f c2 hf
  refine lv_lload_n hx hb dX4_odds_107 rfl (lv_at hl 1 rfl) ?_
  refine q_ldc2 fx k_474 dX4_odds_108 ?_
  refine lv_lrem hx hb dX4_odds_111 (by decide) ?_
  refine lv_lconst (v := 0) hx hb dX4_odds_112 (by decide) ?_
  refine W.lcmp hx hb dX4_odds_113 ?_
  refine lv_if_ne (tgt := 148) hx hb dX4_odds_114 (by decide) (fun c3 => ?_) (fun c3 => ?_)
  · have hf := it_f c3 hf
    exact LX4_odds_148 fx h (lv_sub hl [0, 1, 2] rfl) hf
  have hf := it_t c3 hf
  refine lv_lload hx hb dX4_odds_117 (lv_at hl 2 rfl) ?_
  refine q_ldc2 fx k_474 dX4_odds_119 ?_
  refine lv_lrem hx hb dX4_odds_122 (by decide) ?_
  refine lv_lconst (v := 0) hx hb dX4_odds_123 (by decide) ?_
  refine W.lcmp hx hb dX4_odds_124 ?_
  refine lv_if_ne (tgt := 148) hx hb dX4_odds_125 (by decide) (fun c4 => ?_) (fun c4 => ?_)
  · have hf := it_f c4 hf
    exact LX4_odds_148 fx h (lv_sub hl [0, 1, 2] rfl) hf
  have hf := it_t c4 hf
  refine lv_lload_n hx hb dX4_odds_128 rfl (lv_at hl 1 rfl) ?_
  refine q_ldc2 fx k_474 dX4_odds_129 ?_
  refine lv_ldiv hx hb dX4_odds_132 (by decide) ?_
  obtain ⟨u5, eu5, hf⟩ := nm_inv hf
  refine lv_eql eu5 ?_
  refine lv_lstore_n (lv' := [(3, .long u5), (2, .int y2), (5, .long y5), (7, .int y7)]) hx hb dX4_odds_133 rfl hl (by decide) rfl (fun ls hl => ?_)
  refine lv_lload hx hb dX4_odds_134 (lv_at hl 2 rfl) ?_
  refine q_ldc2 fx k_474 dX4_odds_136 ?_
  refine lv_ldiv hx hb dX4_odds_139 (by decide) ?_
  obtain ⟨u6, eu6, hf⟩ := nm_inv hf
  refine lv_eql eu6 ?_
  refine lv_lstore (lv' := [(5, .long u6), (3, .long u5), (2, .int y2), (7, .int y7)]) hx hb dX4_odds_140 hl (by decide) rfl (fun ls hl => ?_)
  obtain ⟨u7, eu7, hf⟩ := nm_inv hf
  refine lv_iinc (v := u7) (lv' := [(7, .int u7), (5, .long u6), (3, .long u5), (2, .int y2)]) hx hb dX4_odds_142 hl (k := 3) rfl (by rw [eu7]; rfl) (by decide) rfl (fun ls hl => ?_)
  refine lv_goto (tgt := 100) hx hb dX4_odds_145 (by decide) ?_
  exact hag100 h (lv_sub hl [3, 2, 1, 0] rfl) hf
set_option maxRecDepth 100000 in
theorem EX4_odds_100 {p : Program} {l : Launch} {e : Env} {s : State} {m : MethodId} {args : Array Value} {below : List Frame} {meth : Method} {c : Code} {D : va_G} {cI cJ cZ cS : ClassId} {tb : Nat} {A : Nat → Prop} {a_t a_party a_party_kinds a_party_costs a_party_terms a_party_known a_kept a_tape a_telephone a_sheets a_findings : Nat} {v_isKept : Int32} {v_party_size : Int32} {v_party_list : Int32} {v_party_told : Int32} {v_party_kinds : Nat → Int32} {v_party_terms : Nat → Int64} {rr : Int64} {kk' : (Nat → Int32) × (Nat → Int32)} (fx : q_Fx p s m args meth c cX4_odds 9 RX4 (some .long) D cI cJ cZ cS tb A) : ∀ (n : Nat), ∀ {v_party_known : Nat → Int32} {v_findings : Nat → Int32} {y2 : Int32} {y3 : Int64} {y5 : Int64} {y7 : Int32} {H : Heap} {locs : List Loc} {ls : Array Slot}, q_H D A s (wX4_odds cI cJ cZ cS a_t a_party a_party_kinds a_party_costs a_party_terms a_party_known a_kept a_tape a_telephone a_sheets a_findings v_isKept v_party_size v_party_list v_party_told v_party_kinds v_party_terms v_party_known v_findings) H locs → lv_has ls 9 [(2, .int y2), (3, .long y3), (5, .long y5), (7, .int y7)] → ll6 (fX4_odds_100 v_party_size v_party_kinds v_party_terms) n v_party_known v_findings y2 y3 y5 y7 = some (rr, kk') → W p l e rX4_odds s m args below meth c H locs 0 0 (MQ below (q_Rl D rr A ((fun k : (Nat → Int32) × (Nat → Int32) => (wX4_odds cI cJ cZ cS a_t a_party a_party_kinds a_party_costs a_party_terms a_party_known a_kept a_tape a_telephone a_sheets a_findings v_isKept v_party_size v_party_list v_party_told v_party_kinds v_party_terms k.1 k.2)) kk')) args s 0 0 A) (F0 m 100 ls []) := by
  intro n
  induction n with
  | zero => intro v_party_known v_findings y2 y3 y5 y7 H locs ls h hl hf; exact (ll6_z hf).elim
  | succ n ih => intro v_party_known v_findings y2 y3 y5 y7 H locs ls h hl hf; exact LX4_odds_100 fx ih h hl (ll6_s hf)
def fX4_odds_91 (v_party_size : Int32) (v_party_kinds : Nat → Int32) (v_party_terms : Nat → Int64) (ag43 : (Nat → Int32) → (Nat → Int32) → Int32 → Int32 → Int64 → Int64 → Int32 → Option (Int64 × (Nat → Int32) × (Nat → Int32))) (v_party_known : Nat → Int32) (v_findings : Nat → Int32) (y1 : Int32) (y2 : Int32) (y3 : Int64) (y5 : Int64) (y7 : Int32) : Option (Int64 × (Nat → Int32) × (Nat → Int32)) :=
  nm (y7 + 1) (fun u8 =>
  ag43 v_party_known v_findings y1 y2 y3 y5 u8)
set_option maxRecDepth 100000 in
set_option maxHeartbeats 4000000 in
theorem LX4_odds_91 {p : Program} {l : Launch} {e : Env} {s : State} {m : MethodId} {args : Array Value} {below : List Frame} {meth : Method} {c : Code} {D : va_G} {cI cJ cZ cS : ClassId} {tb : Nat} {A : Nat → Prop} {a_t a_party a_party_kinds a_party_costs a_party_terms a_party_known a_kept a_tape a_telephone a_sheets a_findings : Nat} {v_isKept : Int32} {v_party_size : Int32} {v_party_list : Int32} {v_party_told : Int32} {v_party_kinds : Nat → Int32} {v_party_terms : Nat → Int64} {rr : Int64} {kk' : (Nat → Int32) × (Nat → Int32)} (fx : q_Fx p s m args meth c cX4_odds 9 RX4 (some .long) D cI cJ cZ cS tb A) {ag43 : (Nat → Int32) → (Nat → Int32) → Int32 → Int32 → Int64 → Int64 → Int32 → Option (Int64 × (Nat → Int32) × (Nat → Int32))} (hag43 : ∀ {v_party_known : Nat → Int32} {v_findings : Nat → Int32} {y1 : Int32} {y2 : Int32} {y3 : Int64} {y5 : Int64} {y7 : Int32} {H : Heap} {locs : List Loc} {ls : Array Slot}, q_H D A s (wX4_odds cI cJ cZ cS a_t a_party a_party_kinds a_party_costs a_party_terms a_party_known a_kept a_tape a_telephone a_sheets a_findings v_isKept v_party_size v_party_list v_party_told v_party_kinds v_party_terms v_party_known v_findings) H locs → lv_has ls 9 [(0, .ref a_t), (1, .int y1), (2, .int y2), (3, .long y3), (5, .long y5), (7, .int y7)] → ag43 v_party_known v_findings y1 y2 y3 y5 y7 = some (rr, kk') → W p l e rX4_odds s m args below meth c H locs 0 0 (MQ below (q_Rl D rr A ((fun k : (Nat → Int32) × (Nat → Int32) => (wX4_odds cI cJ cZ cS a_t a_party a_party_kinds a_party_costs a_party_terms a_party_known a_kept a_tape a_telephone a_sheets a_findings v_isKept v_party_size v_party_list v_party_told v_party_kinds v_party_terms k.1 k.2)) kk')) args s 0 0 A) (F0 m 43 ls [])) : ∀ {v_party_known : Nat → Int32} {v_findings : Nat → Int32} {y1 : Int32} {y2 : Int32} {y3 : Int64} {y5 : Int64} {y7 : Int32} {H : Heap} {locs : List Loc} {ls : Array Slot}, q_H D A s (wX4_odds cI cJ cZ cS a_t a_party a_party_kinds a_party_costs a_party_terms a_party_known a_kept a_tape a_telephone a_sheets a_findings v_isKept v_party_size v_party_list v_party_told v_party_kinds v_party_terms v_party_known v_findings) H locs → lv_has ls 9 [(0, .ref a_t), (1, .int y1), (2, .int y2), (3, .long y3), (5, .long y5), (7, .int y7)] → fX4_odds_91 v_party_size v_party_kinds v_party_terms ag43 v_party_known v_findings y1 y2 y3 y5 y7 = some (rr, kk') → W p l e rX4_odds s m args below meth c H locs 0 0 (MQ below (q_Rl D rr A ((fun k : (Nat → Int32) × (Nat → Int32) => (wX4_odds cI cJ cZ cS a_t a_party a_party_kinds a_party_costs a_party_terms a_party_known a_kept a_tape a_telephone a_sheets a_findings v_isKept v_party_size v_party_list v_party_told v_party_kinds v_party_terms k.1 k.2)) kk')) args s 0 0 A) (F0 m 91 ls []) := by
  intro v_party_known v_findings y1 y2 y3 y5 y7 H locs ls h hl hf
  have hx := fx.1
  have hb := fx.2.1
  unfold fX4_odds_91 at hf
  obtain ⟨u8, eu8, hf⟩ := nm_inv hf
  refine lv_iinc (v := u8) (lv' := [(7, .int u8), (0, .ref a_t), (1, .int y1), (2, .int y2), (3, .long y3), (5, .long y5)]) hx hb dX4_odds_91 hl (k := 5) rfl (by rw [eu8]; rfl) (by decide) rfl (fun ls hl => ?_)
  refine lv_goto (tgt := 43) hx hb dX4_odds_94 (by decide) ?_
  exact hag43 h (lv_sub hl [1, 2, 3, 4, 5, 0] rfl) hf
def fX4_odds_43 (v_party_size : Int32) (v_party_kinds : Nat → Int32) (v_party_terms : Nat → Int64) (ag43 : (Nat → Int32) → (Nat → Int32) → Int32 → Int32 → Int64 → Int64 → Int32 → Option (Int64 × (Nat → Int32) × (Nat → Int32))) (v_party_known : Nat → Int32) (v_findings : Nat → Int32) (y1 : Int32) (y2 : Int32) (y3 : Int64) (y5 : Int64) (y7 : Int32) : Option (Int64 × (Nat → Int32) × (Nat → Int32)) :=
  bR (fX0_lists v_party_size) (fun r9 k9 =>
  (if r9 ≤ y7 then (
  ll6 (fX4_odds_100 v_party_size v_party_kinds v_party_terms) qF v_party_known v_findings y2 y3 y5 0)
  else (
  bR (fX0_behind v_party_size v_party_kinds v_party_terms v_party_known y7 256) (fun r11 k11 =>
  bR (fX0_isSettled v_party_size v_party_kinds v_party_terms k11 r11) (fun r12 k12 =>
  (if r12 = 0 then (
  fX4_odds_91 v_party_size v_party_kinds v_party_terms ag43 k12 v_findings y1 y2 y3 y5 y7)
  else (
  nm (y3 + (((jshr r11 y1) &&& 1).toInt64)) (fun u14 =>
  fX4_odds_91 v_party_size v_party_kinds v_party_terms ag43 k12 v_findings y1 y2 u14 y5 y7))))))))
set_option maxRecDepth 100000 in
set_option maxHeartbeats 4000000 in
theorem LX4_odds_43 {p : Program} {l : Launch} {e : Env} {s : State} {m : MethodId} {args : Array Value} {below : List Frame} {meth : Method} {c : Code} {D : va_G} {cI cJ cZ cS : ClassId} {tb : Nat} {A : Nat → Prop} {a_t a_party a_party_kinds a_party_costs a_party_terms a_party_known a_kept a_tape a_telephone a_sheets a_findings : Nat} {v_isKept : Int32} {v_party_size : Int32} {v_party_list : Int32} {v_party_told : Int32} {v_party_kinds : Nat → Int32} {v_party_terms : Nat → Int64} {rr : Int64} {kk' : (Nat → Int32) × (Nat → Int32)} (fx : q_Fx p s m args meth c cX4_odds 9 RX4 (some .long) D cI cJ cZ cS tb A) {ag43 : (Nat → Int32) → (Nat → Int32) → Int32 → Int32 → Int64 → Int64 → Int32 → Option (Int64 × (Nat → Int32) × (Nat → Int32))} (hag43 : ∀ {v_party_known : Nat → Int32} {v_findings : Nat → Int32} {y1 : Int32} {y2 : Int32} {y3 : Int64} {y5 : Int64} {y7 : Int32} {H : Heap} {locs : List Loc} {ls : Array Slot}, q_H D A s (wX4_odds cI cJ cZ cS a_t a_party a_party_kinds a_party_costs a_party_terms a_party_known a_kept a_tape a_telephone a_sheets a_findings v_isKept v_party_size v_party_list v_party_told v_party_kinds v_party_terms v_party_known v_findings) H locs → lv_has ls 9 [(0, .ref a_t), (1, .int y1), (2, .int y2), (3, .long y3), (5, .long y5), (7, .int y7)] → ag43 v_party_known v_findings y1 y2 y3 y5 y7 = some (rr, kk') → W p l e rX4_odds s m args below meth c H locs 0 0 (MQ below (q_Rl D rr A ((fun k : (Nat → Int32) × (Nat → Int32) => (wX4_odds cI cJ cZ cS a_t a_party a_party_kinds a_party_costs a_party_terms a_party_known a_kept a_tape a_telephone a_sheets a_findings v_isKept v_party_size v_party_list v_party_told v_party_kinds v_party_terms k.1 k.2)) kk')) args s 0 0 A) (F0 m 43 ls [])) : ∀ {v_party_known : Nat → Int32} {v_findings : Nat → Int32} {y1 : Int32} {y2 : Int32} {y3 : Int64} {y5 : Int64} {y7 : Int32} {H : Heap} {locs : List Loc} {ls : Array Slot}, q_H D A s (wX4_odds cI cJ cZ cS a_t a_party a_party_kinds a_party_costs a_party_terms a_party_known a_kept a_tape a_telephone a_sheets a_findings v_isKept v_party_size v_party_list v_party_told v_party_kinds v_party_terms v_party_known v_findings) H locs → lv_has ls 9 [(0, .ref a_t), (1, .int y1), (2, .int y2), (3, .long y3), (5, .long y5), (7, .int y7)] → fX4_odds_43 v_party_size v_party_kinds v_party_terms ag43 v_party_known v_findings y1 y2 y3 y5 y7 = some (rr, kk') → W p l e rX4_odds s m args below meth c H locs 0 0 (MQ below (q_Rl D rr A ((fun k : (Nat → Int32) × (Nat → Int32) => (wX4_odds cI cJ cZ cS a_t a_party a_party_kinds a_party_costs a_party_terms a_party_known a_kept a_tape a_telephone a_sheets a_findings v_isKept v_party_size v_party_list v_party_told v_party_kinds v_party_terms k.1 k.2)) kk')) args s 0 0 A) (F0 m 43 ls []) := by
  intro v_party_known v_findings y1 y2 y3 y5 y7 H locs ls h hl hf
  have hx := fx.1
  have hb := fx.2.1
  unfold fX4_odds_43 at hf
  refine lv_iload hx hb dX4_odds_43 (lv_at hl 5 rfl) ?_
  refine lv_aload_n hx hb dX4_odds_45 rfl (lv_at hl 0 rfl) ?_
  refine q_get (v := .ref a_party) fx inX4 h 0 rfl rfl 0 (by decide) k_174 rfl dX4_odds_46 ?_
  obtain ⟨r9, k9, hg, hf⟩ := bR_inv hf
  refine q_ci (rest := [.int y7]) (ws' := (wX4_odds cI cJ cZ cS a_t a_party a_party_kinds a_party_costs a_party_terms a_party_known a_kept a_tape a_telephone a_sheets a_findings v_isKept v_party_size v_party_list v_party_told v_party_kinds v_party_terms v_party_known v_findings)) (w1 := (wX0_lists cI cJ cZ cS a_party a_party_kinds a_party_costs a_party_terms a_party_known v_party_size v_party_list v_party_told)) fx h [1] rfl rfl rfl rfl (q_runV fx h hl.1 [1] rfl rfl (tX0_lists l D cI cJ cZ cS tb a_party a_party_kinds a_party_costs a_party_terms a_party_known H.size v_party_size v_party_list v_party_told r9 k9 hg) mvX0_lists k_447 ⟨rfl, rfl⟩ ⟨Nat.le_of_ble_eq_true rfl, Nat.le_of_ble_eq_true rfl⟩ rfl rfl rfl rfl (Nat.le_of_ble_eq_true rfl) dX4_odds_49 ⟨Nat.le_of_ble_eq_true rfl, Nat.le_of_ble_eq_true rfl⟩) (fun H locs h => ?_)
  refine lv_icmp_ge (tgt := 97) hx hb dX4_odds_52 (by decide) (fun c10 => ?_) (fun c10 => ?_)
  · have hf := it_t c10 hf
    refine lv_iconst (v := 0) hx hb dX4_odds_97 (by decide) ?_
    refine lv_istore (lv' := [(7, .int 0), (0, .ref a_t), (1, .int y1), (2, .int y2), (3, .long y3), (5, .long y5)]) hx hb dX4_odds_98 hl (by decide) rfl (fun ls hl => ?_)
    exact EX4_odds_100 fx qF h (lv_sub hl [3, 4, 5, 0] rfl) hf
  have hf := it_f c10 hf
  refine lv_aload_n hx hb dX4_odds_55 rfl (lv_at hl 0 rfl) ?_
  refine q_get (v := .ref a_party) fx inX4 h 0 rfl rfl 0 (by decide) k_174 rfl dX4_odds_56 ?_
  refine lv_iload hx hb dX4_odds_59 (lv_at hl 5 rfl) ?_
  refine lv_sipush (v := 256) hx hb dX4_odds_61 (by decide) ?_
  obtain ⟨r11, k11, hg, hf⟩ := bR_inv hf
  refine q_ci (rest := []) (ws' := (wX4_odds cI cJ cZ cS a_t a_party a_party_kinds a_party_costs a_party_terms a_party_known a_kept a_tape a_telephone a_sheets a_findings v_isKept v_party_size v_party_list v_party_told v_party_kinds v_party_terms k11 v_findings)) (w1 := (wX0_behind cI cJ cZ cS a_party a_party_kinds a_party_costs a_party_terms a_party_known v_party_size v_party_list v_party_told v_party_kinds v_party_terms k11)) fx h [1, 2, 3, 4] rfl rfl rfl rfl (q_runV fx h hl.1 [1, 2, 3, 4] rfl rfl (tX0_behind l D cI cJ cZ cS tb a_party a_party_kinds a_party_costs a_party_terms a_party_known H.size v_party_size v_party_list v_party_told v_party_kinds v_party_terms v_party_known y7 256 r11 k11 hg) mvX0_behind k_389 ⟨rfl, rfl⟩ ⟨Nat.le_of_ble_eq_true rfl, Nat.le_of_ble_eq_true rfl⟩ rfl rfl rfl rfl (Nat.le_of_ble_eq_true rfl) dX4_odds_64 ⟨Nat.le_of_ble_eq_true rfl, Nat.le_of_ble_eq_true rfl⟩) (fun H locs h => ?_)
  refine lv_istore (lv' := [(8, .int r11), (0, .ref a_t), (1, .int y1), (2, .int y2), (3, .long y3), (5, .long y5), (7, .int y7)]) hx hb dX4_odds_67 hl (by decide) rfl (fun ls hl => ?_)
  refine lv_aload_n hx hb dX4_odds_69 rfl (lv_at hl 1 rfl) ?_
  refine q_get (v := .ref a_party) fx inX4 h 0 rfl rfl 0 (by decide) k_174 rfl dX4_odds_70 ?_
  refine lv_iload hx hb dX4_odds_73 (lv_at hl 0 rfl) ?_
  obtain ⟨r12, k12, hg, hf⟩ := bR_inv hf
  refine q_ci (rest := []) (ws' := (wX4_odds cI cJ cZ cS a_t a_party a_party_kinds a_party_costs a_party_terms a_party_known a_kept a_tape a_telephone a_sheets a_findings v_isKept v_party_size v_party_list v_party_told v_party_kinds v_party_terms k12 v_findings)) (w1 := (wX0_isSettled cI cJ cZ cS a_party a_party_kinds a_party_costs a_party_terms a_party_known v_party_size v_party_list v_party_told v_party_kinds v_party_terms k12)) fx h [1, 2, 3, 4] rfl rfl rfl rfl (q_runV fx h hl.1 [1, 2, 3, 4] rfl rfl (tX0_isSettled l D cI cJ cZ cS tb a_party a_party_kinds a_party_costs a_party_terms a_party_known H.size v_party_size v_party_list v_party_told v_party_kinds v_party_terms k11 r11 r12 k12 hg) mvX0_isSettled k_358 ⟨rfl, rfl⟩ ⟨Nat.le_of_ble_eq_true rfl, Nat.le_of_ble_eq_true rfl⟩ rfl rfl rfl rfl (Nat.le_of_ble_eq_true rfl) dX4_odds_75 ⟨Nat.le_of_ble_eq_true rfl, Nat.le_of_ble_eq_true rfl⟩) (fun H locs h => ?_)
  refine lv_if_eq (tgt := 91) hx hb dX4_odds_78 (by decide) (fun c13 => ?_) (fun c13 => ?_)
  · have hf := it_t c13 hf
    exact LX4_odds_91 fx hag43 h (lv_sub hl [1, 2, 3, 4, 5, 6] rfl) hf
  have hf := it_f c13 hf
  refine lv_lload_n hx hb dX4_odds_81 rfl (lv_at hl 4 rfl) ?_
  refine lv_iload hx hb dX4_odds_82 (lv_at hl 0 rfl) ?_
  refine lv_iload_n hx hb dX4_odds_84 rfl (lv_at hl 2 rfl) ?_
  refine lv_ishr hx hb dX4_odds_85 ?_
  refine lv_iconst (v := 1) hx hb dX4_odds_86 (by decide) ?_
  refine lv_iand hx hb dX4_odds_87 ?_
  refine lv_i2l hx hb dX4_odds_88 rfl ?_
  refine lv_ladd hx hb dX4_odds_89 ?_
  obtain ⟨u14, eu14, hf⟩ := nm_inv hf
  refine lv_eql eu14 ?_
  refine lv_lstore_n (lv' := [(3, .long u14), (8, .int r11), (0, .ref a_t), (1, .int y1), (2, .int y2), (5, .long y5), (7, .int y7)]) hx hb dX4_odds_90 rfl hl (by decide) rfl (fun ls hl => ?_)
  exact LX4_odds_91 fx hag43 h (lv_sub hl [2, 3, 4, 0, 5, 6] rfl) hf
set_option maxRecDepth 100000 in
theorem EX4_odds_43 {p : Program} {l : Launch} {e : Env} {s : State} {m : MethodId} {args : Array Value} {below : List Frame} {meth : Method} {c : Code} {D : va_G} {cI cJ cZ cS : ClassId} {tb : Nat} {A : Nat → Prop} {a_t a_party a_party_kinds a_party_costs a_party_terms a_party_known a_kept a_tape a_telephone a_sheets a_findings : Nat} {v_isKept : Int32} {v_party_size : Int32} {v_party_list : Int32} {v_party_told : Int32} {v_party_kinds : Nat → Int32} {v_party_terms : Nat → Int64} {rr : Int64} {kk' : (Nat → Int32) × (Nat → Int32)} (fx : q_Fx p s m args meth c cX4_odds 9 RX4 (some .long) D cI cJ cZ cS tb A) : ∀ (n : Nat), ∀ {v_party_known : Nat → Int32} {v_findings : Nat → Int32} {y1 : Int32} {y2 : Int32} {y3 : Int64} {y5 : Int64} {y7 : Int32} {H : Heap} {locs : List Loc} {ls : Array Slot}, q_H D A s (wX4_odds cI cJ cZ cS a_t a_party a_party_kinds a_party_costs a_party_terms a_party_known a_kept a_tape a_telephone a_sheets a_findings v_isKept v_party_size v_party_list v_party_told v_party_kinds v_party_terms v_party_known v_findings) H locs → lv_has ls 9 [(0, .ref a_t), (1, .int y1), (2, .int y2), (3, .long y3), (5, .long y5), (7, .int y7)] → ll7 (fX4_odds_43 v_party_size v_party_kinds v_party_terms) n v_party_known v_findings y1 y2 y3 y5 y7 = some (rr, kk') → W p l e rX4_odds s m args below meth c H locs 0 0 (MQ below (q_Rl D rr A ((fun k : (Nat → Int32) × (Nat → Int32) => (wX4_odds cI cJ cZ cS a_t a_party a_party_kinds a_party_costs a_party_terms a_party_known a_kept a_tape a_telephone a_sheets a_findings v_isKept v_party_size v_party_list v_party_told v_party_kinds v_party_terms k.1 k.2)) kk')) args s 0 0 A) (F0 m 43 ls []) := by
  intro n
  induction n with
  | zero => intro v_party_known v_findings y1 y2 y3 y5 y7 H locs ls h hl hf; exact (ll7_z hf).elim
  | succ n ih => intro v_party_known v_findings y1 y2 y3 y5 y7 H locs ls h hl hf; exact LX4_odds_43 fx ih h hl (ll7_s hf)
def fX4_odds_28 (v_party_size : Int32) (v_party_kinds : Nat → Int32) (v_party_terms : Nat → Int64) (v_party_known : Nat → Int32) (v_findings : Nat → Int32) (y1 : Int32) (y2 : Int32) : Option (Int64 × (Nat → Int32) × (Nat → Int32)) :=
  bR (fX0_lists v_party_size) (fun r15 k15 =>
  nm (r15.toInt64) (fun u16 =>
  ll7 (fX4_odds_43 v_party_size v_party_kinds v_party_terms) qF v_party_known v_findings y1 y2 0 u16 0))
set_option maxRecDepth 100000 in
set_option maxHeartbeats 4000000 in
theorem LX4_odds_28 {p : Program} {l : Launch} {e : Env} {s : State} {m : MethodId} {args : Array Value} {below : List Frame} {meth : Method} {c : Code} {D : va_G} {cI cJ cZ cS : ClassId} {tb : Nat} {A : Nat → Prop} {a_t a_party a_party_kinds a_party_costs a_party_terms a_party_known a_kept a_tape a_telephone a_sheets a_findings : Nat} {v_isKept : Int32} {v_party_size : Int32} {v_party_list : Int32} {v_party_told : Int32} {v_party_kinds : Nat → Int32} {v_party_terms : Nat → Int64} {rr : Int64} {kk' : (Nat → Int32) × (Nat → Int32)} (fx : q_Fx p s m args meth c cX4_odds 9 RX4 (some .long) D cI cJ cZ cS tb A) : ∀ {v_party_known : Nat → Int32} {v_findings : Nat → Int32} {y1 : Int32} {y2 : Int32} {H : Heap} {locs : List Loc} {ls : Array Slot}, q_H D A s (wX4_odds cI cJ cZ cS a_t a_party a_party_kinds a_party_costs a_party_terms a_party_known a_kept a_tape a_telephone a_sheets a_findings v_isKept v_party_size v_party_list v_party_told v_party_kinds v_party_terms v_party_known v_findings) H locs → lv_has ls 9 [(0, .ref a_t), (1, .int y1), (2, .int y2)] → fX4_odds_28 v_party_size v_party_kinds v_party_terms v_party_known v_findings y1 y2 = some (rr, kk') → W p l e rX4_odds s m args below meth c H locs 0 0 (MQ below (q_Rl D rr A ((fun k : (Nat → Int32) × (Nat → Int32) => (wX4_odds cI cJ cZ cS a_t a_party a_party_kinds a_party_costs a_party_terms a_party_known a_kept a_tape a_telephone a_sheets a_findings v_isKept v_party_size v_party_list v_party_told v_party_kinds v_party_terms k.1 k.2)) kk')) args s 0 0 A) (F0 m 28 ls []) := by
  intro v_party_known v_findings y1 y2 H locs ls h hl hf
  have hx := fx.1
  have hb := fx.2.1
  unfold fX4_odds_28 at hf
  refine lv_lconst (v := 0) hx hb dX4_odds_28 (by decide) ?_
  refine lv_lstore_n (lv' := [(3, .long 0), (0, .ref a_t), (1, .int y1), (2, .int y2)]) hx hb dX4_odds_29 rfl hl (by decide) rfl (fun ls hl => ?_)
  refine lv_aload_n hx hb dX4_odds_30 rfl (lv_at hl 1 rfl) ?_
  refine q_get (v := .ref a_party) fx inX4 h 0 rfl rfl 0 (by decide) k_174 rfl dX4_odds_31 ?_
  obtain ⟨r15, k15, hg, hf⟩ := bR_inv hf
  refine q_ci (rest := []) (ws' := (wX4_odds cI cJ cZ cS a_t a_party a_party_kinds a_party_costs a_party_terms a_party_known a_kept a_tape a_telephone a_sheets a_findings v_isKept v_party_size v_party_list v_party_told v_party_kinds v_party_terms v_party_known v_findings)) (w1 := (wX0_lists cI cJ cZ cS a_party a_party_kinds a_party_costs a_party_terms a_party_known v_party_size v_party_list v_party_told)) fx h [1] rfl rfl rfl rfl (q_runV fx h hl.1 [1] rfl rfl (tX0_lists l D cI cJ cZ cS tb a_party a_party_kinds a_party_costs a_party_terms a_party_known H.size v_party_size v_party_list v_party_told r15 k15 hg) mvX0_lists k_447 ⟨rfl, rfl⟩ ⟨Nat.le_of_ble_eq_true rfl, Nat.le_of_ble_eq_true rfl⟩ rfl rfl rfl rfl (Nat.le_of_ble_eq_true rfl) dX4_odds_34 ⟨Nat.le_of_ble_eq_true rfl, Nat.le_of_ble_eq_true rfl⟩) (fun H locs h => ?_)
  refine lv_i2l hx hb dX4_odds_37 rfl ?_
  obtain ⟨u16, eu16, hf⟩ := nm_inv hf
  refine lv_eql eu16 ?_
  refine lv_lstore (lv' := [(5, .long u16), (3, .long 0), (0, .ref a_t), (1, .int y1), (2, .int y2)]) hx hb dX4_odds_38 hl (by decide) rfl (fun ls hl => ?_)
  refine lv_iconst (v := 0) hx hb dX4_odds_40 (by decide) ?_
  refine lv_istore (lv' := [(7, .int 0), (5, .long u16), (3, .long 0), (0, .ref a_t), (1, .int y1), (2, .int y2)]) hx hb dX4_odds_41 hl (by decide) rfl (fun ls hl => ?_)
  exact EX4_odds_43 fx qF h (lv_sub hl [3, 4, 5, 2, 1, 0] rfl) hf
def fX4_odds_20 (v_party_size : Int32) (v_party_kinds : Nat → Int32) (v_party_terms : Nat → Int64) (v_party_known : Nat → Int32) (v_findings : Nat → Int32) : Option (Int64 × (Nat → Int32) × (Nat → Int32)) :=
  bR (fX4_found v_findings (-1000000001)) (fun r17 k17 =>
  some (r17.toInt64, (v_party_known, k17)))
set_option maxRecDepth 100000 in
set_option maxHeartbeats 4000000 in
theorem LX4_odds_20 {p : Program} {l : Launch} {e : Env} {s : State} {m : MethodId} {args : Array Value} {below : List Frame} {meth : Method} {c : Code} {D : va_G} {cI cJ cZ cS : ClassId} {tb : Nat} {A : Nat → Prop} {a_t a_party a_party_kinds a_party_costs a_party_terms a_party_known a_kept a_tape a_telephone a_sheets a_findings : Nat} {v_isKept : Int32} {v_party_size : Int32} {v_party_list : Int32} {v_party_told : Int32} {v_party_kinds : Nat → Int32} {v_party_terms : Nat → Int64} {rr : Int64} {kk' : (Nat → Int32) × (Nat → Int32)} (fx : q_Fx p s m args meth c cX4_odds 9 RX4 (some .long) D cI cJ cZ cS tb A) : ∀ {v_party_known : Nat → Int32} {v_findings : Nat → Int32} {H : Heap} {locs : List Loc} {ls : Array Slot}, q_H D A s (wX4_odds cI cJ cZ cS a_t a_party a_party_kinds a_party_costs a_party_terms a_party_known a_kept a_tape a_telephone a_sheets a_findings v_isKept v_party_size v_party_list v_party_told v_party_kinds v_party_terms v_party_known v_findings) H locs → lv_has ls 9 [(0, .ref a_t)] → fX4_odds_20 v_party_size v_party_kinds v_party_terms v_party_known v_findings = some (rr, kk') → W p l e rX4_odds s m args below meth c H locs 0 0 (MQ below (q_Rl D rr A ((fun k : (Nat → Int32) × (Nat → Int32) => (wX4_odds cI cJ cZ cS a_t a_party a_party_kinds a_party_costs a_party_terms a_party_known a_kept a_tape a_telephone a_sheets a_findings v_isKept v_party_size v_party_list v_party_told v_party_kinds v_party_terms k.1 k.2)) kk')) args s 0 0 A) (F0 m 20 ls []) := by
  intro v_party_known v_findings H locs ls h hl hf
  have hx := fx.1
  have hb := fx.2.1
  unfold fX4_odds_20 at hf
  refine lv_aload_n hx hb dX4_odds_20 rfl (lv_at hl 0 rfl) ?_
  refine q_ldc fx k_206 dX4_odds_21 ?_
  obtain ⟨r17, k17, hg, hf⟩ := bR_inv hf
  refine q_ci (rest := []) (ws' := (wX4_odds cI cJ cZ cS a_t a_party a_party_kinds a_party_costs a_party_terms a_party_known a_kept a_tape a_telephone a_sheets a_findings v_isKept v_party_size v_party_list v_party_told v_party_kinds v_party_terms v_party_known k17)) (w1 := (wX4_found cI cJ cZ cS a_t a_party a_kept a_tape a_telephone a_sheets a_findings v_isKept k17)) fx h [0, 5] rfl rfl rfl rfl (q_runV fx h hl.1 [0, 5] rfl rfl (tX4_found l D cI cJ cZ cS tb a_t a_party a_kept a_tape a_telephone a_sheets a_findings H.size v_isKept v_findings (-1000000001) r17 k17 hg) mvX4_found k_207 ⟨rfl, rfl⟩ ⟨Nat.le_of_ble_eq_true rfl, Nat.le_of_ble_eq_true rfl⟩ rfl rfl rfl rfl (Nat.le_of_ble_eq_true rfl) dX4_odds_23 ⟨Nat.le_of_ble_eq_true rfl, Nat.le_of_ble_eq_true rfl⟩) (fun H locs h => ?_)
  refine lv_i2l hx hb dX4_odds_26 rfl ?_
  exact q_retl (fun k : (Nat → Int32) × (Nat → Int32) => (wX4_odds cI cJ cZ cS a_t a_party a_party_kinds a_party_costs a_party_terms a_party_known a_kept a_tape a_telephone a_sheets a_findings v_isKept v_party_size v_party_list v_party_told v_party_kinds v_party_terms k.1 k.2)) fx hf h dX4_odds_27
def fX4_odds (v_party_size : Int32) (v_party_kinds : Nat → Int32) (v_party_terms : Nat → Int64) (v_party_known : Nat → Int32) (v_findings : Nat → Int32) (x1 : Int32) (x2 : Int32) : Option (Int64 × (Nat → Int32) × (Nat → Int32)) :=
  bR (fX0_has v_party_size x1) (fun r18 k18 =>
  (if r18 = 0 then (
  fX4_odds_20 v_party_size v_party_kinds v_party_terms v_party_known v_findings)
  else (
  (if x2 = 0 then (
  fX4_odds_28 v_party_size v_party_kinds v_party_terms v_party_known v_findings x1 x2)
  else (
  (if x2 = 1 then (
  fX4_odds_28 v_party_size v_party_kinds v_party_terms v_party_known v_findings x1 x2)
  else (
  fX4_odds_20 v_party_size v_party_kinds v_party_terms v_party_known v_findings)))))))
set_option maxRecDepth 100000 in
set_option maxHeartbeats 4000000 in
theorem tX4_odds (l : Launch) (D : va_G) (cI cJ cZ cS : ClassId) (tb : Nat) (a_t a_party a_party_kinds a_party_costs a_party_terms a_party_known a_kept a_tape a_telephone a_sheets a_findings : Nat) (sz : Nat) (v_isKept : Int32) (v_party_size : Int32) (v_party_list : Int32) (v_party_told : Int32) (v_party_kinds : Nat → Int32) (v_party_terms : Nat → Int64) (v_party_known : Nat → Int32) (v_findings : Nat → Int32) (x1 : Int32) (x2 : Int32) (rr : Int64) (kk' : (Nat → Int32) × (Nat → Int32)) (hf : fX4_odds v_party_size v_party_kinds v_party_terms v_party_known v_findings x1 x2 = some (rr, kk')) : Met l yX4_odds (Cond.code yX4_odds cX4_odds 9 (some .long) :: wA) rX4_odds (q_Pre D cI cJ cZ cS tb [.ref a_t, .int x1, .int x2] sz (wX4_odds cI cJ cZ cS a_t a_party a_party_kinds a_party_costs a_party_terms a_party_known a_kept a_tape a_telephone a_sheets a_findings v_isKept v_party_size v_party_list v_party_told v_party_kinds v_party_terms v_party_known v_findings)) (q_Rl D rr (va_A (wX4_odds cI cJ cZ cS a_t a_party a_party_kinds a_party_costs a_party_terms a_party_known a_kept a_tape a_telephone a_sheets a_findings v_isKept v_party_size v_party_list v_party_told v_party_kinds v_party_terms v_party_known v_findings) sz) ((fun k : (Nat → Int32) × (Nat → Int32) => (wX4_odds cI cJ cZ cS a_t a_party a_party_kinds a_party_costs a_party_terms a_party_known a_kept a_tape a_telephone a_sheets a_findings v_isKept v_party_size v_party_list v_party_told v_party_kinds v_party_terms k.1 k.2)) kk')) 0 0 (va_A (wX4_odds cI cJ cZ cS a_t a_party a_party_kinds a_party_costs a_party_terms a_party_known a_kept a_tape a_telephone a_sheets a_findings v_isKept v_party_size v_party_list v_party_told v_party_kinds v_party_terms v_party_known v_findings) sz) := by
  refine q_enter (Qf := fun A => (q_Rl D rr A ((fun k : (Nat → Int32) × (Nat → Int32) => (wX4_odds cI cJ cZ cS a_t a_party a_party_kinds a_party_costs a_party_terms a_party_known a_kept a_tape a_telephone a_sheets a_findings v_isKept v_party_size v_party_list v_party_told v_party_kinds v_party_terms k.1 k.2)) kk'))) (by decide) rfl (Nat.le_of_ble_eq_true rfl) ?_
  intro p e s m below meth c A ls fx hname h hl
  have hx := fx.1
  have hb := fx.2.1
  have hl : lv_has ls 9 [(0, .ref a_t), (1, .int x1), (2, .int x2)] := hl
  generalize h9 : s.heap = H at h ⊢
  clear h9
  generalize h9 : ([] : List Loc) = locs at h ⊢
  clear h9
  unfold fX4_odds at hf
  refine lv_aload_n hx hb dX4_odds_0 rfl (lv_at hl 0 rfl) ?_
  refine q_get (v := .ref a_party) fx inX4 h 0 rfl rfl 0 (by decide) k_174 rfl dX4_odds_1 ?_
  refine lv_iload_n hx hb dX4_odds_4 rfl (lv_at hl 1 rfl) ?_
  obtain ⟨r18, k18, hg, hf⟩ := bR_inv hf
  refine q_ci (rest := []) (ws' := (wX4_odds cI cJ cZ cS a_t a_party a_party_kinds a_party_costs a_party_terms a_party_known a_kept a_tape a_telephone a_sheets a_findings v_isKept v_party_size v_party_list v_party_told v_party_kinds v_party_terms v_party_known v_findings)) (w1 := (wX0_has cI cJ cZ cS a_party a_party_kinds a_party_costs a_party_terms a_party_known v_party_size v_party_list v_party_told)) fx h [1] rfl rfl rfl rfl (q_runV fx h hl.1 [1] rfl rfl (tX0_has l D cI cJ cZ cS tb a_party a_party_kinds a_party_costs a_party_terms a_party_known H.size v_party_size v_party_list v_party_told x1 r18 k18 hg) mvX0_has k_220 ⟨rfl, rfl⟩ ⟨Nat.le_of_ble_eq_true rfl, Nat.le_of_ble_eq_true rfl⟩ rfl rfl rfl rfl (Nat.le_of_ble_eq_true rfl) dX4_odds_5 ⟨Nat.le_of_ble_eq_true rfl, Nat.le_of_ble_eq_true rfl⟩) (fun H locs h => ?_)
  refine lv_if_eq (tgt := 20) hx hb dX4_odds_8 (by decide) (fun c19 => ?_) (fun c19 => ?_)
  · have hf := it_t c19 hf
    exact LX4_odds_20 fx h (lv_sub hl [0] rfl) hf
  have hf := it_f c19 hf
  refine lv_iload_n hx hb dX4_odds_11 rfl (lv_at hl 2 rfl) ?_
  refine lv_if_eq (tgt := 28) hx hb dX4_odds_12 (by decide) (fun c20 => ?_) (fun c20 => ?_)
  · have hf := it_t c20 hf
    exact LX4_odds_28 fx h (lv_sub hl [0, 1, 2] rfl) hf
  have hf := it_f c20 hf
  refine lv_iload_n hx hb dX4_odds_15 rfl (lv_at hl 2 rfl) ?_
  refine lv_iconst (v := 1) hx hb dX4_odds_16 (by decide) ?_
  refine lv_icmp_eq (tgt := 28) hx hb dX4_odds_17 (by decide) (fun c21 => ?_) (fun c21 => ?_)
  · have hf := it_t c21 hf
    exact LX4_odds_28 fx h (lv_sub hl [0, 1, 2] rfl) hf
  have hf := it_f c21 hf
  exact LX4_odds_20 fx h (lv_sub hl [0] rfl) hf
/-! X0_lastOf -/
abbrev wX0_lastOf (cI cJ cZ cS : ClassId) (a_t a_kinds a_costs a_terms a_known : Nat) (v_size : Int32) (v_list : Int32) (v_told : Int32) (v_kinds : Nat → Int32) (v_terms : Nat → Int64) (v_known : Nat → Int32) : va_W := [(a_t, .inr (0, [.int v_size, .int v_list, .int v_told, .ref a_kinds, .ref a_costs, .ref a_terms, .ref a_known])), (a_kinds, .inl (cI, 8, .inl v_kinds)), (a_terms, .inl (cJ, 32, .inr (.inl v_terms))), (a_known, .inl (cI, 256, .inl v_known))]
abbrev rX0_lastOf : Room := { frames := 4, cells := 0, slots := 0, locals := 90 }
def fX0_lastOf_8 (v_size : Int32) (v_kinds : Nat → Int32) (v_terms : Nat → Int64) (ag8 : (Nat → Int32) → Int32 → Int32 → Int32 → Int32 → Int32 → Option (Int32 × (Nat → Int32))) (v_known : Nat → Int32) (y1 : Int32) (y2 : Int32) (y3 : Int32) (y4 : Int32) (y5 : Int32) : Option (Int32 × (Nat → Int32)) :=
  (if (64 : Int32) ≤ y5 then (
  some (y3, v_known))
  else (
  (if y3 = y4 then (
  some (y3, v_known))
  else (
  bR (fX0_comers v_size v_kinds v_terms v_known y3) (fun r3 k3 =>
  nm ((r3 &&& y2) ||| y1) (fun u4 =>
  nm (y5 + 1) (fun u5 =>
  ag8 k3 y1 y2 u4 y3 u5)))))))
set_option maxRecDepth 100000 in
set_option maxHeartbeats 4000000 in
theorem LX0_lastOf_8 {p : Program} {l : Launch} {e : Env} {s : State} {m : MethodId} {args : Array Value} {below : List Frame} {meth : Method} {c : Code} {D : va_G} {cI cJ cZ cS : ClassId} {tb : Nat} {A : Nat → Prop} {a_t a_kinds a_costs a_terms a_known : Nat} {v_size : Int32} {v_list : Int32} {v_told : Int32} {v_kinds : Nat → Int32} {v_terms : Nat → Int64} {rr : Int32} {kk' : (Nat → Int32)} (fx : q_Fx p s m args meth c cX0_lastOf 6 RX0 (some .int) D cI cJ cZ cS tb A) {ag8 : (Nat → Int32) → Int32 → Int32 → Int32 → Int32 → Int32 → Option (Int32 × (Nat → Int32))} (hag8 : ∀ {v_known : Nat → Int32} {y1 : Int32} {y2 : Int32} {y3 : Int32} {y4 : Int32} {y5 : Int32} {H : Heap} {locs : List Loc} {ls : Array Slot}, q_H D A s (wX0_lastOf cI cJ cZ cS a_t a_kinds a_costs a_terms a_known v_size v_list v_told v_kinds v_terms v_known) H locs → lv_has ls 6 [(0, .ref a_t), (1, .int y1), (2, .int y2), (3, .int y3), (4, .int y4), (5, .int y5)] → ag8 v_known y1 y2 y3 y4 y5 = some (rr, kk') → W p l e rX0_lastOf s m args below meth c H locs 0 0 (MQ below (q_Ri D rr A ((fun k : (Nat → Int32) => (wX0_lastOf cI cJ cZ cS a_t a_kinds a_costs a_terms a_known v_size v_list v_told v_kinds v_terms k)) kk')) args s 0 0 A) (F0 m 8 ls [])) : ∀ {v_known : Nat → Int32} {y1 : Int32} {y2 : Int32} {y3 : Int32} {y4 : Int32} {y5 : Int32} {H : Heap} {locs : List Loc} {ls : Array Slot}, q_H D A s (wX0_lastOf cI cJ cZ cS a_t a_kinds a_costs a_terms a_known v_size v_list v_told v_kinds v_terms v_known) H locs → lv_has ls 6 [(0, .ref a_t), (1, .int y1), (2, .int y2), (3, .int y3), (4, .int y4), (5, .int y5)] → fX0_lastOf_8 v_size v_kinds v_terms ag8 v_known y1 y2 y3 y4 y5 = some (rr, kk') → W p l e rX0_lastOf s m args below meth c H locs 0 0 (MQ below (q_Ri D rr A ((fun k : (Nat → Int32) => (wX0_lastOf cI cJ cZ cS a_t a_kinds a_costs a_terms a_known v_size v_list v_told v_kinds v_terms k)) kk')) args s 0 0 A) (F0 m 8 ls []) := by
  intro v_known y1 y2 y3 y4 y5 H locs ls h hl hf
  have hx := fx.1
  have hb := fx.2.1
  unfold fX0_lastOf_8 at hf
  refine lv_iload hx hb dX0_lastOf_8 (lv_at hl 5 rfl) ?_
  refine lv_bipush (v := 64) hx hb dX0_lastOf_10 (by decide) ?_
  refine lv_icmp_ge (tgt := 40) hx hb dX0_lastOf_12 (by decide) (fun c1 => ?_) (fun c1 => ?_)
  · have hf := it_t c1 hf
    refine lv_iload_n hx hb dX0_lastOf_40 rfl (lv_at hl 3 rfl) ?_
    exact q_reti (fun k : (Nat → Int32) => (wX0_lastOf cI cJ cZ cS a_t a_kinds a_costs a_terms a_known v_size v_list v_told v_kinds v_terms k)) fx hf h dX0_lastOf_41
  have hf := it_f c1 hf
  refine lv_iload_n hx hb dX0_lastOf_15 rfl (lv_at hl 3 rfl) ?_
  refine lv_iload hx hb dX0_lastOf_16 (lv_at hl 4 rfl) ?_
  refine lv_icmp_eq (tgt := 40) hx hb dX0_lastOf_18 (by decide) (fun c2 => ?_) (fun c2 => ?_)
  · have hf := it_t c2 hf
    refine lv_iload_n hx hb dX0_lastOf_40 rfl (lv_at hl 3 rfl) ?_
    exact q_reti (fun k : (Nat → Int32) => (wX0_lastOf cI cJ cZ cS a_t a_kinds a_costs a_terms a_known v_size v_list v_told v_kinds v_terms k)) fx hf h dX0_lastOf_41
  have hf := it_f c2 hf
  refine lv_iload_n hx hb dX0_lastOf_21 rfl (lv_at hl 3 rfl) ?_
  refine lv_istore (lv' := [(4, .int y3), (0, .ref a_t), (1, .int y1), (2, .int y2), (3, .int y3), (5, .int y5)]) hx hb dX0_lastOf_22 hl (by decide) rfl (fun ls hl => ?_)
  refine lv_aload_n hx hb dX0_lastOf_24 rfl (lv_at hl 1 rfl) ?_
  refine lv_iload_n hx hb dX0_lastOf_25 rfl (lv_at hl 4 rfl) ?_
  obtain ⟨r3, k3, hg, hf⟩ := bR_inv hf
  refine q_ci (rest := []) (ws' := (wX0_lastOf cI cJ cZ cS a_t a_kinds a_costs a_terms a_known v_size v_list v_told v_kinds v_terms k3)) (w1 := (wX0_comers cI cJ cZ cS a_t a_kinds a_costs a_terms a_known v_size v_list v_told v_kinds v_terms k3)) fx h [0, 1, 2, 3] rfl rfl rfl rfl (q_runV fx h hl.1 [0, 1, 2, 3] rfl rfl (tX0_comers l D cI cJ cZ cS tb a_t a_kinds a_costs a_terms a_known H.size v_size v_list v_told v_kinds v_terms v_known y3 r3 k3 hg) mvX0_comers k_362 ⟨rfl, rfl⟩ ⟨Nat.le_of_ble_eq_true rfl, Nat.le_of_ble_eq_true rfl⟩ rfl rfl rfl rfl (Nat.le_of_ble_eq_true rfl) dX0_lastOf_26 ⟨Nat.le_of_ble_eq_true rfl, Nat.le_of_ble_eq_true rfl⟩) (fun H locs h => ?_)
  refine lv_iload_n hx hb dX0_lastOf_29 rfl (lv_at hl 3 rfl) ?_
  refine lv_iand hx hb dX0_lastOf_30 ?_
  refine lv_iload_n hx hb dX0_lastOf_31 rfl (lv_at hl 2 rfl) ?_
  refine lv_ior hx hb dX0_lastOf_32 ?_
  obtain ⟨u4, eu4, hf⟩ := nm_inv hf
  refine lv_eqi eu4 ?_
  refine lv_istore_n (lv' := [(3, .int u4), (4, .int y3), (0, .ref a_t), (1, .int y1), (2, .int y2), (5, .int y5)]) hx hb dX0_lastOf_33 rfl hl (by decide) rfl (fun ls hl => ?_)
  obtain ⟨u5, eu5, hf⟩ := nm_inv hf
  refine lv_iinc (v := u5) (lv' := [(5, .int u5), (3, .int u4), (4, .int y3), (0, .ref a_t), (1, .int y1), (2, .int y2)]) hx hb dX0_lastOf_34 hl (k := 5) rfl (by rw [eu5]; rfl) (by decide) rfl (fun ls hl => ?_)
  refine lv_goto (tgt := 8) hx hb dX0_lastOf_37 (by decide) ?_
  exact hag8 h (lv_sub hl [3, 4, 5, 1, 2, 0] rfl) hf
set_option maxRecDepth 100000 in
theorem EX0_lastOf_8 {p : Program} {l : Launch} {e : Env} {s : State} {m : MethodId} {args : Array Value} {below : List Frame} {meth : Method} {c : Code} {D : va_G} {cI cJ cZ cS : ClassId} {tb : Nat} {A : Nat → Prop} {a_t a_kinds a_costs a_terms a_known : Nat} {v_size : Int32} {v_list : Int32} {v_told : Int32} {v_kinds : Nat → Int32} {v_terms : Nat → Int64} {rr : Int32} {kk' : (Nat → Int32)} (fx : q_Fx p s m args meth c cX0_lastOf 6 RX0 (some .int) D cI cJ cZ cS tb A) : ∀ (n : Nat), ∀ {v_known : Nat → Int32} {y1 : Int32} {y2 : Int32} {y3 : Int32} {y4 : Int32} {y5 : Int32} {H : Heap} {locs : List Loc} {ls : Array Slot}, q_H D A s (wX0_lastOf cI cJ cZ cS a_t a_kinds a_costs a_terms a_known v_size v_list v_told v_kinds v_terms v_known) H locs → lv_has ls 6 [(0, .ref a_t), (1, .int y1), (2, .int y2), (3, .int y3), (4, .int y4), (5, .int y5)] → ll6 (fX0_lastOf_8 v_size v_kinds v_terms) n v_known y1 y2 y3 y4 y5 = some (rr, kk') → W p l e rX0_lastOf s m args below meth c H locs 0 0 (MQ below (q_Ri D rr A ((fun k : (Nat → Int32) => (wX0_lastOf cI cJ cZ cS a_t a_kinds a_costs a_terms a_known v_size v_list v_told v_kinds v_terms k)) kk')) args s 0 0 A) (F0 m 8 ls []) := by
  intro n
  induction n with
  | zero => intro v_known y1 y2 y3 y4 y5 H locs ls h hl hf; exact (ll6_z hf).elim
  | succ n ih => intro v_known y1 y2 y3 y4 y5 H locs ls h hl hf; exact LX0_lastOf_8 fx ih h hl (ll6_s hf)
def fX0_lastOf (v_size : Int32) (v_kinds : Nat → Int32) (v_terms : Nat → Int64) (v_known : Nat → Int32) (x1 : Int32) (x2 : Int32) : Option (Int32 × (Nat → Int32)) :=
  ll6 (fX0_lastOf_8 v_size v_kinds v_terms) qF v_known x1 x2 x1 (-1) 0
set_option maxRecDepth 100000 in
set_option maxHeartbeats 4000000 in
theorem tX0_lastOf (l : Launch) (D : va_G) (cI cJ cZ cS : ClassId) (tb : Nat) (a_t a_kinds a_costs a_terms a_known : Nat) (sz : Nat) (v_size : Int32) (v_list : Int32) (v_told : Int32) (v_kinds : Nat → Int32) (v_terms : Nat → Int64) (v_known : Nat → Int32) (x1 : Int32) (x2 : Int32) (rr : Int32) (kk' : (Nat → Int32)) (hf : fX0_lastOf v_size v_kinds v_terms v_known x1 x2 = some (rr, kk')) : Met l yX0_lastOf (Cond.code yX0_lastOf cX0_lastOf 6 (some .int) :: wA) rX0_lastOf (q_Pre D cI cJ cZ cS tb [.ref a_t, .int x1, .int x2] sz (wX0_lastOf cI cJ cZ cS a_t a_kinds a_costs a_terms a_known v_size v_list v_told v_kinds v_terms v_known)) (q_Ri D rr (va_A (wX0_lastOf cI cJ cZ cS a_t a_kinds a_costs a_terms a_known v_size v_list v_told v_kinds v_terms v_known) sz) ((fun k : (Nat → Int32) => (wX0_lastOf cI cJ cZ cS a_t a_kinds a_costs a_terms a_known v_size v_list v_told v_kinds v_terms k)) kk')) 0 0 (va_A (wX0_lastOf cI cJ cZ cS a_t a_kinds a_costs a_terms a_known v_size v_list v_told v_kinds v_terms v_known) sz) := by
  refine q_enter (Qf := fun A => (q_Ri D rr A ((fun k : (Nat → Int32) => (wX0_lastOf cI cJ cZ cS a_t a_kinds a_costs a_terms a_known v_size v_list v_told v_kinds v_terms k)) kk'))) (by decide) rfl (Nat.le_of_ble_eq_true rfl) ?_
  intro p e s m below meth c A ls fx hname h hl
  have hx := fx.1
  have hb := fx.2.1
  have hl : lv_has ls 6 [(0, .ref a_t), (1, .int x1), (2, .int x2)] := hl
  generalize h9 : s.heap = H at h ⊢
  clear h9
  generalize h9 : ([] : List Loc) = locs at h ⊢
  clear h9
  unfold fX0_lastOf at hf
  refine lv_iload_n hx hb dX0_lastOf_0 rfl (lv_at hl 1 rfl) ?_
  refine lv_istore_n (lv' := [(3, .int x1), (0, .ref a_t), (1, .int x1), (2, .int x2)]) hx hb dX0_lastOf_1 rfl hl (by decide) rfl (fun ls hl => ?_)
  refine lv_iconst (v := -1) hx hb dX0_lastOf_2 (by decide) ?_
  refine lv_istore (lv' := [(4, .int (-1)), (3, .int x1), (0, .ref a_t), (1, .int x1), (2, .int x2)]) hx hb dX0_lastOf_3 hl (by decide) rfl (fun ls hl => ?_)
  refine lv_iconst (v := 0) hx hb dX0_lastOf_5 (by decide) ?_
  refine lv_istore (lv' := [(5, .int 0), (4, .int (-1)), (3, .int x1), (0, .ref a_t), (1, .int x1), (2, .int x2)]) hx hb dX0_lastOf_6 hl (by decide) rfl (fun ls hl => ?_)
  exact EX0_lastOf_8 fx qF h (lv_sub hl [3, 4, 5, 2, 1, 0] rfl) hf
/-! X4_last -/
abbrev wX4_last (cI cJ cZ cS : ClassId) (a_t a_party a_party_kinds a_party_costs a_party_terms a_party_known a_kept a_tape a_telephone a_sheets a_findings : Nat) (v_isKept : Int32) (v_party_size : Int32) (v_party_list : Int32) (v_party_told : Int32) (v_party_kinds : Nat → Int32) (v_party_terms : Nat → Int64) (v_party_known : Nat → Int32) (v_findings : Nat → Int32) : va_W := [(a_t, .inr (4, [.ref a_party, .ref a_kept, .int v_isKept, .ref a_tape, .ref a_telephone, .ref a_sheets, .ref a_findings])), (a_party, .inr (0, [.int v_party_size, .int v_party_list, .int v_party_told, .ref a_party_kinds, .ref a_party_costs, .ref a_party_terms, .ref a_party_known])), (a_party_kinds, .inl (cI, 8, .inl v_party_kinds)), (a_party_terms, .inl (cJ, 32, .inr (.inl v_party_terms))), (a_party_known, .inl (cI, 256, .inl v_party_known)), (a_findings, .inl (cI, 7, .inl v_findings))]
abbrev rX4_last : Room := { frames := 5, cells := 0, slots := 0, locals := 115 }
def fX4_last (v_party_size : Int32) (v_party_kinds : Nat → Int32) (v_party_terms : Nat → Int64) (v_party_known : Nat → Int32) (v_findings : Nat → Int32) (x1 : Int32) : Option (Int32 × (Nat → Int32) × (Nat → Int32)) :=
  bR (fX0_isSet v_party_size x1) (fun r1 k1 =>
  (if r1 = 0 then (
  bR (fX4_found v_findings (-1000000001)) (fun r3 k3 =>
  some (r3, (v_party_known, k3))))
  else (
  bR (fX0_everyone v_party_size) (fun r4 k4 =>
  bR (fX0_lastOf v_party_size v_party_kinds v_party_terms v_party_known x1 r4) (fun r5 k5 =>
  some (r5, (k5, v_findings)))))))
set_option maxRecDepth 100000 in
set_option maxHeartbeats 4000000 in
theorem tX4_last (l : Launch) (D : va_G) (cI cJ cZ cS : ClassId) (tb : Nat) (a_t a_party a_party_kinds a_party_costs a_party_terms a_party_known a_kept a_tape a_telephone a_sheets a_findings : Nat) (sz : Nat) (v_isKept : Int32) (v_party_size : Int32) (v_party_list : Int32) (v_party_told : Int32) (v_party_kinds : Nat → Int32) (v_party_terms : Nat → Int64) (v_party_known : Nat → Int32) (v_findings : Nat → Int32) (x1 : Int32) (rr : Int32) (kk' : (Nat → Int32) × (Nat → Int32)) (hf : fX4_last v_party_size v_party_kinds v_party_terms v_party_known v_findings x1 = some (rr, kk')) : Met l yX4_last (Cond.code yX4_last cX4_last 2 (some .int) :: wA) rX4_last (q_Pre D cI cJ cZ cS tb [.ref a_t, .int x1] sz (wX4_last cI cJ cZ cS a_t a_party a_party_kinds a_party_costs a_party_terms a_party_known a_kept a_tape a_telephone a_sheets a_findings v_isKept v_party_size v_party_list v_party_told v_party_kinds v_party_terms v_party_known v_findings)) (q_Ri D rr (va_A (wX4_last cI cJ cZ cS a_t a_party a_party_kinds a_party_costs a_party_terms a_party_known a_kept a_tape a_telephone a_sheets a_findings v_isKept v_party_size v_party_list v_party_told v_party_kinds v_party_terms v_party_known v_findings) sz) ((fun k : (Nat → Int32) × (Nat → Int32) => (wX4_last cI cJ cZ cS a_t a_party a_party_kinds a_party_costs a_party_terms a_party_known a_kept a_tape a_telephone a_sheets a_findings v_isKept v_party_size v_party_list v_party_told v_party_kinds v_party_terms k.1 k.2)) kk')) 0 0 (va_A (wX4_last cI cJ cZ cS a_t a_party a_party_kinds a_party_costs a_party_terms a_party_known a_kept a_tape a_telephone a_sheets a_findings v_isKept v_party_size v_party_list v_party_told v_party_kinds v_party_terms v_party_known v_findings) sz) := by
  refine q_enter (Qf := fun A => (q_Ri D rr A ((fun k : (Nat → Int32) × (Nat → Int32) => (wX4_last cI cJ cZ cS a_t a_party a_party_kinds a_party_costs a_party_terms a_party_known a_kept a_tape a_telephone a_sheets a_findings v_isKept v_party_size v_party_list v_party_told v_party_kinds v_party_terms k.1 k.2)) kk'))) (by decide) rfl (Nat.le_of_ble_eq_true rfl) ?_
  intro p e s m below meth c A ls fx hname h hl
  have hx := fx.1
  have hb := fx.2.1
  have hl : lv_has ls 2 [(0, .ref a_t), (1, .int x1)] := hl
  generalize h9 : s.heap = H at h ⊢
  clear h9
  generalize h9 : ([] : List Loc) = locs at h ⊢
  clear h9
  unfold fX4_last at hf
  refine lv_aload_n hx hb dX4_last_0 rfl (lv_at hl 0 rfl) ?_
  refine q_get (v := .ref a_party) fx inX4 h 0 rfl rfl 0 (by decide) k_174 rfl dX4_last_1 ?_
  refine lv_iload_n hx hb dX4_last_4 rfl (lv_at hl 1 rfl) ?_
  obtain ⟨r1, k1, hg, hf⟩ := bR_inv hf
  refine q_ci (rest := []) (ws' := (wX4_last cI cJ cZ cS a_t a_party a_party_kinds a_party_costs a_party_terms a_party_known a_kept a_tape a_telephone a_sheets a_findings v_isKept v_party_size v_party_list v_party_told v_party_kinds v_party_terms v_party_known v_findings)) (w1 := (wX0_isSet cI cJ cZ cS a_party a_party_kinds a_party_costs a_party_terms a_party_known v_party_size v_party_list v_party_told)) fx h [1] rfl rfl rfl rfl (q_runV fx h hl.1 [1] rfl rfl (tX0_isSet l D cI cJ cZ cS tb a_party a_party_kinds a_party_costs a_party_terms a_party_known H.size v_party_size v_party_list v_party_told x1 r1 k1 hg) mvX0_isSet k_346 ⟨rfl, rfl⟩ ⟨Nat.le_of_ble_eq_true rfl, Nat.le_of_ble_eq_true rfl⟩ rfl rfl rfl rfl (Nat.le_of_ble_eq_true rfl) dX4_last_5 ⟨Nat.le_of_ble_eq_true rfl, Nat.le_of_ble_eq_true rfl⟩) (fun H locs h => ?_)
  refine lv_if_eq (tgt := 29) hx hb dX4_last_8 (by decide) (fun c2 => ?_) (fun c2 => ?_)
  · have hf := it_t c2 hf
    refine lv_aload_n hx hb dX4_last_29 rfl (lv_at hl 0 rfl) ?_
    refine q_ldc fx k_206 dX4_last_30 ?_
    obtain ⟨r3, k3, hg, hf⟩ := bR_inv hf
    refine q_ci (rest := []) (ws' := (wX4_last cI cJ cZ cS a_t a_party a_party_kinds a_party_costs a_party_terms a_party_known a_kept a_tape a_telephone a_sheets a_findings v_isKept v_party_size v_party_list v_party_told v_party_kinds v_party_terms v_party_known k3)) (w1 := (wX4_found cI cJ cZ cS a_t a_party a_kept a_tape a_telephone a_sheets a_findings v_isKept k3)) fx h [0, 5] rfl rfl rfl rfl (q_runV fx h hl.1 [0, 5] rfl rfl (tX4_found l D cI cJ cZ cS tb a_t a_party a_kept a_tape a_telephone a_sheets a_findings H.size v_isKept v_findings (-1000000001) r3 k3 hg) mvX4_found k_207 ⟨rfl, rfl⟩ ⟨Nat.le_of_ble_eq_true rfl, Nat.le_of_ble_eq_true rfl⟩ rfl rfl rfl rfl (Nat.le_of_ble_eq_true rfl) dX4_last_32 ⟨Nat.le_of_ble_eq_true rfl, Nat.le_of_ble_eq_true rfl⟩) (fun H locs h => ?_)
    exact q_reti (fun k : (Nat → Int32) × (Nat → Int32) => (wX4_last cI cJ cZ cS a_t a_party a_party_kinds a_party_costs a_party_terms a_party_known a_kept a_tape a_telephone a_sheets a_findings v_isKept v_party_size v_party_list v_party_told v_party_kinds v_party_terms k.1 k.2)) fx hf h dX4_last_35
  have hf := it_f c2 hf
  refine lv_aload_n hx hb dX4_last_11 rfl (lv_at hl 0 rfl) ?_
  refine q_get (v := .ref a_party) fx inX4 h 0 rfl rfl 0 (by decide) k_174 rfl dX4_last_12 ?_
  refine lv_iload_n hx hb dX4_last_15 rfl (lv_at hl 1 rfl) ?_
  refine lv_aload_n hx hb dX4_last_16 rfl (lv_at hl 0 rfl) ?_
  refine q_get (v := .ref a_party) fx inX4 h 0 rfl rfl 0 (by decide) k_174 rfl dX4_last_17 ?_
  obtain ⟨r4, k4, hg, hf⟩ := bR_inv hf
  refine q_ci (rest := [.int x1, .ref a_party]) (ws' := (wX4_last cI cJ cZ cS a_t a_party a_party_kinds a_party_costs a_party_terms a_party_known a_kept a_tape a_telephone a_sheets a_findings v_isKept v_party_size v_party_list v_party_told v_party_kinds v_party_terms v_party_known v_findings)) (w1 := (wX0_everyone cI cJ cZ cS a_party a_party_kinds a_party_costs a_party_terms a_party_known v_party_size v_party_list v_party_told)) fx h [1] rfl rfl rfl rfl (q_runV fx h hl.1 [1] rfl rfl (tX0_everyone l D cI cJ cZ cS tb a_party a_party_kinds a_party_costs a_party_terms a_party_known H.size v_party_size v_party_list v_party_told r4 k4 hg) mvX0_everyone k_456 ⟨rfl, rfl⟩ ⟨Nat.le_of_ble_eq_true rfl, Nat.le_of_ble_eq_true rfl⟩ rfl rfl rfl rfl (Nat.le_of_ble_eq_true rfl) dX4_last_20 ⟨Nat.le_of_ble_eq_true rfl, Nat.le_of_ble_eq_true rfl⟩) (fun H locs h => ?_)
  obtain ⟨r5, k5, hg, hf⟩ := bR_inv hf
  refine q_ci (rest := []) (ws' := (wX4_last cI cJ cZ cS a_t a_party a_party_kinds a_party_costs a_party_terms a_party_known a_kept a_tape a_telephone a_sheets a_findings v_isKept v_party_size v_party_list v_party_told v_party_kinds v_party_terms k5 v_findings)) (w1 := (wX0_lastOf cI cJ cZ cS a_party a_party_kinds a_party_costs a_party_terms a_party_known v_party_size v_party_list v_party_told v_party_kinds v_party_terms k5)) fx h [1, 2, 3, 4] rfl rfl rfl rfl (q_runV fx h hl.1 [1, 2, 3, 4] rfl rfl (tX0_lastOf l D cI cJ cZ cS tb a_party a_party_kinds a_party_costs a_party_terms a_party_known H.size v_party_size v_party_list v_party_told v_party_kinds v_party_terms v_party_known x1 r4 r5 k5 hg) mvX0_lastOf k_479 ⟨rfl, rfl⟩ ⟨Nat.le_of_ble_eq_true rfl, Nat.le_of_ble_eq_true rfl⟩ rfl rfl rfl rfl (Nat.le_of_ble_eq_true rfl) dX4_last_23 ⟨Nat.le_of_ble_eq_true rfl, Nat.le_of_ble_eq_true rfl⟩) (fun H locs h => ?_)
  refine lv_goto (tgt := 35) hx hb dX4_last_26 (by decide) ?_
  exact q_reti (fun k : (Nat → Int32) × (Nat → Int32) => (wX4_last cI cJ cZ cS a_t a_party a_party_kinds a_party_costs a_party_terms a_party_known a_kept a_tape a_telephone a_sheets a_findings v_isKept v_party_size v_party_list v_party_told v_party_kinds v_party_terms k.1 k.2)) fx hf h dX4_last_35
/-! X4_isCheaper -/
abbrev wX4_isCheaper (cI cJ cZ cS : ClassId) (a_t a_party a_party_kinds a_party_costs a_party_terms a_party_known a_kept a_tape a_telephone a_sheets a_findings : Nat) (v_isKept : Int32) (v_party_size : Int32) (v_party_list : Int32) (v_party_told : Int32) (v_party_costs : Nat → Int32) : va_W := [(a_t, .inr (4, [.ref a_party, .ref a_kept, .int v_isKept, .ref a_tape, .ref a_telephone, .ref a_sheets, .ref a_findings])), (a_party, .inr (0, [.int v_party_size, .int v_party_list, .int v_party_told, .ref a_party_kinds, .ref a_party_costs, .ref a_party_terms, .ref a_party_known])), (a_party_costs, .inl (cI, 8, .inl v_party_costs))]
abbrev rX4_isCheaper : Room := { frames := 2, cells := 0, slots := 0, locals := 44 }
def fX4_isCheaper (v_party_size : Int32) (v_party_costs : Nat → Int32) (x1 : Int32) (x2 : Int32) : Option (Int32 × Unit) :=
  bR (fX0_costsOf v_party_size v_party_costs x1) (fun r1 k1 =>
  bR (fX0_costsOf v_party_size v_party_costs x2) (fun r2 k2 =>
  (if r1 < r2 then (
  some (1, ()))
  else (
  (if r1 = r2 then (
  bR (fJ6_bitCount_0f7a4 x1) (fun r5 k5 =>
  bR (fJ6_bitCount_0f7a4 x2) (fun r6 k6 =>
  (if r6 ≤ r5 then (
  some (0, ()))
  else (
  some (1, ()))))))
  else (
  some (0, ())))))))
set_option maxRecDepth 100000 in
set_option maxHeartbeats 4000000 in
theorem tX4_isCheaper (l : Launch) (D : va_G) (cI cJ cZ cS : ClassId) (tb : Nat) (a_t a_party a_party_kinds a_party_costs a_party_terms a_party_known a_kept a_tape a_telephone a_sheets a_findings : Nat) (sz : Nat) (v_isKept : Int32) (v_party_size : Int32) (v_party_list : Int32) (v_party_told : Int32) (v_party_costs : Nat → Int32) (x1 : Int32) (x2 : Int32) (rr : Int32) (kk' : Unit) (hf : fX4_isCheaper v_party_size v_party_costs x1 x2 = some (rr, kk')) : Met l yX4_isCheaper (Cond.code yX4_isCheaper cX4_isCheaper 5 (some .boolean) :: wA) rX4_isCheaper (q_Pre D cI cJ cZ cS tb [.ref a_t, .int x1, .int x2] sz (wX4_isCheaper cI cJ cZ cS a_t a_party a_party_kinds a_party_costs a_party_terms a_party_known a_kept a_tape a_telephone a_sheets a_findings v_isKept v_party_size v_party_list v_party_told v_party_costs)) (q_Ri D rr (va_A (wX4_isCheaper cI cJ cZ cS a_t a_party a_party_kinds a_party_costs a_party_terms a_party_known a_kept a_tape a_telephone a_sheets a_findings v_isKept v_party_size v_party_list v_party_told v_party_costs) sz) ((fun k : Unit => (wX4_isCheaper cI cJ cZ cS a_t a_party a_party_kinds a_party_costs a_party_terms a_party_known a_kept a_tape a_telephone a_sheets a_findings v_isKept v_party_size v_party_list v_party_told v_party_costs)) kk')) 0 0 (va_A (wX4_isCheaper cI cJ cZ cS a_t a_party a_party_kinds a_party_costs a_party_terms a_party_known a_kept a_tape a_telephone a_sheets a_findings v_isKept v_party_size v_party_list v_party_told v_party_costs) sz) := by
  refine q_enter (Qf := fun A => (q_Ri D rr A ((fun k : Unit => (wX4_isCheaper cI cJ cZ cS a_t a_party a_party_kinds a_party_costs a_party_terms a_party_known a_kept a_tape a_telephone a_sheets a_findings v_isKept v_party_size v_party_list v_party_told v_party_costs)) kk'))) (by decide) rfl (Nat.le_of_ble_eq_true rfl) ?_
  intro p e s m below meth c A ls fx hname h hl
  have hx := fx.1
  have hb := fx.2.1
  have hl : lv_has ls 5 [(0, .ref a_t), (1, .int x1), (2, .int x2)] := hl
  generalize h9 : s.heap = H at h ⊢
  clear h9
  generalize h9 : ([] : List Loc) = locs at h ⊢
  clear h9
  unfold fX4_isCheaper at hf
  refine lv_aload_n hx hb dX4_isCheaper_0 rfl (lv_at hl 0 rfl) ?_
  refine q_get (v := .ref a_party) fx inX4 h 0 rfl rfl 0 (by decide) k_174 rfl dX4_isCheaper_1 ?_
  refine lv_iload_n hx hb dX4_isCheaper_4 rfl (lv_at hl 1 rfl) ?_
  obtain ⟨r1, k1, hg, hf⟩ := bR_inv hf
  refine q_ci (rest := []) (ws' := (wX4_isCheaper cI cJ cZ cS a_t a_party a_party_kinds a_party_costs a_party_terms a_party_known a_kept a_tape a_telephone a_sheets a_findings v_isKept v_party_size v_party_list v_party_told v_party_costs)) (w1 := (wX0_costsOf cI cJ cZ cS a_party a_party_kinds a_party_costs a_party_terms a_party_known v_party_size v_party_list v_party_told v_party_costs)) fx h [1, 2] rfl rfl rfl rfl (q_runV fx h hl.1 [1, 2] rfl rfl (tX0_costsOf l D cI cJ cZ cS tb a_party a_party_kinds a_party_costs a_party_terms a_party_known H.size v_party_size v_party_list v_party_told v_party_costs x1 r1 k1 hg) mvX0_costsOf k_363 ⟨rfl, rfl⟩ ⟨Nat.le_of_ble_eq_true rfl, Nat.le_of_ble_eq_true rfl⟩ rfl rfl rfl rfl (Nat.le_of_ble_eq_true rfl) dX4_isCheaper_5 ⟨Nat.le_of_ble_eq_true rfl, Nat.le_of_ble_eq_true rfl⟩) (fun H locs h => ?_)
  refine lv_istore_n (lv' := [(3, .int r1), (0, .ref a_t), (1, .int x1), (2, .int x2)]) hx hb dX4_isCheaper_8 rfl hl (by decide) rfl (fun ls hl => ?_)
  refine lv_aload_n hx hb dX4_isCheaper_9 rfl (lv_at hl 1 rfl) ?_
  refine q_get (v := .ref a_party) fx inX4 h 0 rfl rfl 0 (by decide) k_174 rfl dX4_isCheaper_10 ?_
  refine lv_iload_n hx hb dX4_isCheaper_13 rfl (lv_at hl 3 rfl) ?_
  obtain ⟨r2, k2, hg, hf⟩ := bR_inv hf
  refine q_ci (rest := []) (ws' := (wX4_isCheaper cI cJ cZ cS a_t a_party a_party_kinds a_party_costs a_party_terms a_party_known a_kept a_tape a_telephone a_sheets a_findings v_isKept v_party_size v_party_list v_party_told v_party_costs)) (w1 := (wX0_costsOf cI cJ cZ cS a_party a_party_kinds a_party_costs a_party_terms a_party_known v_party_size v_party_list v_party_told v_party_costs)) fx h [1, 2] rfl rfl rfl rfl (q_runV fx h hl.1 [1, 2] rfl rfl (tX0_costsOf l D cI cJ cZ cS tb a_party a_party_kinds a_party_costs a_party_terms a_party_known H.size v_party_size v_party_list v_party_told v_party_costs x2 r2 k2 hg) mvX0_costsOf k_363 ⟨rfl, rfl⟩ ⟨Nat.le_of_ble_eq_true rfl, Nat.le_of_ble_eq_true rfl⟩ rfl rfl rfl rfl (Nat.le_of_ble_eq_true rfl) dX4_isCheaper_14 ⟨Nat.le_of_ble_eq_true rfl, Nat.le_of_ble_eq_true rfl⟩) (fun H locs h => ?_)
  refine lv_istore (lv' := [(4, .int r2), (3, .int r1), (0, .ref a_t), (1, .int x1), (2, .int x2)]) hx hb dX4_isCheaper_17 hl (by decide) rfl (fun ls hl => ?_)
  refine lv_iload_n hx hb dX4_isCheaper_19 rfl (lv_at hl 1 rfl) ?_
  refine lv_iload hx hb dX4_isCheaper_20 (lv_at hl 0 rfl) ?_
  refine lv_icmp_lt (tgt := 42) hx hb dX4_isCheaper_22 (by decide) (fun c3 => ?_) (fun c3 => ?_)
  · have hf := it_t c3 hf
    refine lv_iconst (v := 1) hx hb dX4_isCheaper_42 (by decide) ?_
    refine lv_goto (tgt := 47) hx hb dX4_isCheaper_43 (by decide) ?_
    exact q_retz (fun k : Unit => (wX4_isCheaper cI cJ cZ cS a_t a_party a_party_kinds a_party_costs a_party_terms a_party_known a_kept a_tape a_telephone a_sheets a_findings v_isKept v_party_size v_party_list v_party_told v_party_costs)) fx rfl hf h dX4_isCheaper_47
  have hf := it_f c3 hf
  refine lv_iload_n hx hb dX4_isCheaper_25 rfl (lv_at hl 1 rfl) ?_
  refine lv_iload hx hb dX4_isCheaper_26 (lv_at hl 0 rfl) ?_
  refine lv_icmp_ne (tgt := 46) hx hb dX4_isCheaper_28 (by decide) (fun c4 => ?_) (fun c4 => ?_)
  · have hf := it_f c4 hf
    refine lv_iconst (v := 0) hx hb dX4_isCheaper_46 (by decide) ?_
    exact q_retz (fun k : Unit => (wX4_isCheaper cI cJ cZ cS a_t a_party a_party_kinds a_party_costs a_party_terms a_party_known a_kept a_tape a_telephone a_sheets a_findings v_isKept v_party_size v_party_list v_party_told v_party_costs)) fx rfl hf h dX4_isCheaper_47
  have hf := it_t c4 hf
  refine lv_iload_n hx hb dX4_isCheaper_31 rfl (lv_at hl 3 rfl) ?_
  obtain ⟨r5, k5, hg, hf⟩ := bR_inv hf
  refine q_ci (rest := []) (ws' := (wX4_isCheaper cI cJ cZ cS a_t a_party a_party_kinds a_party_costs a_party_terms a_party_known a_kept a_tape a_telephone a_sheets a_findings v_isKept v_party_size v_party_list v_party_told v_party_costs)) (w1 := (wJ6_bitCount_0f7a4 cI cJ cZ cS)) fx h [] rfl rfl rfl rfl (q_runS fx h hl.1 [] rfl rfl (tJ6_bitCount_0f7a4 l D cI cJ cZ cS tb H.size x1 r5 k5 hg) msJ6_bitCount_0f7a4 k_239 ⟨rfl, rfl⟩ ⟨Nat.le_of_ble_eq_true rfl, Nat.le_of_ble_eq_true rfl⟩ rfl rfl (Nat.le_of_ble_eq_true rfl) dX4_isCheaper_32 ⟨Nat.le_of_ble_eq_true rfl, Nat.le_of_ble_eq_true rfl⟩) (fun H locs h => ?_)
  refine lv_iload_n hx hb dX4_isCheaper_35 rfl (lv_at hl 4 rfl) ?_
  obtain ⟨r6, k6, hg, hf⟩ := bR_inv hf
  refine q_ci (rest := [.int r5]) (ws' := (wX4_isCheaper cI cJ cZ cS a_t a_party a_party_kinds a_party_costs a_party_terms a_party_known a_kept a_tape a_telephone a_sheets a_findings v_isKept v_party_size v_party_list v_party_told v_party_costs)) (w1 := (wJ6_bitCount_0f7a4 cI cJ cZ cS)) fx h [] rfl rfl rfl rfl (q_runS fx h hl.1 [] rfl rfl (tJ6_bitCount_0f7a4 l D cI cJ cZ cS tb H.size x2 r6 k6 hg) msJ6_bitCount_0f7a4 k_239 ⟨rfl, rfl⟩ ⟨Nat.le_of_ble_eq_true rfl, Nat.le_of_ble_eq_true rfl⟩ rfl rfl (Nat.le_of_ble_eq_true rfl) dX4_isCheaper_36 ⟨Nat.le_of_ble_eq_true rfl, Nat.le_of_ble_eq_true rfl⟩) (fun H locs h => ?_)
  refine lv_icmp_ge (tgt := 46) hx hb dX4_isCheaper_39 (by decide) (fun c7 => ?_) (fun c7 => ?_)
  · have hf := it_t c7 hf
    refine lv_iconst (v := 0) hx hb dX4_isCheaper_46 (by decide) ?_
    exact q_retz (fun k : Unit => (wX4_isCheaper cI cJ cZ cS a_t a_party a_party_kinds a_party_costs a_party_terms a_party_known a_kept a_tape a_telephone a_sheets a_findings v_isKept v_party_size v_party_list v_party_told v_party_costs)) fx rfl hf h dX4_isCheaper_47
  have hf := it_f c7 hf
  refine lv_iconst (v := 1) hx hb dX4_isCheaper_42 (by decide) ?_
  refine lv_goto (tgt := 47) hx hb dX4_isCheaper_43 (by decide) ?_
  exact q_retz (fun k : Unit => (wX4_isCheaper cI cJ cZ cS a_t a_party a_party_kinds a_party_costs a_party_terms a_party_known a_kept a_tape a_telephone a_sheets a_findings v_isKept v_party_size v_party_list v_party_told v_party_costs)) fx rfl hf h dX4_isCheaper_47
end
