/-! J7_fill_d0a16 -/
abbrev wJ7_fill_d0a16 (cI cJ cZ cS : ClassId) (n_p0 : Nat) (a_p0 : Nat) (v_p0 : Nat → Int64) : va_W := [(a_p0, .inl (cJ, n_p0, .inr (.inl v_p0)))]
abbrev rJ7_fill_d0a16 : Room := { frames := 0, cells := 0, slots := 0, locals := 0 }
def fJ7_fill_d0a16_6 (n_p0 : Nat) (ag6 : (Nat → Int64) → Int64 → Int32 → Int32 → Option ((Nat → Int64))) (v_p0 : Nat → Int64) (y1 : Int64) (y3 : Int32) (y4 : Int32) : Option ((Nat → Int64)) :=
  (if y4 ≤ y3 then (
  some v_p0)
  else (
  gIn y3 n_p0 (
  nm (y3 + 1) (fun u3 =>
  ag6 (vp_updL v_p0 y3.toNatClampNeg y1) y1 u3 y4))))
set_option maxRecDepth 100000 in
set_option maxHeartbeats 4000000 in
theorem LJ7_fill_d0a16_6 {p : Program} {l : Launch} {e : Env} {s : State} {m : MethodId} {args : Array Value} {below : List Frame} {meth : Method} {c : Code} {D : va_G} {cI cJ cZ cS : ClassId} {tb : Nat} {A : Nat → Prop} {n_p0 : Nat} {a_p0 : Nat} {kk' : (Nat → Int64)} (fx : q_Fx p s m args meth c cJ7_fill_d0a16 5 RJ7 none D cI cJ cZ cS tb A) {ag6 : (Nat → Int64) → Int64 → Int32 → Int32 → Option ((Nat → Int64))} (hag6 : ∀ {v_p0 : Nat → Int64} {y1 : Int64} {y3 : Int32} {y4 : Int32} {H : Heap} {locs : List Loc} {ls : Array Slot}, q_H D A s (wJ7_fill_d0a16 cI cJ cZ cS n_p0 a_p0 v_p0) H locs → lv_has ls 5 [(0, .ref a_p0), (1, .long y1), (3, .int y3), (4, .int y4)] → ag6 v_p0 y1 y3 y4 = some kk' → W p l e rJ7_fill_d0a16 s m args below meth c H locs 0 0 (MQ below (q_Rv D A ((fun k : (Nat → Int64) => (wJ7_fill_d0a16 cI cJ cZ cS n_p0 a_p0 k)) kk')) args s 0 0 A) (F0 m 6 ls [])) : ∀ {v_p0 : Nat → Int64} {y1 : Int64} {y3 : Int32} {y4 : Int32} {H : Heap} {locs : List Loc} {ls : Array Slot}, q_H D A s (wJ7_fill_d0a16 cI cJ cZ cS n_p0 a_p0 v_p0) H locs → lv_has ls 5 [(0, .ref a_p0), (1, .long y1), (3, .int y3), (4, .int y4)] → fJ7_fill_d0a16_6 n_p0 ag6 v_p0 y1 y3 y4 = some kk' → W p l e rJ7_fill_d0a16 s m args below meth c H locs 0 0 (MQ below (q_Rv D A ((fun k : (Nat → Int64) => (wJ7_fill_d0a16 cI cJ cZ cS n_p0 a_p0 k)) kk')) args s 0 0 A) (F0 m 6 ls []) := by
  intro v_p0 y1 y3 y4 H locs ls h hl hf
  have hx := fx.1
  have hb := fx.2.1
  unfold fJ7_fill_d0a16_6 at hf
  refine lv_iload_n hx hb dJ7_fill_d0a16_6 rfl (lv_at hl 2 rfl) ?_
  refine lv_iload hx hb dJ7_fill_d0a16_7 (lv_at hl 3 rfl) ?_
  refine lv_icmp_ge (tgt := 22) hx hb dJ7_fill_d0a16_9 (by decide) (fun c1 => ?_) (fun c1 => ?_)
  · have hf := it_t c1 hf
    exact q_retv (fun k : (Nat → Int64) => (wJ7_fill_d0a16 cI cJ cZ cS n_p0 a_p0 k)) fx hf h dJ7_fill_d0a16_22
  have hf := it_f c1 hf
  refine lv_aload_n hx hb dJ7_fill_d0a16_12 rfl (lv_at hl 0 rfl) ?_
  refine lv_iload_n hx hb dJ7_fill_d0a16_13 rfl (lv_at hl 2 rfl) ?_
  refine lv_lload_n hx hb dJ7_fill_d0a16_14 rfl (lv_at hl 1 rfl) ?_
  obtain ⟨i2, hf⟩ := gIn_inv hf
  refine q_last (ws' := (wJ7_fill_d0a16 cI cJ cZ cS n_p0 a_p0 (vp_updL v_p0 y3.toNatClampNeg y1))) fx h 0 rfl i2 rfl dJ7_fill_d0a16_15 (fun H locs h => ?_)
  obtain ⟨u3, eu3, hf⟩ := nm_inv hf
  refine lv_iinc (v := u3) (lv' := [(3, .int u3), (0, .ref a_p0), (1, .long y1), (4, .int y4)]) hx hb dJ7_fill_d0a16_16 hl (k := 2) rfl (by rw [eu3]; rfl) (by decide) rfl (fun ls hl => ?_)
  refine lv_goto (tgt := 6) hx hb dJ7_fill_d0a16_19 (by decide) ?_
  exact hag6 h (lv_sub hl [1, 2, 0, 3] rfl) hf
set_option maxRecDepth 100000 in
theorem EJ7_fill_d0a16_6 {p : Program} {l : Launch} {e : Env} {s : State} {m : MethodId} {args : Array Value} {below : List Frame} {meth : Method} {c : Code} {D : va_G} {cI cJ cZ cS : ClassId} {tb : Nat} {A : Nat → Prop} {n_p0 : Nat} {a_p0 : Nat} {kk' : (Nat → Int64)} (fx : q_Fx p s m args meth c cJ7_fill_d0a16 5 RJ7 none D cI cJ cZ cS tb A) : ∀ (n : Nat), ∀ {v_p0 : Nat → Int64} {y1 : Int64} {y3 : Int32} {y4 : Int32} {H : Heap} {locs : List Loc} {ls : Array Slot}, q_H D A s (wJ7_fill_d0a16 cI cJ cZ cS n_p0 a_p0 v_p0) H locs → lv_has ls 5 [(0, .ref a_p0), (1, .long y1), (3, .int y3), (4, .int y4)] → ll4 (fJ7_fill_d0a16_6 n_p0) n v_p0 y1 y3 y4 = some kk' → W p l e rJ7_fill_d0a16 s m args below meth c H locs 0 0 (MQ below (q_Rv D A ((fun k : (Nat → Int64) => (wJ7_fill_d0a16 cI cJ cZ cS n_p0 a_p0 k)) kk')) args s 0 0 A) (F0 m 6 ls []) := by
  intro n
  induction n with
  | zero => intro v_p0 y1 y3 y4 H locs ls h hl hf; exact (ll4_z hf).elim
  | succ n ih => intro v_p0 y1 y3 y4 H locs ls h hl hf; exact LJ7_fill_d0a16_6 fx ih h hl (ll4_s hf)
def fJ7_fill_d0a16 (n_p0 : Nat) (v_p0 : Nat → Int64) (x1 : Int64) : Option ((Nat → Int64)) :=
  nm (Int32.ofNat n_p0) (fun u4 =>
  ll4 (fJ7_fill_d0a16_6 n_p0) qF v_p0 x1 0 u4)
set_option maxRecDepth 100000 in
set_option maxHeartbeats 4000000 in
theorem tJ7_fill_d0a16 (l : Launch) (D : va_G) (cI cJ cZ cS : ClassId) (tb : Nat) (n_p0 : Nat) (a_p0 : Nat) (sz : Nat) (v_p0 : Nat → Int64) (x1 : Int64) (kk' : (Nat → Int64)) (hf : fJ7_fill_d0a16 n_p0 v_p0 x1 = some kk') : Met l yJ7_fill_d0a16 (Cond.code yJ7_fill_d0a16 cJ7_fill_d0a16 5 none :: wA) rJ7_fill_d0a16 (q_Pre D cI cJ cZ cS tb [.ref a_p0, .long x1] sz (wJ7_fill_d0a16 cI cJ cZ cS n_p0 a_p0 v_p0)) (q_Rv D (va_A (wJ7_fill_d0a16 cI cJ cZ cS n_p0 a_p0 v_p0) sz) ((fun k : (Nat → Int64) => (wJ7_fill_d0a16 cI cJ cZ cS n_p0 a_p0 k)) kk')) 0 0 (va_A (wJ7_fill_d0a16 cI cJ cZ cS n_p0 a_p0 v_p0) sz) := by
  refine q_enter (Qf := fun A => (q_Rv D A ((fun k : (Nat → Int64) => (wJ7_fill_d0a16 cI cJ cZ cS n_p0 a_p0 k)) kk'))) (by decide) rfl (Nat.le_of_ble_eq_true rfl) ?_
  intro p e s m below meth c A ls fx hname h hl
  have hx := fx.1
  have hb := fx.2.1
  have hl : lv_has ls 5 [(0, .ref a_p0), (1, .long x1)] := hl
  generalize h9 : s.heap = H at h ⊢
  clear h9
  generalize h9 : ([] : List Loc) = locs at h ⊢
  clear h9
  unfold fJ7_fill_d0a16 at hf
  refine lv_iconst (v := 0) hx hb dJ7_fill_d0a16_0 (by decide) ?_
  refine lv_istore_n (lv' := [(3, .int 0), (0, .ref a_p0), (1, .long x1)]) hx hb dJ7_fill_d0a16_1 rfl hl (by decide) rfl (fun ls hl => ?_)
  refine lv_aload_n hx hb dJ7_fill_d0a16_2 rfl (lv_at hl 1 rfl) ?_
  refine q_alenL fx h 0 rfl dJ7_fill_d0a16_3 ?_
  obtain ⟨u4, eu4, hf⟩ := nm_inv hf
  refine lv_eqi eu4 ?_
  refine lv_istore (lv' := [(4, .int u4), (3, .int 0), (0, .ref a_p0), (1, .long x1)]) hx hb dJ7_fill_d0a16_4 hl (by decide) rfl (fun ls hl => ?_)
  exact EJ7_fill_d0a16_6 fx qF h (lv_sub hl [2, 3, 1, 0] rfl) hf
/-! J7_fill_53178 -/
abbrev wJ7_fill_53178 (cI cJ cZ cS : ClassId) (n_p0 : Nat) (a_p0 : Nat) (v_p0 : Nat → Int32) : va_W := [(a_p0, .inl (cI, n_p0, .inl v_p0))]
abbrev rJ7_fill_53178 : Room := { frames := 0, cells := 0, slots := 0, locals := 0 }
def fJ7_fill_53178_5 (n_p0 : Nat) (ag5 : (Nat → Int32) → Int32 → Int32 → Int32 → Option ((Nat → Int32))) (v_p0 : Nat → Int32) (y1 : Int32) (y2 : Int32) (y3 : Int32) : Option ((Nat → Int32)) :=
  (if y3 ≤ y2 then (
  some v_p0)
  else (
  gIn y2 n_p0 (
  nm (y2 + 1) (fun u3 =>
  ag5 (upd v_p0 y2.toNatClampNeg y1) y1 u3 y3))))
set_option maxRecDepth 100000 in
set_option maxHeartbeats 4000000 in
theorem LJ7_fill_53178_5 {p : Program} {l : Launch} {e : Env} {s : State} {m : MethodId} {args : Array Value} {below : List Frame} {meth : Method} {c : Code} {D : va_G} {cI cJ cZ cS : ClassId} {tb : Nat} {A : Nat → Prop} {n_p0 : Nat} {a_p0 : Nat} {kk' : (Nat → Int32)} (fx : q_Fx p s m args meth c cJ7_fill_53178 4 RJ7 none D cI cJ cZ cS tb A) {ag5 : (Nat → Int32) → Int32 → Int32 → Int32 → Option ((Nat → Int32))} (hag5 : ∀ {v_p0 : Nat → Int32} {y1 : Int32} {y2 : Int32} {y3 : Int32} {H : Heap} {locs : List Loc} {ls : Array Slot}, q_H D A s (wJ7_fill_53178 cI cJ cZ cS n_p0 a_p0 v_p0) H locs → lv_has ls 4 [(0, .ref a_p0), (1, .int y1), (2, .int y2), (3, .int y3)] → ag5 v_p0 y1 y2 y3 = some kk' → W p l e rJ7_fill_53178 s m args below meth c H locs 0 0 (MQ below (q_Rv D A ((fun k : (Nat → Int32) => (wJ7_fill_53178 cI cJ cZ cS n_p0 a_p0 k)) kk')) args s 0 0 A) (F0 m 5 ls [])) : ∀ {v_p0 : Nat → Int32} {y1 : Int32} {y2 : Int32} {y3 : Int32} {H : Heap} {locs : List Loc} {ls : Array Slot}, q_H D A s (wJ7_fill_53178 cI cJ cZ cS n_p0 a_p0 v_p0) H locs → lv_has ls 4 [(0, .ref a_p0), (1, .int y1), (2, .int y2), (3, .int y3)] → fJ7_fill_53178_5 n_p0 ag5 v_p0 y1 y2 y3 = some kk' → W p l e rJ7_fill_53178 s m args below meth c H locs 0 0 (MQ below (q_Rv D A ((fun k : (Nat → Int32) => (wJ7_fill_53178 cI cJ cZ cS n_p0 a_p0 k)) kk')) args s 0 0 A) (F0 m 5 ls []) := by
  intro v_p0 y1 y2 y3 H locs ls h hl hf
  have hx := fx.1
  have hb := fx.2.1
  unfold fJ7_fill_53178_5 at hf
  refine lv_iload_n hx hb dJ7_fill_53178_5 rfl (lv_at hl 2 rfl) ?_
  refine lv_iload_n hx hb dJ7_fill_53178_6 rfl (lv_at hl 3 rfl) ?_
  refine lv_icmp_ge (tgt := 20) hx hb dJ7_fill_53178_7 (by decide) (fun c1 => ?_) (fun c1 => ?_)
  · have hf := it_t c1 hf
    exact q_retv (fun k : (Nat → Int32) => (wJ7_fill_53178 cI cJ cZ cS n_p0 a_p0 k)) fx hf h dJ7_fill_53178_20
  have hf := it_f c1 hf
  refine lv_aload_n hx hb dJ7_fill_53178_10 rfl (lv_at hl 0 rfl) ?_
  refine lv_iload_n hx hb dJ7_fill_53178_11 rfl (lv_at hl 2 rfl) ?_
  refine lv_iload_n hx hb dJ7_fill_53178_12 rfl (lv_at hl 1 rfl) ?_
  obtain ⟨i2, hf⟩ := gIn_inv hf
  refine q_iast (ws' := (wJ7_fill_53178 cI cJ cZ cS n_p0 a_p0 (upd v_p0 y2.toNatClampNeg y1))) fx h 0 rfl i2 rfl dJ7_fill_53178_13 (fun H locs h => ?_)
  obtain ⟨u3, eu3, hf⟩ := nm_inv hf
  refine lv_iinc (v := u3) (lv' := [(2, .int u3), (0, .ref a_p0), (1, .int y1), (3, .int y3)]) hx hb dJ7_fill_53178_14 hl (k := 2) rfl (by rw [eu3]; rfl) (by decide) rfl (fun ls hl => ?_)
  refine lv_goto (tgt := 5) hx hb dJ7_fill_53178_17 (by decide) ?_
  exact hag5 h (lv_sub hl [1, 2, 0, 3] rfl) hf
set_option maxRecDepth 100000 in
theorem EJ7_fill_53178_5 {p : Program} {l : Launch} {e : Env} {s : State} {m : MethodId} {args : Array Value} {below : List Frame} {meth : Method} {c : Code} {D : va_G} {cI cJ cZ cS : ClassId} {tb : Nat} {A : Nat → Prop} {n_p0 : Nat} {a_p0 : Nat} {kk' : (Nat → Int32)} (fx : q_Fx p s m args meth c cJ7_fill_53178 4 RJ7 none D cI cJ cZ cS tb A) : ∀ (n : Nat), ∀ {v_p0 : Nat → Int32} {y1 : Int32} {y2 : Int32} {y3 : Int32} {H : Heap} {locs : List Loc} {ls : Array Slot}, q_H D A s (wJ7_fill_53178 cI cJ cZ cS n_p0 a_p0 v_p0) H locs → lv_has ls 4 [(0, .ref a_p0), (1, .int y1), (2, .int y2), (3, .int y3)] → ll4 (fJ7_fill_53178_5 n_p0) n v_p0 y1 y2 y3 = some kk' → W p l e rJ7_fill_53178 s m args below meth c H locs 0 0 (MQ below (q_Rv D A ((fun k : (Nat → Int32) => (wJ7_fill_53178 cI cJ cZ cS n_p0 a_p0 k)) kk')) args s 0 0 A) (F0 m 5 ls []) := by
  intro n
  induction n with
  | zero => intro v_p0 y1 y2 y3 H locs ls h hl hf; exact (ll4_z hf).elim
  | succ n ih => intro v_p0 y1 y2 y3 H locs ls h hl hf; exact LJ7_fill_53178_5 fx ih h hl (ll4_s hf)
def fJ7_fill_53178 (n_p0 : Nat) (v_p0 : Nat → Int32) (x1 : Int32) : Option ((Nat → Int32)) :=
  nm (Int32.ofNat n_p0) (fun u4 =>
  ll4 (fJ7_fill_53178_5 n_p0) qF v_p0 x1 0 u4)
set_option maxRecDepth 100000 in
set_option maxHeartbeats 4000000 in
theorem tJ7_fill_53178 (l : Launch) (D : va_G) (cI cJ cZ cS : ClassId) (tb : Nat) (n_p0 : Nat) (a_p0 : Nat) (sz : Nat) (v_p0 : Nat → Int32) (x1 : Int32) (kk' : (Nat → Int32)) (hf : fJ7_fill_53178 n_p0 v_p0 x1 = some kk') : Met l yJ7_fill_53178 (Cond.code yJ7_fill_53178 cJ7_fill_53178 4 none :: wA) rJ7_fill_53178 (q_Pre D cI cJ cZ cS tb [.ref a_p0, .int x1] sz (wJ7_fill_53178 cI cJ cZ cS n_p0 a_p0 v_p0)) (q_Rv D (va_A (wJ7_fill_53178 cI cJ cZ cS n_p0 a_p0 v_p0) sz) ((fun k : (Nat → Int32) => (wJ7_fill_53178 cI cJ cZ cS n_p0 a_p0 k)) kk')) 0 0 (va_A (wJ7_fill_53178 cI cJ cZ cS n_p0 a_p0 v_p0) sz) := by
  refine q_enter (Qf := fun A => (q_Rv D A ((fun k : (Nat → Int32) => (wJ7_fill_53178 cI cJ cZ cS n_p0 a_p0 k)) kk'))) (by decide) rfl (Nat.le_of_ble_eq_true rfl) ?_
  intro p e s m below meth c A ls fx hname h hl
  have hx := fx.1
  have hb := fx.2.1
  have hl : lv_has ls 4 [(0, .ref a_p0), (1, .int x1)] := hl
  generalize h9 : s.heap = H at h ⊢
  clear h9
  generalize h9 : ([] : List Loc) = locs at h ⊢
  clear h9
  unfold fJ7_fill_53178 at hf
  refine lv_iconst (v := 0) hx hb dJ7_fill_53178_0 (by decide) ?_
  refine lv_istore_n (lv' := [(2, .int 0), (0, .ref a_p0), (1, .int x1)]) hx hb dJ7_fill_53178_1 rfl hl (by decide) rfl (fun ls hl => ?_)
  refine lv_aload_n hx hb dJ7_fill_53178_2 rfl (lv_at hl 1 rfl) ?_
  refine q_alenI fx h 0 rfl dJ7_fill_53178_3 ?_
  obtain ⟨u4, eu4, hf⟩ := nm_inv hf
  refine lv_eqi eu4 ?_
  refine lv_istore_n (lv' := [(3, .int u4), (2, .int 0), (0, .ref a_p0), (1, .int x1)]) hx hb dJ7_fill_53178_4 rfl hl (by decide) rfl (fun ls hl => ?_)
  exact EJ7_fill_53178_5 fx qF h (lv_sub hl [2, 3, 1, 0] rfl) hf
/-! X4_isKind -/
abbrev wX4_isKind (cI cJ cZ cS : ClassId) : va_W := []
abbrev rX4_isKind : Room := { frames := 0, cells := 0, slots := 0, locals := 0 }
def fX4_isKind (x0 : Int32) : Option (Int32 × Unit) :=
  (if x0 < 0 then (
  some (0, ()))
  else (
  (if (6 : Int32) ≤ x0 then (
  some (0, ()))
  else (
  some (1, ())))))
set_option maxRecDepth 100000 in
set_option maxHeartbeats 4000000 in
theorem tX4_isKind (l : Launch) (D : va_G) (cI cJ cZ cS : ClassId) (tb : Nat) (sz : Nat) (x0 : Int32) (rr : Int32) (kk' : Unit) (hf : fX4_isKind x0 = some (rr, kk')) : Met l yX4_isKind (Cond.code yX4_isKind cX4_isKind 1 (some .boolean) :: wA) rX4_isKind (q_Pre D cI cJ cZ cS tb [.int x0] sz (wX4_isKind cI cJ cZ cS)) (q_Ri D rr (va_A (wX4_isKind cI cJ cZ cS) sz) ((fun k : Unit => (wX4_isKind cI cJ cZ cS)) kk')) 0 0 (va_A (wX4_isKind cI cJ cZ cS) sz) := by
  refine q_enter (Qf := fun A => (q_Ri D rr A ((fun k : Unit => (wX4_isKind cI cJ cZ cS)) kk'))) (by decide) rfl (Nat.le_of_ble_eq_true rfl) ?_
  intro p e s m below meth c A ls fx hname h hl
  have hx := fx.1
  have hb := fx.2.1
  have hl : lv_has ls 1 [(0, .int x0)] := hl
  generalize h9 : s.heap = H at h ⊢
  clear h9
  generalize h9 : ([] : List Loc) = locs at h ⊢
  clear h9
  unfold fX4_isKind at hf
  refine lv_iload_n hx hb dX4_isKind_0 rfl (lv_at hl 0 rfl) ?_
  refine lv_if_lt (tgt := 14) hx hb dX4_isKind_1 (by decide) (fun c1 => ?_) (fun c1 => ?_)
  · have hf := it_t c1 hf
    refine lv_iconst (v := 0) hx hb dX4_isKind_14 (by decide) ?_
    exact q_retz (fun k : Unit => (wX4_isKind cI cJ cZ cS)) fx rfl hf h dX4_isKind_15
  have hf := it_f c1 hf
  refine lv_iload_n hx hb dX4_isKind_4 rfl (lv_at hl 0 rfl) ?_
  refine lv_bipush (v := 6) hx hb dX4_isKind_5 (by decide) ?_
  refine lv_icmp_ge (tgt := 14) hx hb dX4_isKind_7 (by decide) (fun c2 => ?_) (fun c2 => ?_)
  · have hf := it_t c2 hf
    refine lv_iconst (v := 0) hx hb dX4_isKind_14 (by decide) ?_
    exact q_retz (fun k : Unit => (wX4_isKind cI cJ cZ cS)) fx rfl hf h dX4_isKind_15
  have hf := it_f c2 hf
  refine lv_iconst (v := 1) hx hb dX4_isKind_10 (by decide) ?_
  refine lv_goto (tgt := 15) hx hb dX4_isKind_11 (by decide) ?_
  exact q_retz (fun k : Unit => (wX4_isKind cI cJ cZ cS)) fx rfl hf h dX4_isKind_15
/-! X4_isCost -/
abbrev wX4_isCost (cI cJ cZ cS : ClassId) : va_W := []
abbrev rX4_isCost : Room := { frames := 0, cells := 0, slots := 0, locals := 0 }
def fX4_isCost (x0 : Int32) : Option (Int32 × Unit) :=
  (if x0 < 0 then (
  some (0, ()))
  else (
  (if (99 : Int32) < x0 then (
  some (0, ()))
  else (
  some (1, ())))))
set_option maxRecDepth 100000 in
set_option maxHeartbeats 4000000 in
theorem tX4_isCost (l : Launch) (D : va_G) (cI cJ cZ cS : ClassId) (tb : Nat) (sz : Nat) (x0 : Int32) (rr : Int32) (kk' : Unit) (hf : fX4_isCost x0 = some (rr, kk')) : Met l yX4_isCost (Cond.code yX4_isCost cX4_isCost 1 (some .boolean) :: wA) rX4_isCost (q_Pre D cI cJ cZ cS tb [.int x0] sz (wX4_isCost cI cJ cZ cS)) (q_Ri D rr (va_A (wX4_isCost cI cJ cZ cS) sz) ((fun k : Unit => (wX4_isCost cI cJ cZ cS)) kk')) 0 0 (va_A (wX4_isCost cI cJ cZ cS) sz) := by
  refine q_enter (Qf := fun A => (q_Ri D rr A ((fun k : Unit => (wX4_isCost cI cJ cZ cS)) kk'))) (by decide) rfl (Nat.le_of_ble_eq_true rfl) ?_
  intro p e s m below meth c A ls fx hname h hl
  have hx := fx.1
  have hb := fx.2.1
  have hl : lv_has ls 1 [(0, .int x0)] := hl
  generalize h9 : s.heap = H at h ⊢
  clear h9
  generalize h9 : ([] : List Loc) = locs at h ⊢
  clear h9
  unfold fX4_isCost at hf
  refine lv_iload_n hx hb dX4_isCost_0 rfl (lv_at hl 0 rfl) ?_
  refine lv_if_lt (tgt := 14) hx hb dX4_isCost_1 (by decide) (fun c1 => ?_) (fun c1 => ?_)
  · have hf := it_t c1 hf
    refine lv_iconst (v := 0) hx hb dX4_isCost_14 (by decide) ?_
    exact q_retz (fun k : Unit => (wX4_isCost cI cJ cZ cS)) fx rfl hf h dX4_isCost_15
  have hf := it_f c1 hf
  refine lv_iload_n hx hb dX4_isCost_4 rfl (lv_at hl 0 rfl) ?_
  refine lv_bipush (v := 99) hx hb dX4_isCost_5 (by decide) ?_
  refine lv_icmp_gt (tgt := 14) hx hb dX4_isCost_7 (by decide) (fun c2 => ?_) (fun c2 => ?_)
  · have hf := it_t c2 hf
    refine lv_iconst (v := 0) hx hb dX4_isCost_14 (by decide) ?_
    exact q_retz (fun k : Unit => (wX4_isCost cI cJ cZ cS)) fx rfl hf h dX4_isCost_15
  have hf := it_f c2 hf
  refine lv_iconst (v := 1) hx hb dX4_isCost_10 (by decide) ?_
  refine lv_goto (tgt := 15) hx hb dX4_isCost_11 (by decide) ?_
  exact q_retz (fun k : Unit => (wX4_isCost cI cJ cZ cS)) fx rfl hf h dX4_isCost_15
/-! X4_found -/
abbrev wX4_found (cI cJ cZ cS : ClassId) (a_t a_party a_kept a_tape a_telephone a_sheets a_findings : Nat) (v_isKept : Int32) (v_findings : Nat → Int32) : va_W := [(a_t, .inr (4, [.ref a_party, .ref a_kept, .int v_isKept, .ref a_tape, .ref a_telephone, .ref a_sheets, .ref a_findings])), (a_findings, .inl (cI, 7, .inl v_findings))]
abbrev rX4_found : Room := { frames := 0, cells := 0, slots := 0, locals := 0 }
def fX4_found (v_findings : Nat → Int32) (x1 : Int32) : Option (Int32 × (Nat → Int32)) :=
  nm ((-1000000001) - x1) (fun u1 =>
  (if u1 < 0 then (
  some (x1, v_findings))
  else (
  (if (7 : Int32) ≤ u1 then (
  some (x1, v_findings))
  else (
  gIn u1 7 (
  gIn u1 7 (
  some (x1, (upd v_findings u1.toNatClampNeg ((v_findings u1.toNatClampNeg) + 1))))))))))
set_option maxRecDepth 100000 in
set_option maxHeartbeats 4000000 in
theorem tX4_found (l : Launch) (D : va_G) (cI cJ cZ cS : ClassId) (tb : Nat) (a_t a_party a_kept a_tape a_telephone a_sheets a_findings : Nat) (sz : Nat) (v_isKept : Int32) (v_findings : Nat → Int32) (x1 : Int32) (rr : Int32) (kk' : (Nat → Int32)) (hf : fX4_found v_findings x1 = some (rr, kk')) : Met l yX4_found (Cond.code yX4_found cX4_found 3 (some .int) :: wA) rX4_found (q_Pre D cI cJ cZ cS tb [.ref a_t, .int x1] sz (wX4_found cI cJ cZ cS a_t a_party a_kept a_tape a_telephone a_sheets a_findings v_isKept v_findings)) (q_Ri D rr (va_A (wX4_found cI cJ cZ cS a_t a_party a_kept a_tape a_telephone a_sheets a_findings v_isKept v_findings) sz) ((fun k : (Nat → Int32) => (wX4_found cI cJ cZ cS a_t a_party a_kept a_tape a_telephone a_sheets a_findings v_isKept k)) kk')) 0 0 (va_A (wX4_found cI cJ cZ cS a_t a_party a_kept a_tape a_telephone a_sheets a_findings v_isKept v_findings) sz) := by
  refine q_enter (Qf := fun A => (q_Ri D rr A ((fun k : (Nat → Int32) => (wX4_found cI cJ cZ cS a_t a_party a_kept a_tape a_telephone a_sheets a_findings v_isKept k)) kk'))) (by decide) rfl (Nat.le_of_ble_eq_true rfl) ?_
  intro p e s m below meth c A ls fx hname h hl
  have hx := fx.1
  have hb := fx.2.1
  have hl : lv_has ls 3 [(0, .ref a_t), (1, .int x1)] := hl
  generalize h9 : s.heap = H at h ⊢
  clear h9
  generalize h9 : ([] : List Loc) = locs at h ⊢
  clear h9
  unfold fX4_found at hf
  refine q_ldc fx k_206 dX4_found_0 ?_
  refine lv_iload_n hx hb dX4_found_2 rfl (lv_at hl 1 rfl) ?_
  refine lv_isub hx hb dX4_found_3 ?_
  obtain ⟨u1, eu1, hf⟩ := nm_inv hf
  refine lv_eqi eu1 ?_
  refine lv_istore_n (lv' := [(2, .int u1), (0, .ref a_t), (1, .int x1)]) hx hb dX4_found_4 rfl hl (by decide) rfl (fun ls hl => ?_)
  refine lv_iload_n hx hb dX4_found_5 rfl (lv_at hl 0 rfl) ?_
  refine lv_if_lt (tgt := 25) hx hb dX4_found_6 (by decide) (fun c2 => ?_) (fun c2 => ?_)
  · have hf := it_t c2 hf
    refine lv_iload_n hx hb dX4_found_25 rfl (lv_at hl 2 rfl) ?_
    exact q_reti (fun k : (Nat → Int32) => (wX4_found cI cJ cZ cS a_t a_party a_kept a_tape a_telephone a_sheets a_findings v_isKept k)) fx hf h dX4_found_26
  have hf := it_f c2 hf
  refine lv_iload_n hx hb dX4_found_9 rfl (lv_at hl 0 rfl) ?_
  refine lv_bipush (v := 7) hx hb dX4_found_10 (by decide) ?_
  refine lv_icmp_ge (tgt := 25) hx hb dX4_found_12 (by decide) (fun c3 => ?_) (fun c3 => ?_)
  · have hf := it_t c3 hf
    refine lv_iload_n hx hb dX4_found_25 rfl (lv_at hl 2 rfl) ?_
    exact q_reti (fun k : (Nat → Int32) => (wX4_found cI cJ cZ cS a_t a_party a_kept a_tape a_telephone a_sheets a_findings v_isKept k)) fx hf h dX4_found_26
  have hf := it_f c3 hf
  refine lv_aload_n hx hb dX4_found_15 rfl (lv_at hl 1 rfl) ?_
  refine q_get (v := .ref a_findings) fx inX4 h 0 rfl rfl 6 (by decide) k_180 rfl dX4_found_16 ?_
  refine lv_iload_n hx hb dX4_found_19 rfl (lv_at hl 0 rfl) ?_
  refine lv_dup2_11 hx hb dX4_found_20 rfl rfl ?_
  obtain ⟨i4, hf⟩ := gIn_inv hf
  refine q_iald fx h 1 rfl i4 dX4_found_21 ?_
  refine lv_iconst (v := 1) hx hb dX4_found_22 (by decide) ?_
  refine lv_iadd hx hb dX4_found_23 ?_
  obtain ⟨i5, hf⟩ := gIn_inv hf
  refine q_iast (ws' := (wX4_found cI cJ cZ cS a_t a_party a_kept a_tape a_telephone a_sheets a_findings v_isKept (upd v_findings u1.toNatClampNeg ((v_findings u1.toNatClampNeg) + 1)))) fx h 1 rfl i5 rfl dX4_found_24 (fun H locs h => ?_)
  refine lv_iload_n hx hb dX4_found_25 rfl (lv_at hl 2 rfl) ?_
  exact q_reti (fun k : (Nat → Int32) => (wX4_found cI cJ cZ cS a_t a_party a_kept a_tape a_telephone a_sheets a_findings v_isKept k)) fx hf h dX4_found_26
/-! X0_welcome -/
abbrev wX0_welcome (cI cJ cZ cS : ClassId) (a_t a_kinds a_costs a_terms a_known : Nat) (v_size : Int32) (v_list : Int32) (v_told : Int32) (v_kinds : Nat → Int32) (v_costs : Nat → Int32) (v_known : Nat → Int32) : va_W := [(a_t, .inr (0, [.int v_size, .int v_list, .int v_told, .ref a_kinds, .ref a_costs, .ref a_terms, .ref a_known])), (a_kinds, .inl (cI, 8, .inl v_kinds)), (a_costs, .inl (cI, 8, .inl v_costs)), (a_known, .inl (cI, 256, .inl v_known))]
abbrev rX0_welcome : Room := { frames := 1, cells := 0, slots := 0, locals := 23 }
def fX0_welcome (v_size : Int32) (v_kinds : Nat → Int32) (v_costs : Nat → Int32) (v_known : Nat → Int32) (x1 : Int32) (x2 : Int32) : Option (Int32 × Int32 × (Nat → Int32) × (Nat → Int32) × (Nat → Int32)) :=
  gIn v_size 8 (
  gIn v_size 8 (
  nm (v_size + 1) (fun u3 =>
  bV (fJ7_fill_53178 256 v_known (-1)) (fun k4 =>
  some (v_size, (u3, (upd v_kinds v_size.toNatClampNeg x1), (upd v_costs v_size.toNatClampNeg x2), k4))))))
set_option maxRecDepth 100000 in
set_option maxHeartbeats 4000000 in
theorem tX0_welcome (l : Launch) (D : va_G) (cI cJ cZ cS : ClassId) (tb : Nat) (a_t a_kinds a_costs a_terms a_known : Nat) (sz : Nat) (v_size : Int32) (v_list : Int32) (v_told : Int32) (v_kinds : Nat → Int32) (v_costs : Nat → Int32) (v_known : Nat → Int32) (x1 : Int32) (x2 : Int32) (rr : Int32) (kk' : Int32 × (Nat → Int32) × (Nat → Int32) × (Nat → Int32)) (hf : fX0_welcome v_size v_kinds v_costs v_known x1 x2 = some (rr, kk')) : Met l yX0_welcome (Cond.code yX0_welcome cX0_welcome 4 (some .int) :: wA) rX0_welcome (q_Pre D cI cJ cZ cS tb [.ref a_t, .int x1, .int x2] sz (wX0_welcome cI cJ cZ cS a_t a_kinds a_costs a_terms a_known v_size v_list v_told v_kinds v_costs v_known)) (q_Ri D rr (va_A (wX0_welcome cI cJ cZ cS a_t a_kinds a_costs a_terms a_known v_size v_list v_told v_kinds v_costs v_known) sz) ((fun k : Int32 × (Nat → Int32) × (Nat → Int32) × (Nat → Int32) => (wX0_welcome cI cJ cZ cS a_t a_kinds a_costs a_terms a_known k.1 v_list v_told k.2.1 k.2.2.1 k.2.2.2)) kk')) 0 0 (va_A (wX0_welcome cI cJ cZ cS a_t a_kinds a_costs a_terms a_known v_size v_list v_told v_kinds v_costs v_known) sz) := by
  refine q_enter (Qf := fun A => (q_Ri D rr A ((fun k : Int32 × (Nat → Int32) × (Nat → Int32) × (Nat → Int32) => (wX0_welcome cI cJ cZ cS a_t a_kinds a_costs a_terms a_known k.1 v_list v_told k.2.1 k.2.2.1 k.2.2.2)) kk'))) (by decide) rfl (Nat.le_of_ble_eq_true rfl) ?_
  intro p e s m below meth c A ls fx hname h hl
  have hx := fx.1
  have hb := fx.2.1
  have hl : lv_has ls 4 [(0, .ref a_t), (1, .int x1), (2, .int x2)] := hl
  generalize h9 : s.heap = H at h ⊢
  clear h9
  generalize h9 : ([] : List Loc) = locs at h ⊢
  clear h9
  unfold fX0_welcome at hf
  refine lv_aload_n hx hb dX0_welcome_0 rfl (lv_at hl 0 rfl) ?_
  refine q_get (v := .int v_size) fx inX0 h 0 rfl rfl 0 (by decide) k_80 rfl dX0_welcome_1 ?_
  refine lv_istore_n (lv' := [(3, .int v_size), (0, .ref a_t), (1, .int x1), (2, .int x2)]) hx hb dX0_welcome_4 rfl hl (by decide) rfl (fun ls hl => ?_)
  refine lv_aload_n hx hb dX0_welcome_5 rfl (lv_at hl 1 rfl) ?_
  refine q_get (v := .ref a_kinds) fx inX0 h 0 rfl rfl 3 (by decide) k_88 rfl dX0_welcome_6 ?_
  refine lv_iload_n hx hb dX0_welcome_9 rfl (lv_at hl 0 rfl) ?_
  refine lv_iload_n hx hb dX0_welcome_10 rfl (lv_at hl 2 rfl) ?_
  obtain ⟨i1, hf⟩ := gIn_inv hf
  refine q_iast (ws' := (wX0_welcome cI cJ cZ cS a_t a_kinds a_costs a_terms a_known v_size v_list v_told (upd v_kinds v_size.toNatClampNeg x1) v_costs v_known)) fx h 1 rfl i1 rfl dX0_welcome_11 (fun H locs h => ?_)
  refine lv_aload_n hx hb dX0_welcome_12 rfl (lv_at hl 1 rfl) ?_
  refine q_get (v := .ref a_costs) fx inX0 h 0 rfl rfl 4 (by decide) k_90 rfl dX0_welcome_13 ?_
  refine lv_iload_n hx hb dX0_welcome_16 rfl (lv_at hl 0 rfl) ?_
  refine lv_iload_n hx hb dX0_welcome_17 rfl (lv_at hl 3 rfl) ?_
  obtain ⟨i2, hf⟩ := gIn_inv hf
  refine q_iast (ws' := (wX0_welcome cI cJ cZ cS a_t a_kinds a_costs a_terms a_known v_size v_list v_told (upd v_kinds v_size.toNatClampNeg x1) (upd v_costs v_size.toNatClampNeg x2) v_known)) fx h 2 rfl i2 rfl dX0_welcome_18 (fun H locs h => ?_)
  refine lv_aload_n hx hb dX0_welcome_19 rfl (lv_at hl 1 rfl) ?_
  refine lv_dup hx hb dX0_welcome_20 rfl ?_
  refine q_get (v := .int v_size) fx inX0 h 0 rfl rfl 0 (by decide) k_80 rfl dX0_welcome_21 ?_
  refine lv_iconst (v := 1) hx hb dX0_welcome_24 (by decide) ?_
  refine lv_iadd hx hb dX0_welcome_25 ?_
  obtain ⟨u3, eu3, hf⟩ := nm_inv hf
  refine lv_eqi eu3 ?_
  refine q_put (v := .int u3) (ws' := (wX0_welcome cI cJ cZ cS a_t a_kinds a_costs a_terms a_known u3 v_list v_told (upd v_kinds v_size.toNatClampNeg x1) (upd v_costs v_size.toNatClampNeg x2) v_known)) fx inX0 tyX0 tyX0_ok nmX0 h 0 rfl rfl 0 (by decide) k_80 rfl rfl rfl (Nat.le_of_ble_eq_true rfl) rfl dX0_welcome_26 (fun H locs h => ?_)
  refine lv_aload_n hx hb dX0_welcome_29 rfl (lv_at hl 1 rfl) ?_
  refine q_get (v := .ref a_known) fx inX0 h 0 rfl rfl 6 (by decide) k_93 rfl dX0_welcome_30 ?_
  refine lv_iconst (v := -1) hx hb dX0_welcome_33 (by decide) ?_
  obtain ⟨k4, hg, hf⟩ := bV_inv hf
  refine q_cv (rest := []) (ws' := (wX0_welcome cI cJ cZ cS a_t a_kinds a_costs a_terms a_known u3 v_list v_told (upd v_kinds v_size.toNatClampNeg x1) (upd v_costs v_size.toNatClampNeg x2) k4)) (w1 := (wJ7_fill_53178 cI cJ cZ cS 256 a_known k4)) fx h [3] rfl rfl rfl rfl (q_runS fx h hl.1 [3] rfl rfl (tJ7_fill_53178 l D cI cJ cZ cS tb 256 a_known H.size v_known (-1) k4 hg) msJ7_fill_53178 k_77 ⟨rfl, rfl⟩ ⟨Nat.le_of_ble_eq_true rfl, Nat.le_of_ble_eq_true rfl⟩ rfl rfl (Nat.le_of_ble_eq_true rfl) dX0_welcome_34 ⟨Nat.le_of_ble_eq_true rfl, Nat.le_of_ble_eq_true rfl⟩) (fun H locs h => ?_)
  refine lv_iload_n hx hb dX0_welcome_37 rfl (lv_at hl 0 rfl) ?_
  exact q_reti (fun k : Int32 × (Nat → Int32) × (Nat → Int32) × (Nat → Int32) => (wX0_welcome cI cJ cZ cS a_t a_kinds a_costs a_terms a_known k.1 v_list v_told k.2.1 k.2.2.1 k.2.2.2)) fx hf h dX0_welcome_38
/-! X4_guest -/
abbrev wX4_guest (cI cJ cZ cS : ClassId) (a_t a_party a_party_kinds a_party_costs a_party_terms a_party_known a_kept a_tape a_telephone a_sheets a_findings : Nat) (v_isKept : Int32) (v_party_size : Int32) (v_party_list : Int32) (v_party_told : Int32) (v_party_kinds : Nat → Int32) (v_party_costs : Nat → Int32) (v_party_known : Nat → Int32) (v_findings : Nat → Int32) : va_W := [(a_t, .inr (4, [.ref a_party, .ref a_kept, .int v_isKept, .ref a_tape, .ref a_telephone, .ref a_sheets, .ref a_findings])), (a_party, .inr (0, [.int v_party_size, .int v_party_list, .int v_party_told, .ref a_party_kinds, .ref a_party_costs, .ref a_party_terms, .ref a_party_known])), (a_party_kinds, .inl (cI, 8, .inl v_party_kinds)), (a_party_costs, .inl (cI, 8, .inl v_party_costs)), (a_party_known, .inl (cI, 256, .inl v_party_known)), (a_findings, .inl (cI, 7, .inl v_findings))]
abbrev rX4_guest : Room := { frames := 2, cells := 0, slots := 0, locals := 46 }
def fX4_guest_14 (v_party_size : Int32) (v_party_kinds : Nat → Int32) (v_party_costs : Nat → Int32) (v_party_known : Nat → Int32) (v_findings : Nat → Int32) : Option (Int32 × Int32 × (Nat → Int32) × (Nat → Int32) × (Nat → Int32) × (Nat → Int32)) :=
  bR (fX4_found v_findings (-1000000001)) (fun r1 k1 =>
  some (r1, (v_party_size, v_party_kinds, v_party_costs, v_party_known, k1)))
set_option maxRecDepth 100000 in
set_option maxHeartbeats 4000000 in
theorem LX4_guest_14 {p : Program} {l : Launch} {e : Env} {s : State} {m : MethodId} {args : Array Value} {below : List Frame} {meth : Method} {c : Code} {D : va_G} {cI cJ cZ cS : ClassId} {tb : Nat} {A : Nat → Prop} {a_t a_party a_party_kinds a_party_costs a_party_terms a_party_known a_kept a_tape a_telephone a_sheets a_findings : Nat} {v_isKept : Int32} {v_party_list : Int32} {v_party_told : Int32} {rr : Int32} {kk' : Int32 × (Nat → Int32) × (Nat → Int32) × (Nat → Int32) × (Nat → Int32)} (fx : q_Fx p s m args meth c cX4_guest 3 RX4 (some .int) D cI cJ cZ cS tb A) : ∀ {v_party_size : Int32} {v_party_kinds : Nat → Int32} {v_party_costs : Nat → Int32} {v_party_known : Nat → Int32} {v_findings : Nat → Int32} {H : Heap} {locs : List Loc} {ls : Array Slot}, q_H D A s (wX4_guest cI cJ cZ cS a_t a_party a_party_kinds a_party_costs a_party_terms a_party_known a_kept a_tape a_telephone a_sheets a_findings v_isKept v_party_size v_party_list v_party_told v_party_kinds v_party_costs v_party_known v_findings) H locs → lv_has ls 3 [(0, .ref a_t)] → fX4_guest_14 v_party_size v_party_kinds v_party_costs v_party_known v_findings = some (rr, kk') → W p l e rX4_guest s m args below meth c H locs 0 0 (MQ below (q_Ri D rr A ((fun k : Int32 × (Nat → Int32) × (Nat → Int32) × (Nat → Int32) × (Nat → Int32) => (wX4_guest cI cJ cZ cS a_t a_party a_party_kinds a_party_costs a_party_terms a_party_known a_kept a_tape a_telephone a_sheets a_findings v_isKept k.1 v_party_list v_party_told k.2.1 k.2.2.1 k.2.2.2.1 k.2.2.2.2)) kk')) args s 0 0 A) (F0 m 14 ls []) := by
  intro v_party_size v_party_kinds v_party_costs v_party_known v_findings H locs ls h hl hf
  have hx := fx.1
  have hb := fx.2.1
  unfold fX4_guest_14 at hf
  refine lv_aload_n hx hb dX4_guest_14 rfl (lv_at hl 0 rfl) ?_
  refine q_ldc fx k_206 dX4_guest_15 ?_
  obtain ⟨r1, k1, hg, hf⟩ := bR_inv hf
  refine q_ci (rest := []) (ws' := (wX4_guest cI cJ cZ cS a_t a_party a_party_kinds a_party_costs a_party_terms a_party_known a_kept a_tape a_telephone a_sheets a_findings v_isKept v_party_size v_party_list v_party_told v_party_kinds v_party_costs v_party_known k1)) (w1 := (wX4_found cI cJ cZ cS a_t a_party a_kept a_tape a_telephone a_sheets a_findings v_isKept k1)) fx h [0, 5] rfl rfl rfl rfl (q_runV fx h hl.1 [0, 5] rfl rfl (tX4_found l D cI cJ cZ cS tb a_t a_party a_kept a_tape a_telephone a_sheets a_findings H.size v_isKept v_findings (-1000000001) r1 k1 hg) mvX4_found k_207 ⟨rfl, rfl⟩ ⟨Nat.le_of_ble_eq_true rfl, Nat.le_of_ble_eq_true rfl⟩ rfl rfl rfl rfl (Nat.le_of_ble_eq_true rfl) dX4_guest_17 ⟨Nat.le_of_ble_eq_true rfl, Nat.le_of_ble_eq_true rfl⟩) (fun H locs h => ?_)
  exact q_reti (fun k : Int32 × (Nat → Int32) × (Nat → Int32) × (Nat → Int32) × (Nat → Int32) => (wX4_guest cI cJ cZ cS a_t a_party a_party_kinds a_party_costs a_party_terms a_party_known a_kept a_tape a_telephone a_sheets a_findings v_isKept k.1 v_party_list v_party_told k.2.1 k.2.2.1 k.2.2.2.1 k.2.2.2.2)) fx hf h dX4_guest_20
def fX4_guest (v_party_size : Int32) (v_party_kinds : Nat → Int32) (v_party_costs : Nat → Int32) (v_party_known : Nat → Int32) (v_findings : Nat → Int32) (x1 : Int32) (x2 : Int32) : Option (Int32 × Int32 × (Nat → Int32) × (Nat → Int32) × (Nat → Int32) × (Nat → Int32)) :=
  bR (fX4_isKind x1) (fun r2 k2 =>
  (if r2 = 0 then (
  fX4_guest_14  v_party_size v_party_kinds v_party_costs v_party_known v_findings)
  else (
  bR (fX4_isCost x2) (fun r4 k4 =>
  (if r4 = 0 then (
  fX4_guest_14  v_party_size v_party_kinds v_party_costs v_party_known v_findings)
  else (
  (if (8 : Int32) ≤ v_party_size then (
  bR (fX4_found v_findings (-1000000002)) (fun r7 k7 =>
  some (r7, (v_party_size, v_party_kinds, v_party_costs, v_party_known, k7))))
  else (
  bR (fX0_welcome v_party_size v_party_kinds v_party_costs v_party_known x1 x2) (fun r8 k8 =>
  some (r8, (k8.1, k8.2.1, k8.2.2.1, k8.2.2.2, v_findings)))))))))))
set_option maxRecDepth 100000 in
set_option maxHeartbeats 4000000 in
theorem tX4_guest (l : Launch) (D : va_G) (cI cJ cZ cS : ClassId) (tb : Nat) (a_t a_party a_party_kinds a_party_costs a_party_terms a_party_known a_kept a_tape a_telephone a_sheets a_findings : Nat) (sz : Nat) (v_isKept : Int32) (v_party_size : Int32) (v_party_list : Int32) (v_party_told : Int32) (v_party_kinds : Nat → Int32) (v_party_costs : Nat → Int32) (v_party_known : Nat → Int32) (v_findings : Nat → Int32) (x1 : Int32) (x2 : Int32) (rr : Int32) (kk' : Int32 × (Nat → Int32) × (Nat → Int32) × (Nat → Int32) × (Nat → Int32)) (hf : fX4_guest v_party_size v_party_kinds v_party_costs v_party_known v_findings x1 x2 = some (rr, kk')) : Met l yX4_guest (Cond.code yX4_guest cX4_guest 3 (some .int) :: wA) rX4_guest (q_Pre D cI cJ cZ cS tb [.ref a_t, .int x1, .int x2] sz (wX4_guest cI cJ cZ cS a_t a_party a_party_kinds a_party_costs a_party_terms a_party_known a_kept a_tape a_telephone a_sheets a_findings v_isKept v_party_size v_party_list v_party_told v_party_kinds v_party_costs v_party_known v_findings)) (q_Ri D rr (va_A (wX4_guest cI cJ cZ cS a_t a_party a_party_kinds a_party_costs a_party_terms a_party_known a_kept a_tape a_telephone a_sheets a_findings v_isKept v_party_size v_party_list v_party_told v_party_kinds v_party_costs v_party_known v_findings) sz) ((fun k : Int32 × (Nat → Int32) × (Nat → Int32) × (Nat → Int32) × (Nat → Int32) => (wX4_guest cI cJ cZ cS a_t a_party a_party_kinds a_party_costs a_party_terms a_party_known a_kept a_tape a_telephone a_sheets a_findings v_isKept k.1 v_party_list v_party_told k.2.1 k.2.2.1 k.2.2.2.1 k.2.2.2.2)) kk')) 0 0 (va_A (wX4_guest cI cJ cZ cS a_t a_party a_party_kinds a_party_costs a_party_terms a_party_known a_kept a_tape a_telephone a_sheets a_findings v_isKept v_party_size v_party_list v_party_told v_party_kinds v_party_costs v_party_known v_findings) sz) := by
  refine q_enter (Qf := fun A => (q_Ri D rr A ((fun k : Int32 × (Nat → Int32) × (Nat → Int32) × (Nat → Int32) × (Nat → Int32) => (wX4_guest cI cJ cZ cS a_t a_party a_party_kinds a_party_costs a_party_terms a_party_known a_kept a_tape a_telephone a_sheets a_findings v_isKept k.1 v_party_list v_party_told k.2.1 k.2.2.1 k.2.2.2.1 k.2.2.2.2)) kk'))) (by decide) rfl (Nat.le_of_ble_eq_true rfl) ?_
  intro p e s m below meth c A ls fx hname h hl
  have hx := fx.1
  have hb := fx.2.1
  have hl : lv_has ls 3 [(0, .ref a_t), (1, .int x1), (2, .int x2)] := hl
  generalize h9 : s.heap = H at h ⊢
  clear h9
  generalize h9 : ([] : List Loc) = locs at h ⊢
  clear h9
  unfold fX4_guest at hf
  refine lv_iload_n hx hb dX4_guest_0 rfl (lv_at hl 1 rfl) ?_
  obtain ⟨r2, k2, hg, hf⟩ := bR_inv hf
  refine q_ci (rest := []) (ws' := (wX4_guest cI cJ cZ cS a_t a_party a_party_kinds a_party_costs a_party_terms a_party_known a_kept a_tape a_telephone a_sheets a_findings v_isKept v_party_size v_party_list v_party_told v_party_kinds v_party_costs v_party_known v_findings)) (w1 := (wX4_isKind cI cJ cZ cS)) fx h [] rfl rfl rfl rfl (q_runS fx h hl.1 [] rfl rfl (tX4_isKind l D cI cJ cZ cS tb H.size x1 r2 k2 hg) msX4_isKind k_200 ⟨rfl, rfl⟩ ⟨Nat.le_of_ble_eq_true rfl, Nat.le_of_ble_eq_true rfl⟩ rfl rfl (Nat.le_of_ble_eq_true rfl) dX4_guest_1 ⟨Nat.le_of_ble_eq_true rfl, Nat.le_of_ble_eq_true rfl⟩) (fun H locs h => ?_)
  refine lv_if_eq (tgt := 14) hx hb dX4_guest_4 (by decide) (fun c3 => ?_) (fun c3 => ?_)
  · have hf := it_t c3 hf
    exact LX4_guest_14 fx h (lv_sub hl [0] rfl) hf
  have hf := it_f c3 hf
  refine lv_iload_n hx hb dX4_guest_7 rfl (lv_at hl 2 rfl) ?_
  obtain ⟨r4, k4, hg, hf⟩ := bR_inv hf
  refine q_ci (rest := []) (ws' := (wX4_guest cI cJ cZ cS a_t a_party a_party_kinds a_party_costs a_party_terms a_party_known a_kept a_tape a_telephone a_sheets a_findings v_isKept v_party_size v_party_list v_party_told v_party_kinds v_party_costs v_party_known v_findings)) (w1 := (wX4_isCost cI cJ cZ cS)) fx h [] rfl rfl rfl rfl (q_runS fx h hl.1 [] rfl rfl (tX4_isCost l D cI cJ cZ cS tb H.size x2 r4 k4 hg) msX4_isCost k_203 ⟨rfl, rfl⟩ ⟨Nat.le_of_ble_eq_true rfl, Nat.le_of_ble_eq_true rfl⟩ rfl rfl (Nat.le_of_ble_eq_true rfl) dX4_guest_8 ⟨Nat.le_of_ble_eq_true rfl, Nat.le_of_ble_eq_true rfl⟩) (fun H locs h => ?_)
  refine lv_if_ne (tgt := 21) hx hb dX4_guest_11 (by decide) (fun c5 => ?_) (fun c5 => ?_)
  · have hf := it_f c5 hf
    refine lv_aload_n hx hb dX4_guest_21 rfl (lv_at hl 0 rfl) ?_
    refine q_get (v := .ref a_party) fx inX4 h 0 rfl rfl 0 (by decide) k_174 rfl dX4_guest_22 ?_
    refine q_getN (v := .int v_party_size) fx inX0 h 1 rfl rfl 0 (by decide) nf_0 rfl dX4_guest_25 ?_
    refine lv_bipush (v := 8) hx hb dX4_guest_28 (by decide) ?_
    refine lv_icmp_ge (tgt := 45) hx hb dX4_guest_30 (by decide) (fun c6 => ?_) (fun c6 => ?_)
    · have hf := it_t c6 hf
      refine lv_aload_n hx hb dX4_guest_45 rfl (lv_at hl 0 rfl) ?_
      refine q_ldc fx k_215 dX4_guest_46 ?_
      obtain ⟨r7, k7, hg, hf⟩ := bR_inv hf
      refine q_ci (rest := []) (ws' := (wX4_guest cI cJ cZ cS a_t a_party a_party_kinds a_party_costs a_party_terms a_party_known a_kept a_tape a_telephone a_sheets a_findings v_isKept v_party_size v_party_list v_party_told v_party_kinds v_party_costs v_party_known k7)) (w1 := (wX4_found cI cJ cZ cS a_t a_party a_kept a_tape a_telephone a_sheets a_findings v_isKept k7)) fx h [0, 5] rfl rfl rfl rfl (q_runV fx h hl.1 [0, 5] rfl rfl (tX4_found l D cI cJ cZ cS tb a_t a_party a_kept a_tape a_telephone a_sheets a_findings H.size v_isKept v_findings (-1000000002) r7 k7 hg) mvX4_found k_207 ⟨rfl, rfl⟩ ⟨Nat.le_of_ble_eq_true rfl, Nat.le_of_ble_eq_true rfl⟩ rfl rfl rfl rfl (Nat.le_of_ble_eq_true rfl) dX4_guest_48 ⟨Nat.le_of_ble_eq_true rfl, Nat.le_of_ble_eq_true rfl⟩) (fun H locs h => ?_)
      exact q_reti (fun k : Int32 × (Nat → Int32) × (Nat → Int32) × (Nat → Int32) × (Nat → Int32) => (wX4_guest cI cJ cZ cS a_t a_party a_party_kinds a_party_costs a_party_terms a_party_known a_kept a_tape a_telephone a_sheets a_findings v_isKept k.1 v_party_list v_party_told k.2.1 k.2.2.1 k.2.2.2.1 k.2.2.2.2)) fx hf h dX4_guest_51
    have hf := it_f c6 hf
    refine lv_aload_n hx hb dX4_guest_33 rfl (lv_at hl 0 rfl) ?_
    refine q_get (v := .ref a_party) fx inX4 h 0 rfl rfl 0 (by decide) k_174 rfl dX4_guest_34 ?_
    refine lv_iload_n hx hb dX4_guest_37 rfl (lv_at hl 1 rfl) ?_
    refine lv_iload_n hx hb dX4_guest_38 rfl (lv_at hl 2 rfl) ?_
    obtain ⟨r8, k8, hg, hf⟩ := bR_inv hf
    refine q_ci (rest := []) (ws' := (wX4_guest cI cJ cZ cS a_t a_party a_party_kinds a_party_costs a_party_terms a_party_known a_kept a_tape a_telephone a_sheets a_findings v_isKept k8.1 v_party_list v_party_told k8.2.1 k8.2.2.1 k8.2.2.2 v_findings)) (w1 := (wX0_welcome cI cJ cZ cS a_party a_party_kinds a_party_costs a_party_terms a_party_known k8.1 v_party_list v_party_told k8.2.1 k8.2.2.1 k8.2.2.2)) fx h [1, 2, 3, 4] rfl rfl rfl rfl (q_runV fx h hl.1 [1, 2, 3, 4] rfl rfl (tX0_welcome l D cI cJ cZ cS tb a_party a_party_kinds a_party_costs a_party_terms a_party_known H.size v_party_size v_party_list v_party_told v_party_kinds v_party_costs v_party_known x1 x2 r8 k8 hg) mvX0_welcome k_211 ⟨rfl, rfl⟩ ⟨Nat.le_of_ble_eq_true rfl, Nat.le_of_ble_eq_true rfl⟩ rfl rfl rfl rfl (Nat.le_of_ble_eq_true rfl) dX4_guest_39 ⟨Nat.le_of_ble_eq_true rfl, Nat.le_of_ble_eq_true rfl⟩) (fun H locs h => ?_)
    refine lv_goto (tgt := 51) hx hb dX4_guest_42 (by decide) ?_
    exact q_reti (fun k : Int32 × (Nat → Int32) × (Nat → Int32) × (Nat → Int32) × (Nat → Int32) => (wX4_guest cI cJ cZ cS a_t a_party a_party_kinds a_party_costs a_party_terms a_party_known a_kept a_tape a_telephone a_sheets a_findings v_isKept k.1 v_party_list v_party_told k.2.1 k.2.2.1 k.2.2.2.1 k.2.2.2.2)) fx hf h dX4_guest_51
  have hf := it_t c5 hf
  exact LX4_guest_14 fx h (lv_sub hl [0] rfl) hf
/-! X0_has -/
abbrev wX0_has (cI cJ cZ cS : ClassId) (a_t a_kinds a_costs a_terms a_known : Nat) (v_size : Int32) (v_list : Int32) (v_told : Int32) : va_W := [(a_t, .inr (0, [.int v_size, .int v_list, .int v_told, .ref a_kinds, .ref a_costs, .ref a_terms, .ref a_known]))]
abbrev rX0_has : Room := { frames := 0, cells := 0, slots := 0, locals := 0 }
def fX0_has (v_size : Int32) (x1 : Int32) : Option (Int32 × Unit) :=
  (if x1 < 0 then (
  some (0, ()))
  else (
  (if v_size ≤ x1 then (
  some (0, ()))
  else (
  some (1, ())))))
set_option maxRecDepth 100000 in
set_option maxHeartbeats 4000000 in
theorem tX0_has (l : Launch) (D : va_G) (cI cJ cZ cS : ClassId) (tb : Nat) (a_t a_kinds a_costs a_terms a_known : Nat) (sz : Nat) (v_size : Int32) (v_list : Int32) (v_told : Int32) (x1 : Int32) (rr : Int32) (kk' : Unit) (hf : fX0_has v_size x1 = some (rr, kk')) : Met l yX0_has (Cond.code yX0_has cX0_has 2 (some .boolean) :: wA) rX0_has (q_Pre D cI cJ cZ cS tb [.ref a_t, .int x1] sz (wX0_has cI cJ cZ cS a_t a_kinds a_costs a_terms a_known v_size v_list v_told)) (q_Ri D rr (va_A (wX0_has cI cJ cZ cS a_t a_kinds a_costs a_terms a_known v_size v_list v_told) sz) ((fun k : Unit => (wX0_has cI cJ cZ cS a_t a_kinds a_costs a_terms a_known v_size v_list v_told)) kk')) 0 0 (va_A (wX0_has cI cJ cZ cS a_t a_kinds a_costs a_terms a_known v_size v_list v_told) sz) := by
  refine q_enter (Qf := fun A => (q_Ri D rr A ((fun k : Unit => (wX0_has cI cJ cZ cS a_t a_kinds a_costs a_terms a_known v_size v_list v_told)) kk'))) (by decide) rfl (Nat.le_of_ble_eq_true rfl) ?_
  intro p e s m below meth c A ls fx hname h hl
  have hx := fx.1
  have hb := fx.2.1
  have hl : lv_has ls 2 [(0, .ref a_t), (1, .int x1)] := hl
  generalize h9 : s.heap = H at h ⊢
  clear h9
  generalize h9 : ([] : List Loc) = locs at h ⊢
  clear h9
  unfold fX0_has at hf
  refine lv_iload_n hx hb dX0_has_0 rfl (lv_at hl 1 rfl) ?_
  refine lv_if_lt (tgt := 16) hx hb dX0_has_1 (by decide) (fun c1 => ?_) (fun c1 => ?_)
  · have hf := it_t c1 hf
    refine lv_iconst (v := 0) hx hb dX0_has_16 (by decide) ?_
    exact q_retz (fun k : Unit => (wX0_has cI cJ cZ cS a_t a_kinds a_costs a_terms a_known v_size v_list v_told)) fx rfl hf h dX0_has_17
  have hf := it_f c1 hf
  refine lv_iload_n hx hb dX0_has_4 rfl (lv_at hl 1 rfl) ?_
  refine lv_aload_n hx hb dX0_has_5 rfl (lv_at hl 0 rfl) ?_
  refine q_get (v := .int v_size) fx inX0 h 0 rfl rfl 0 (by decide) k_80 rfl dX0_has_6 ?_
  refine lv_icmp_ge (tgt := 16) hx hb dX0_has_9 (by decide) (fun c2 => ?_) (fun c2 => ?_)
  · have hf := it_t c2 hf
    refine lv_iconst (v := 0) hx hb dX0_has_16 (by decide) ?_
    exact q_retz (fun k : Unit => (wX0_has cI cJ cZ cS a_t a_kinds a_costs a_terms a_known v_size v_list v_told)) fx rfl hf h dX0_has_17
  have hf := it_f c2 hf
  refine lv_iconst (v := 1) hx hb dX0_has_12 (by decide) ?_
  refine lv_goto (tgt := 17) hx hb dX0_has_13 (by decide) ?_
  exact q_retz (fun k : Unit => (wX0_has cI cJ cZ cS a_t a_kinds a_costs a_terms a_known v_size v_list v_told)) fx rfl hf h dX0_has_17
/-! X0_termHolds -/
abbrev wX0_termHolds (cI cJ cZ cS : ClassId) (a_t a_kinds a_costs a_terms a_known : Nat) (v_size : Int32) (v_list : Int32) (v_told : Int32) (v_terms : Nat → Int64) : va_W := [(a_t, .inr (0, [.int v_size, .int v_list, .int v_told, .ref a_kinds, .ref a_costs, .ref a_terms, .ref a_known])), (a_terms, .inl (cJ, 32, .inr (.inl v_terms)))]
abbrev rX0_termHolds : Room := { frames := 0, cells := 0, slots := 0, locals := 0 }
def fX0_termHolds (v_terms : Nat → Int64) (x1 : Int32) (x2 : Int32) : Option (Int32 × Unit) :=
  nm ((x2 &&& 255) / 64) (fun u1 =>
  gIn ((x1 * 4) + u1) 32 (
  (if (lg_cmp ((jlushr (v_terms ((x1 * 4) + u1).toNatClampNeg) (jrem x2 64)) &&& 1) 0) = 0 then (
  some (0, ()))
  else (
  some (1, ())))))
set_option maxRecDepth 100000 in
set_option maxHeartbeats 4000000 in
theorem tX0_termHolds (l : Launch) (D : va_G) (cI cJ cZ cS : ClassId) (tb : Nat) (a_t a_kinds a_costs a_terms a_known : Nat) (sz : Nat) (v_size : Int32) (v_list : Int32) (v_told : Int32) (v_terms : Nat → Int64) (x1 : Int32) (x2 : Int32) (rr : Int32) (kk' : Unit) (hf : fX0_termHolds v_terms x1 x2 = some (rr, kk')) : Met l yX0_termHolds (Cond.code yX0_termHolds cX0_termHolds 4 (some .boolean) :: wA) rX0_termHolds (q_Pre D cI cJ cZ cS tb [.ref a_t, .int x1, .int x2] sz (wX0_termHolds cI cJ cZ cS a_t a_kinds a_costs a_terms a_known v_size v_list v_told v_terms)) (q_Ri D rr (va_A (wX0_termHolds cI cJ cZ cS a_t a_kinds a_costs a_terms a_known v_size v_list v_told v_terms) sz) ((fun k : Unit => (wX0_termHolds cI cJ cZ cS a_t a_kinds a_costs a_terms a_known v_size v_list v_told v_terms)) kk')) 0 0 (va_A (wX0_termHolds cI cJ cZ cS a_t a_kinds a_costs a_terms a_known v_size v_list v_told v_terms) sz) := by
  refine q_enter (Qf := fun A => (q_Ri D rr A ((fun k : Unit => (wX0_termHolds cI cJ cZ cS a_t a_kinds a_costs a_terms a_known v_size v_list v_told v_terms)) kk'))) (by decide) rfl (Nat.le_of_ble_eq_true rfl) ?_
  intro p e s m below meth c A ls fx hname h hl
  have hx := fx.1
  have hb := fx.2.1
  have hl : lv_has ls 4 [(0, .ref a_t), (1, .int x1), (2, .int x2)] := hl
  generalize h9 : s.heap = H at h ⊢
  clear h9
  generalize h9 : ([] : List Loc) = locs at h ⊢
  clear h9
  unfold fX0_termHolds at hf
  refine lv_iload_n hx hb dX0_termHolds_0 rfl (lv_at hl 2 rfl) ?_
  refine lv_sipush (v := 255) hx hb dX0_termHolds_1 (by decide) ?_
  refine lv_iand hx hb dX0_termHolds_4 ?_
  refine lv_bipush (v := 64) hx hb dX0_termHolds_5 (by decide) ?_
  refine lv_idiv hx hb dX0_termHolds_7 (by decide) ?_
  obtain ⟨u1, eu1, hf⟩ := nm_inv hf
  refine lv_eqi eu1 ?_
  refine lv_istore_n (lv' := [(3, .int u1), (0, .ref a_t), (1, .int x1), (2, .int x2)]) hx hb dX0_termHolds_8 rfl hl (by decide) rfl (fun ls hl => ?_)
  refine lv_aload_n hx hb dX0_termHolds_9 rfl (lv_at hl 1 rfl) ?_
  refine q_get (v := .ref a_terms) fx inX0 h 0 rfl rfl 5 (by decide) k_92 rfl dX0_termHolds_10 ?_
  refine lv_iload_n hx hb dX0_termHolds_13 rfl (lv_at hl 2 rfl) ?_
  refine lv_iconst (v := 4) hx hb dX0_termHolds_14 (by decide) ?_
  refine lv_imul hx hb dX0_termHolds_15 ?_
  refine lv_iload_n hx hb dX0_termHolds_16 rfl (lv_at hl 0 rfl) ?_
  refine lv_iadd hx hb dX0_termHolds_17 ?_
  obtain ⟨i2, hf⟩ := gIn_inv hf
  refine q_lald fx h 1 rfl i2 dX0_termHolds_18 ?_
  refine lv_iload_n hx hb dX0_termHolds_19 rfl (lv_at hl 3 rfl) ?_
  refine lv_bipush (v := 64) hx hb dX0_termHolds_20 (by decide) ?_
  refine lv_irem hx hb dX0_termHolds_22 (by decide) ?_
  refine lv_lushr hx hb dX0_termHolds_23 rfl ?_
  refine lv_lconst (v := 1) hx hb dX0_termHolds_24 (by decide) ?_
  refine lv_land hx hb dX0_termHolds_25 ?_
  refine lv_lconst (v := 0) hx hb dX0_termHolds_26 (by decide) ?_
  refine W.lcmp hx hb dX0_termHolds_27 ?_
  refine lv_if_eq (tgt := 35) hx hb dX0_termHolds_28 (by decide) (fun c3 => ?_) (fun c3 => ?_)
  · have hf := it_t c3 hf
    refine lv_iconst (v := 0) hx hb dX0_termHolds_35 (by decide) ?_
    exact q_retz (fun k : Unit => (wX0_termHolds cI cJ cZ cS a_t a_kinds a_costs a_terms a_known v_size v_list v_told v_terms)) fx rfl hf h dX0_termHolds_36
  have hf := it_f c3 hf
  refine lv_iconst (v := 1) hx hb dX0_termHolds_31 (by decide) ?_
  refine lv_goto (tgt := 36) hx hb dX0_termHolds_32 (by decide) ?_
  exact q_retz (fun k : Unit => (wX0_termHolds cI cJ cZ cS a_t a_kinds a_costs a_terms a_known v_size v_list v_told v_terms)) fx rfl hf h dX0_termHolds_36
/-! J6_bitCount_0f7a4 -/
abbrev wJ6_bitCount_0f7a4 (cI cJ cZ cS : ClassId) : va_W := []
abbrev rJ6_bitCount_0f7a4 : Room := { frames := 0, cells := 0, slots := 0, locals := 0 }
def fJ6_bitCount_0f7a4 (x0 : Int32) : Option (Int32 × Unit) :=
  nm (x0 - ((jushr x0 1) &&& 1431655765)) (fun u1 =>
  nm ((u1 &&& 858993459) + ((jushr u1 2) &&& 858993459)) (fun u2 =>
  nm ((u2 + (jushr u2 4)) &&& 252645135) (fun u3 =>
  nm (u3 + (jushr u3 8)) (fun u4 =>
  nm (u4 + (jushr u4 16)) (fun u5 =>
  some (u5 &&& 63, ()))))))
set_option maxRecDepth 100000 in
set_option maxHeartbeats 4000000 in
theorem tJ6_bitCount_0f7a4 (l : Launch) (D : va_G) (cI cJ cZ cS : ClassId) (tb : Nat) (sz : Nat) (x0 : Int32) (rr : Int32) (kk' : Unit) (hf : fJ6_bitCount_0f7a4 x0 = some (rr, kk')) : Met l yJ6_bitCount_0f7a4 (Cond.code yJ6_bitCount_0f7a4 cJ6_bitCount_0f7a4 1 (some .int) :: wA) rJ6_bitCount_0f7a4 (q_Pre D cI cJ cZ cS tb [.int x0] sz (wJ6_bitCount_0f7a4 cI cJ cZ cS)) (q_Ri D rr (va_A (wJ6_bitCount_0f7a4 cI cJ cZ cS) sz) ((fun k : Unit => (wJ6_bitCount_0f7a4 cI cJ cZ cS)) kk')) 0 0 (va_A (wJ6_bitCount_0f7a4 cI cJ cZ cS) sz) := by
  refine q_enter (Qf := fun A => (q_Ri D rr A ((fun k : Unit => (wJ6_bitCount_0f7a4 cI cJ cZ cS)) kk'))) (by decide) rfl (Nat.le_of_ble_eq_true rfl) ?_
  intro p e s m below meth c A ls fx hname h hl
  have hx := fx.1
  have hb := fx.2.1
  have hl : lv_has ls 1 [(0, .int x0)] := hl
  generalize h9 : s.heap = H at h ⊢
  clear h9
  generalize h9 : ([] : List Loc) = locs at h ⊢
  clear h9
  unfold fJ6_bitCount_0f7a4 at hf
  refine lv_iload_n hx hb dJ6_bitCount_0f7a4_0 rfl (lv_at hl 0 rfl) ?_
  refine lv_iload_n hx hb dJ6_bitCount_0f7a4_1 rfl (lv_at hl 0 rfl) ?_
  refine lv_iconst (v := 1) hx hb dJ6_bitCount_0f7a4_2 (by decide) ?_
  refine lv_iushr hx hb dJ6_bitCount_0f7a4_3 rfl ?_
  refine q_ldcw fx k_242 dJ6_bitCount_0f7a4_4 ?_
  refine lv_iand hx hb dJ6_bitCount_0f7a4_7 ?_
  refine lv_isub hx hb dJ6_bitCount_0f7a4_8 ?_
  obtain ⟨u1, eu1, hf⟩ := nm_inv hf
  refine lv_eqi eu1 ?_
  refine lv_istore_n (lv' := [(0, .int u1)]) hx hb dJ6_bitCount_0f7a4_9 rfl hl (by decide) rfl (fun ls hl => ?_)
  refine lv_iload_n hx hb dJ6_bitCount_0f7a4_10 rfl (lv_at hl 0 rfl) ?_
  refine q_ldcw fx k_243 dJ6_bitCount_0f7a4_11 ?_
  refine lv_iand hx hb dJ6_bitCount_0f7a4_14 ?_
  refine lv_iload_n hx hb dJ6_bitCount_0f7a4_15 rfl (lv_at hl 0 rfl) ?_
  refine lv_iconst (v := 2) hx hb dJ6_bitCount_0f7a4_16 (by decide) ?_
  refine lv_iushr hx hb dJ6_bitCount_0f7a4_17 rfl ?_
  refine q_ldcw fx k_243 dJ6_bitCount_0f7a4_18 ?_
  refine lv_iand hx hb dJ6_bitCount_0f7a4_21 ?_
  refine lv_iadd hx hb dJ6_bitCount_0f7a4_22 ?_
  obtain ⟨u2, eu2, hf⟩ := nm_inv hf
  refine lv_eqi eu2 ?_
  refine lv_istore_n (lv' := [(0, .int u2)]) hx hb dJ6_bitCount_0f7a4_23 rfl hl (by decide) rfl (fun ls hl => ?_)
  refine lv_iload_n hx hb dJ6_bitCount_0f7a4_24 rfl (lv_at hl 0 rfl) ?_
  refine lv_iload_n hx hb dJ6_bitCount_0f7a4_25 rfl (lv_at hl 0 rfl) ?_
  refine lv_iconst (v := 4) hx hb dJ6_bitCount_0f7a4_26 (by decide) ?_
  refine lv_iushr hx hb dJ6_bitCount_0f7a4_27 rfl ?_
  refine lv_iadd hx hb dJ6_bitCount_0f7a4_28 ?_
  refine q_ldcw fx k_244 dJ6_bitCount_0f7a4_29 ?_
  refine lv_iand hx hb dJ6_bitCount_0f7a4_32 ?_
  obtain ⟨u3, eu3, hf⟩ := nm_inv hf
  refine lv_eqi eu3 ?_
  refine lv_istore_n (lv' := [(0, .int u3)]) hx hb dJ6_bitCount_0f7a4_33 rfl hl (by decide) rfl (fun ls hl => ?_)
  refine lv_iload_n hx hb dJ6_bitCount_0f7a4_34 rfl (lv_at hl 0 rfl) ?_
  refine lv_iload_n hx hb dJ6_bitCount_0f7a4_35 rfl (lv_at hl 0 rfl) ?_
  refine lv_bipush (v := 8) hx hb dJ6_bitCount_0f7a4_36 (by decide) ?_
  refine lv_iushr hx hb dJ6_bitCount_0f7a4_38 rfl ?_
  refine lv_iadd hx hb dJ6_bitCount_0f7a4_39 ?_
  obtain ⟨u4, eu4, hf⟩ := nm_inv hf
  refine lv_eqi eu4 ?_
  refine lv_istore_n (lv' := [(0, .int u4)]) hx hb dJ6_bitCount_0f7a4_40 rfl hl (by decide) rfl (fun ls hl => ?_)
  refine lv_iload_n hx hb dJ6_bitCount_0f7a4_41 rfl (lv_at hl 0 rfl) ?_
  refine lv_iload_n hx hb dJ6_bitCount_0f7a4_42 rfl (lv_at hl 0 rfl) ?_
  refine lv_bipush (v := 16) hx hb dJ6_bitCount_0f7a4_43 (by decide) ?_
  refine lv_iushr hx hb dJ6_bitCount_0f7a4_45 rfl ?_
  refine lv_iadd hx hb dJ6_bitCount_0f7a4_46 ?_
  obtain ⟨u5, eu5, hf⟩ := nm_inv hf
  refine lv_eqi eu5 ?_
  refine lv_istore_n (lv' := [(0, .int u5)]) hx hb dJ6_bitCount_0f7a4_47 rfl hl (by decide) rfl (fun ls hl => ?_)
  refine lv_iload_n hx hb dJ6_bitCount_0f7a4_48 rfl (lv_at hl 0 rfl) ?_
  refine lv_bipush (v := 63) hx hb dJ6_bitCount_0f7a4_49 (by decide) ?_
  refine lv_iand hx hb dJ6_bitCount_0f7a4_51 ?_
  exact q_reti (fun k : Unit => (wJ6_bitCount_0f7a4 cI cJ cZ cS)) fx hf h dJ6_bitCount_0f7a4_52
/-! X4_othersOn -/
abbrev wX4_othersOn (cI cJ cZ cS : ClassId) : va_W := []
abbrev rX4_othersOn : Room := { frames := 1, cells := 0, slots := 0, locals := 20 }
def fX4_othersOn (x0 : Int32) (x1 : Int32) : Option (Int32 × Unit) :=
  bR (fJ6_bitCount_0f7a4 (x1 &&& ((jshl 1 x0) ^^^ (-1)))) (fun r1 k1 =>
  some (r1, ()))
set_option maxRecDepth 100000 in
set_option maxHeartbeats 4000000 in
theorem tX4_othersOn (l : Launch) (D : va_G) (cI cJ cZ cS : ClassId) (tb : Nat) (sz : Nat) (x0 : Int32) (x1 : Int32) (rr : Int32) (kk' : Unit) (hf : fX4_othersOn x0 x1 = some (rr, kk')) : Met l yX4_othersOn (Cond.code yX4_othersOn cX4_othersOn 2 (some .int) :: wA) rX4_othersOn (q_Pre D cI cJ cZ cS tb [.int x0, .int x1] sz (wX4_othersOn cI cJ cZ cS)) (q_Ri D rr (va_A (wX4_othersOn cI cJ cZ cS) sz) ((fun k : Unit => (wX4_othersOn cI cJ cZ cS)) kk')) 0 0 (va_A (wX4_othersOn cI cJ cZ cS) sz) := by
  refine q_enter (Qf := fun A => (q_Ri D rr A ((fun k : Unit => (wX4_othersOn cI cJ cZ cS)) kk'))) (by decide) rfl (Nat.le_of_ble_eq_true rfl) ?_
  intro p e s m below meth c A ls fx hname h hl
  have hx := fx.1
  have hb := fx.2.1
  have hl : lv_has ls 2 [(0, .int x0), (1, .int x1)] := hl
  generalize h9 : s.heap = H at h ⊢
  clear h9
  generalize h9 : ([] : List Loc) = locs at h ⊢
  clear h9
  unfold fX4_othersOn at hf
  refine lv_iload_n hx hb dX4_othersOn_0 rfl (lv_at hl 1 rfl) ?_
  refine lv_iconst (v := 1) hx hb dX4_othersOn_1 (by decide) ?_
  refine lv_iload_n hx hb dX4_othersOn_2 rfl (lv_at hl 0 rfl) ?_
  refine lv_ishl hx hb dX4_othersOn_3 ?_
  refine lv_iconst (v := -1) hx hb dX4_othersOn_4 (by decide) ?_
  refine lv_ixor hx hb dX4_othersOn_5 ?_
  refine lv_iand hx hb dX4_othersOn_6 ?_
  obtain ⟨r1, k1, hg, hf⟩ := bR_inv hf
  refine q_ci (rest := []) (ws' := (wX4_othersOn cI cJ cZ cS)) (w1 := (wJ6_bitCount_0f7a4 cI cJ cZ cS)) fx h [] rfl rfl rfl rfl (q_runS fx h hl.1 [] rfl rfl (tJ6_bitCount_0f7a4 l D cI cJ cZ cS tb H.size (x1 &&& ((jshl 1 x0) ^^^ (-1))) r1 k1 hg) msJ6_bitCount_0f7a4 k_239 ⟨rfl, rfl⟩ ⟨Nat.le_of_ble_eq_true rfl, Nat.le_of_ble_eq_true rfl⟩ rfl rfl (Nat.le_of_ble_eq_true rfl) dX4_othersOn_7 ⟨Nat.le_of_ble_eq_true rfl, Nat.le_of_ble_eq_true rfl⟩) (fun H locs h => ?_)
  exact q_reti (fun k : Unit => (wX4_othersOn cI cJ cZ cS)) fx hf h dX4_othersOn_10
/-! X0_wouldComeAs -/
abbrev wX0_wouldComeAs (cI cJ cZ cS : ClassId) (a_t a_kinds a_costs a_terms a_known : Nat) (v_size : Int32) (v_list : Int32) (v_told : Int32) (v_terms : Nat → Int64) : va_W := [(a_t, .inr (0, [.int v_size, .int v_list, .int v_told, .ref a_kinds, .ref a_costs, .ref a_terms, .ref a_known])), (a_terms, .inl (cJ, 32, .inr (.inl v_terms)))]
abbrev rX0_wouldComeAs : Room := { frames := 2, cells := 0, slots := 0, locals := 41 }
def fX0_wouldComeAs (v_terms : Nat → Int64) (x1 : Int32) (x2 : Int32) (x3 : Int32) : Option (Int32 × Unit) :=
  bR (fX0_termHolds v_terms x2 x3) (fun r1 k1 =>
  bR (fX4_othersOn x2 x3) (fun r2 k2 =>
  (if (x1).toInt < 0 ∨ 5 < (x1).toInt then (
  some (0, ()))
  else (if x1 = 0 then (
  gB r1 (some (r1, ())))
  else (if x1 = 1 then (
  (if r1 = 0 then (
  (if r2 < 4 then (
  some (0, ()))
  else (
  some (1, ()))))
  else (
  some (1, ()))))
  else (if x1 = 2 then (
  (if r1 = 0 then (
  some (0, ()))
  else (
  (if (4 : Int32) < r2 then (
  some (0, ()))
  else (
  some (1, ()))))))
  else (if x1 = 3 then (
  some (0, ()))
  else (if x1 = 4 then (
  (if r1 = 0 then (
  (if (4 : Int32) ≤ r2 then (
  some (1, ()))
  else (
  (if r2 = 0 then (
  some (1, ()))
  else (
  some (0, ()))))))
  else (
  some (1, ()))))
  else (if x1 = 5 then (
  (if r1 = 0 then (
  some (1, ()))
  else (
  (if r2 ≤ 4 then (
  some (0, ()))
  else (
  some (1, ()))))))
  else none)))))))))
set_option maxRecDepth 100000 in
set_option maxHeartbeats 4000000 in
theorem tX0_wouldComeAs (l : Launch) (D : va_G) (cI cJ cZ cS : ClassId) (tb : Nat) (a_t a_kinds a_costs a_terms a_known : Nat) (sz : Nat) (v_size : Int32) (v_list : Int32) (v_told : Int32) (v_terms : Nat → Int64) (x1 : Int32) (x2 : Int32) (x3 : Int32) (rr : Int32) (kk' : Unit) (hf : fX0_wouldComeAs v_terms x1 x2 x3 = some (rr, kk')) : Met l yX0_wouldComeAs (Cond.code yX0_wouldComeAs cX0_wouldComeAs 6 (some .boolean) :: wA) rX0_wouldComeAs (q_Pre D cI cJ cZ cS tb [.ref a_t, .int x1, .int x2, .int x3] sz (wX0_wouldComeAs cI cJ cZ cS a_t a_kinds a_costs a_terms a_known v_size v_list v_told v_terms)) (q_Ri D rr (va_A (wX0_wouldComeAs cI cJ cZ cS a_t a_kinds a_costs a_terms a_known v_size v_list v_told v_terms) sz) ((fun k : Unit => (wX0_wouldComeAs cI cJ cZ cS a_t a_kinds a_costs a_terms a_known v_size v_list v_told v_terms)) kk')) 0 0 (va_A (wX0_wouldComeAs cI cJ cZ cS a_t a_kinds a_costs a_terms a_known v_size v_list v_told v_terms) sz) := by
  refine q_enter (Qf := fun A => (q_Ri D rr A ((fun k : Unit => (wX0_wouldComeAs cI cJ cZ cS a_t a_kinds a_costs a_terms a_known v_size v_list v_told v_terms)) kk'))) (by decide) rfl (Nat.le_of_ble_eq_true rfl) ?_
  intro p e s m below meth c A ls fx hname h hl
  have hx := fx.1
  have hb := fx.2.1
  have hl : lv_has ls 6 [(0, .ref a_t), (1, .int x1), (2, .int x2), (3, .int x3)] := hl
  generalize h9 : s.heap = H at h ⊢
  clear h9
  generalize h9 : ([] : List Loc) = locs at h ⊢
  clear h9
  unfold fX0_wouldComeAs at hf
  refine lv_aload_n hx hb dX0_wouldComeAs_0 rfl (lv_at hl 0 rfl) ?_
  refine lv_iload_n hx hb dX0_wouldComeAs_1 rfl (lv_at hl 2 rfl) ?_
  refine lv_iload_n hx hb dX0_wouldComeAs_2 rfl (lv_at hl 3 rfl) ?_
  obtain ⟨r1, k1, hg, hf⟩ := bR_inv hf
  refine q_ci (rest := []) (ws' := (wX0_wouldComeAs cI cJ cZ cS a_t a_kinds a_costs a_terms a_known v_size v_list v_told v_terms)) (w1 := (wX0_termHolds cI cJ cZ cS a_t a_kinds a_costs a_terms a_known v_size v_list v_told v_terms)) fx h [0, 1] rfl rfl rfl rfl (q_runV fx h hl.1 [0, 1] rfl rfl (tX0_termHolds l D cI cJ cZ cS tb a_t a_kinds a_costs a_terms a_known H.size v_size v_list v_told v_terms x2 x3 r1 k1 hg) mvX0_termHolds k_232 ⟨rfl, rfl⟩ ⟨Nat.le_of_ble_eq_true rfl, Nat.le_of_ble_eq_true rfl⟩ rfl rfl rfl rfl (Nat.le_of_ble_eq_true rfl) dX0_wouldComeAs_3 ⟨Nat.le_of_ble_eq_true rfl, Nat.le_of_ble_eq_true rfl⟩) (fun H locs h => ?_)
  refine lv_istore (lv' := [(4, .int r1), (0, .ref a_t), (1, .int x1), (2, .int x2), (3, .int x3)]) hx hb dX0_wouldComeAs_6 hl (by decide) rfl (fun ls hl => ?_)
  refine lv_iload_n hx hb dX0_wouldComeAs_8 rfl (lv_at hl 3 rfl) ?_
  refine lv_iload_n hx hb dX0_wouldComeAs_9 rfl (lv_at hl 4 rfl) ?_
  obtain ⟨r2, k2, hg, hf⟩ := bR_inv hf
  refine q_ci (rest := []) (ws' := (wX0_wouldComeAs cI cJ cZ cS a_t a_kinds a_costs a_terms a_known v_size v_list v_told v_terms)) (w1 := (wX4_othersOn cI cJ cZ cS)) fx h [] rfl rfl rfl rfl (q_runSN fx h hl.1 [] rfl rfl (tX4_othersOn l D cI cJ cZ cS tb H.size x2 x3 r2 k2 hg) msX4_othersOn nm_0 ⟨rfl, rfl⟩ ⟨Nat.le_of_ble_eq_true rfl, Nat.le_of_ble_eq_true rfl⟩ rfl rfl (Nat.le_of_ble_eq_true rfl) dX0_wouldComeAs_10 ⟨Nat.le_of_ble_eq_true rfl, Nat.le_of_ble_eq_true rfl⟩) (fun H locs h => ?_)
  refine lv_istore (lv' := [(5, .int r2), (4, .int r1), (0, .ref a_t), (1, .int x1), (2, .int x2), (3, .int x3)]) hx hb dX0_wouldComeAs_13 hl (by decide) rfl (fun ls hl => ?_)
  refine lv_iload_n hx hb dX0_wouldComeAs_15 rfl (lv_at hl 3 rfl) ?_
  rcases it_or hf with ⟨c3, hf⟩ | ⟨c3, hf⟩
  · refine lv_tableOut (tgt := 132) hx hb dX0_wouldComeAs_16 c3 (by decide) ?_
    refine lv_iconst (v := 0) hx hb dX0_wouldComeAs_132 (by decide) ?_
    exact q_retz (fun k : Unit => (wX0_wouldComeAs cI cJ cZ cS a_t a_kinds a_costs a_terms a_known v_size v_list v_told v_terms)) fx rfl hf h dX0_wouldComeAs_133
  have c3 := not_or.mp c3
  rcases it_or hf with ⟨c4, hf⟩ | ⟨c4, hf⟩
  · refine lv_tableIn (off := 40) (tgt := 56) hx hb dX0_wouldComeAs_16 c3.1 c3.2 (by rw [c4]; rfl) (by decide) ?_
    refine lv_iload hx hb dX0_wouldComeAs_56 (lv_at hl 1 rfl) ?_
    obtain ⟨b5, hf⟩ := gB_inv hf
    exact q_retz (fun k : Unit => (wX0_wouldComeAs cI cJ cZ cS a_t a_kinds a_costs a_terms a_known v_size v_list v_told v_terms)) fx b5 hf h dX0_wouldComeAs_58
  rcases it_or hf with ⟨c6, hf⟩ | ⟨c6, hf⟩
  · refine lv_tableIn (off := 43) (tgt := 59) hx hb dX0_wouldComeAs_16 c3.1 c3.2 (by rw [c6]; rfl) (by decide) ?_
    refine lv_iload hx hb dX0_wouldComeAs_59 (lv_at hl 1 rfl) ?_
    refine lv_if_ne (tgt := 70) hx hb dX0_wouldComeAs_61 (by decide) (fun c7 => ?_) (fun c7 => ?_)
    · have hf := it_f c7 hf
      refine lv_iconst (v := 1) hx hb dX0_wouldComeAs_70 (by decide) ?_
      refine lv_goto (tgt := 75) hx hb dX0_wouldComeAs_71 (by decide) ?_
      exact q_retz (fun k : Unit => (wX0_wouldComeAs cI cJ cZ cS a_t a_kinds a_costs a_terms a_known v_size v_list v_told v_terms)) fx rfl hf h dX0_wouldComeAs_75
    have hf := it_t c7 hf
    refine lv_iload hx hb dX0_wouldComeAs_64 (lv_at hl 0 rfl) ?_
    refine lv_iconst (v := 4) hx hb dX0_wouldComeAs_66 (by decide) ?_
    refine lv_icmp_lt (tgt := 74) hx hb dX0_wouldComeAs_67 (by decide) (fun c8 => ?_) (fun c8 => ?_)
    · have hf := it_t c8 hf
      refine lv_iconst (v := 0) hx hb dX0_wouldComeAs_74 (by decide) ?_
      exact q_retz (fun k : Unit => (wX0_wouldComeAs cI cJ cZ cS a_t a_kinds a_costs a_terms a_known v_size v_list v_told v_terms)) fx rfl hf h dX0_wouldComeAs_75
    have hf := it_f c8 hf
    refine lv_iconst (v := 1) hx hb dX0_wouldComeAs_70 (by decide) ?_
    refine lv_goto (tgt := 75) hx hb dX0_wouldComeAs_71 (by decide) ?_
    exact q_retz (fun k : Unit => (wX0_wouldComeAs cI cJ cZ cS a_t a_kinds a_costs a_terms a_known v_size v_list v_told v_terms)) fx rfl hf h dX0_wouldComeAs_75
  rcases it_or hf with ⟨c9, hf⟩ | ⟨c9, hf⟩
  · refine lv_tableIn (off := 60) (tgt := 76) hx hb dX0_wouldComeAs_16 c3.1 c3.2 (by rw [c9]; rfl) (by decide) ?_
    refine lv_iload hx hb dX0_wouldComeAs_76 (lv_at hl 1 rfl) ?_
    refine lv_if_eq (tgt := 91) hx hb dX0_wouldComeAs_78 (by decide) (fun c10 => ?_) (fun c10 => ?_)
    · have hf := it_t c10 hf
      refine lv_iconst (v := 0) hx hb dX0_wouldComeAs_91 (by decide) ?_
      exact q_retz (fun k : Unit => (wX0_wouldComeAs cI cJ cZ cS a_t a_kinds a_costs a_terms a_known v_size v_list v_told v_terms)) fx rfl hf h dX0_wouldComeAs_92
    have hf := it_f c10 hf
    refine lv_iload hx hb dX0_wouldComeAs_81 (lv_at hl 0 rfl) ?_
    refine lv_iconst (v := 4) hx hb dX0_wouldComeAs_83 (by decide) ?_
    refine lv_icmp_gt (tgt := 91) hx hb dX0_wouldComeAs_84 (by decide) (fun c11 => ?_) (fun c11 => ?_)
    · have hf := it_t c11 hf
      refine lv_iconst (v := 0) hx hb dX0_wouldComeAs_91 (by decide) ?_
      exact q_retz (fun k : Unit => (wX0_wouldComeAs cI cJ cZ cS a_t a_kinds a_costs a_terms a_known v_size v_list v_told v_terms)) fx rfl hf h dX0_wouldComeAs_92
    have hf := it_f c11 hf
    refine lv_iconst (v := 1) hx hb dX0_wouldComeAs_87 (by decide) ?_
    refine lv_goto (tgt := 92) hx hb dX0_wouldComeAs_88 (by decide) ?_
    exact q_retz (fun k : Unit => (wX0_wouldComeAs cI cJ cZ cS a_t a_kinds a_costs a_terms a_known v_size v_list v_told v_terms)) fx rfl hf h dX0_wouldComeAs_92
  rcases it_or hf with ⟨c12, hf⟩ | ⟨c12, hf⟩
  · refine lv_tableIn (off := 116) (tgt := 132) hx hb dX0_wouldComeAs_16 c3.1 c3.2 (by rw [c12]; rfl) (by decide) ?_
    refine lv_iconst (v := 0) hx hb dX0_wouldComeAs_132 (by decide) ?_
    exact q_retz (fun k : Unit => (wX0_wouldComeAs cI cJ cZ cS a_t a_kinds a_costs a_terms a_known v_size v_list v_told v_terms)) fx rfl hf h dX0_wouldComeAs_133
  rcases it_or hf with ⟨c13, hf⟩ | ⟨c13, hf⟩
  · refine lv_tableIn (off := 77) (tgt := 93) hx hb dX0_wouldComeAs_16 c3.1 c3.2 (by rw [c13]; rfl) (by decide) ?_
    refine lv_iload hx hb dX0_wouldComeAs_93 (lv_at hl 1 rfl) ?_
    refine lv_if_ne (tgt := 109) hx hb dX0_wouldComeAs_95 (by decide) (fun c14 => ?_) (fun c14 => ?_)
    · have hf := it_f c14 hf
      refine lv_iconst (v := 1) hx hb dX0_wouldComeAs_109 (by decide) ?_
      refine lv_goto (tgt := 114) hx hb dX0_wouldComeAs_110 (by decide) ?_
      exact q_retz (fun k : Unit => (wX0_wouldComeAs cI cJ cZ cS a_t a_kinds a_costs a_terms a_known v_size v_list v_told v_terms)) fx rfl hf h dX0_wouldComeAs_114
    have hf := it_t c14 hf
    refine lv_iload hx hb dX0_wouldComeAs_98 (lv_at hl 0 rfl) ?_
    refine lv_iconst (v := 4) hx hb dX0_wouldComeAs_100 (by decide) ?_
    refine lv_icmp_ge (tgt := 109) hx hb dX0_wouldComeAs_101 (by decide) (fun c15 => ?_) (fun c15 => ?_)
    · have hf := it_t c15 hf
      refine lv_iconst (v := 1) hx hb dX0_wouldComeAs_109 (by decide) ?_
      refine lv_goto (tgt := 114) hx hb dX0_wouldComeAs_110 (by decide) ?_
      exact q_retz (fun k : Unit => (wX0_wouldComeAs cI cJ cZ cS a_t a_kinds a_costs a_terms a_known v_size v_list v_told v_terms)) fx rfl hf h dX0_wouldComeAs_114
    have hf := it_f c15 hf
    refine lv_iload hx hb dX0_wouldComeAs_104 (lv_at hl 0 rfl) ?_
    refine lv_if_ne (tgt := 113) hx hb dX0_wouldComeAs_106 (by decide) (fun c16 => ?_) (fun c16 => ?_)
    · have hf := it_f c16 hf
      refine lv_iconst (v := 0) hx hb dX0_wouldComeAs_113 (by decide) ?_
      exact q_retz (fun k : Unit => (wX0_wouldComeAs cI cJ cZ cS a_t a_kinds a_costs a_terms a_known v_size v_list v_told v_terms)) fx rfl hf h dX0_wouldComeAs_114
    have hf := it_t c16 hf
    refine lv_iconst (v := 1) hx hb dX0_wouldComeAs_109 (by decide) ?_
    refine lv_goto (tgt := 114) hx hb dX0_wouldComeAs_110 (by decide) ?_
    exact q_retz (fun k : Unit => (wX0_wouldComeAs cI cJ cZ cS a_t a_kinds a_costs a_terms a_known v_size v_list v_told v_terms)) fx rfl hf h dX0_wouldComeAs_114
  rcases it_or hf with ⟨c17, hf⟩ | ⟨c17, hf⟩
  · refine lv_tableIn (off := 99) (tgt := 115) hx hb dX0_wouldComeAs_16 c3.1 c3.2 (by rw [c17]; rfl) (by decide) ?_
    refine lv_iload hx hb dX0_wouldComeAs_115 (lv_at hl 1 rfl) ?_
    refine lv_if_eq (tgt := 126) hx hb dX0_wouldComeAs_117 (by decide) (fun c18 => ?_) (fun c18 => ?_)
    · have hf := it_t c18 hf
      refine lv_iconst (v := 1) hx hb dX0_wouldComeAs_126 (by decide) ?_
      refine lv_goto (tgt := 131) hx hb dX0_wouldComeAs_127 (by decide) ?_
      exact q_retz (fun k : Unit => (wX0_wouldComeAs cI cJ cZ cS a_t a_kinds a_costs a_terms a_known v_size v_list v_told v_terms)) fx rfl hf h dX0_wouldComeAs_131
    have hf := it_f c18 hf
    refine lv_iload hx hb dX0_wouldComeAs_120 (lv_at hl 0 rfl) ?_
    refine lv_iconst (v := 4) hx hb dX0_wouldComeAs_122 (by decide) ?_
    refine lv_icmp_le (tgt := 130) hx hb dX0_wouldComeAs_123 (by decide) (fun c19 => ?_) (fun c19 => ?_)
    · have hf := it_t c19 hf
      refine lv_iconst (v := 0) hx hb dX0_wouldComeAs_130 (by decide) ?_
      exact q_retz (fun k : Unit => (wX0_wouldComeAs cI cJ cZ cS a_t a_kinds a_costs a_terms a_known v_size v_list v_told v_terms)) fx rfl hf h dX0_wouldComeAs_131
    have hf := it_f c19 hf
    refine lv_iconst (v := 1) hx hb dX0_wouldComeAs_126 (by decide) ?_
    refine lv_goto (tgt := 131) hx hb dX0_wouldComeAs_127 (by decide) ?_
    exact q_retz (fun k : Unit => (wX0_wouldComeAs cI cJ cZ cS a_t a_kinds a_costs a_terms a_known v_size v_list v_told v_terms)) fx rfl hf h dX0_wouldComeAs_131
  cases hf
/-! X0_comers -/
abbrev wX0_comers (cI cJ cZ cS : ClassId) (a_t a_kinds a_costs a_terms a_known : Nat) (v_size : Int32) (v_list : Int32) (v_told : Int32) (v_kinds : Nat → Int32) (v_terms : Nat → Int64) (v_known : Nat → Int32) : va_W := [(a_t, .inr (0, [.int v_size, .int v_list, .int v_told, .ref a_kinds, .ref a_costs, .ref a_terms, .ref a_known])), (a_kinds, .inl (cI, 8, .inl v_kinds)), (a_terms, .inl (cJ, 32, .inr (.inl v_terms))), (a_known, .inl (cI, 256, .inl v_known))]
abbrev rX0_comers : Room := { frames := 3, cells := 0, slots := 0, locals := 66 }
def fX0_comers_71 (v_size : Int32) (v_kinds : Nat → Int32) (v_terms : Nat → Int64) (v_known : Nat → Int32) (y2 : Int32) : Option (Int32 × (Nat → Int32)) :=
  gIn y2 256 (
  some (v_known y2.toNatClampNeg, v_known))
set_option maxRecDepth 100000 in
set_option maxHeartbeats 4000000 in
theorem LX0_comers_71 {p : Program} {l : Launch} {e : Env} {s : State} {m : MethodId} {args : Array Value} {below : List Frame} {meth : Method} {c : Code} {D : va_G} {cI cJ cZ cS : ClassId} {tb : Nat} {A : Nat → Prop} {a_t a_kinds a_costs a_terms a_known : Nat} {v_size : Int32} {v_list : Int32} {v_told : Int32} {v_kinds : Nat → Int32} {v_terms : Nat → Int64} {rr : Int32} {kk' : (Nat → Int32)} (fx : q_Fx p s m args meth c cX0_comers 5 RX0 (some .int) D cI cJ cZ cS tb A) : ∀ {v_known : Nat → Int32} {y2 : Int32} {H : Heap} {locs : List Loc} {ls : Array Slot}, q_H D A s (wX0_comers cI cJ cZ cS a_t a_kinds a_costs a_terms a_known v_size v_list v_told v_kinds v_terms v_known) H locs → lv_has ls 5 [(0, .ref a_t), (2, .int y2)] → fX0_comers_71 v_size v_kinds v_terms v_known y2 = some (rr, kk') → W p l e rX0_comers s m args below meth c H locs 0 0 (MQ below (q_Ri D rr A ((fun k : (Nat → Int32) => (wX0_comers cI cJ cZ cS a_t a_kinds a_costs a_terms a_known v_size v_list v_told v_kinds v_terms k)) kk')) args s 0 0 A) (F0 m 71 ls []) := by
  intro v_known y2 H locs ls h hl hf
  have hx := fx.1
  have hb := fx.2.1
  unfold fX0_comers_71 at hf
  refine lv_aload_n hx hb dX0_comers_71 rfl (lv_at hl 0 rfl) ?_
  refine q_get (v := .ref a_known) fx inX0 h 0 rfl rfl 6 (by decide) k_93 rfl dX0_comers_72 ?_
  refine lv_iload_n hx hb dX0_comers_75 rfl (lv_at hl 1 rfl) ?_
  obtain ⟨i1, hf⟩ := gIn_inv hf
  refine q_iald fx h 3 rfl i1 dX0_comers_76 ?_
  exact q_reti (fun k : (Nat → Int32) => (wX0_comers cI cJ cZ cS a_t a_kinds a_costs a_terms a_known v_size v_list v_told v_kinds v_terms k)) fx hf h dX0_comers_77
def fX0_comers_56 (v_size : Int32) (v_kinds : Nat → Int32) (v_terms : Nat → Int64) (ag21 : (Nat → Int32) → Int32 → Int32 → Int32 → Option (Int32 × (Nat → Int32))) (v_known : Nat → Int32) (s0 : Int32) (s1 : Int32) (y2 : Int32) (y4 : Int32) : Option (Int32 × (Nat → Int32)) :=
  nm (s0 ||| s1) (fun u2 =>
  nm (y4 + 1) (fun u3 =>
  ag21 v_known y2 u2 u3))
set_option maxRecDepth 100000 in
set_option maxHeartbeats 4000000 in
theorem LX0_comers_56 {p : Program} {l : Launch} {e : Env} {s : State} {m : MethodId} {args : Array Value} {below : List Frame} {meth : Method} {c : Code} {D : va_G} {cI cJ cZ cS : ClassId} {tb : Nat} {A : Nat → Prop} {a_t a_kinds a_costs a_terms a_known : Nat} {v_size : Int32} {v_list : Int32} {v_told : Int32} {v_kinds : Nat → Int32} {v_terms : Nat → Int64} {rr : Int32} {kk' : (Nat → Int32)} (fx : q_Fx p s m args meth c cX0_comers 5 RX0 (some .int) D cI cJ cZ cS tb A) {ag21 : (Nat → Int32) → Int32 → Int32 → Int32 → Option (Int32 × (Nat → Int32))} (hag21 : ∀ {v_known : Nat → Int32} {y2 : Int32} {y3 : Int32} {y4 : Int32} {H : Heap} {locs : List Loc} {ls : Array Slot}, q_H D A s (wX0_comers cI cJ cZ cS a_t a_kinds a_costs a_terms a_known v_size v_list v_told v_kinds v_terms v_known) H locs → lv_has ls 5 [(0, .ref a_t), (2, .int y2), (3, .int y3), (4, .int y4)] → ag21 v_known y2 y3 y4 = some (rr, kk') → W p l e rX0_comers s m args below meth c H locs 0 0 (MQ below (q_Ri D rr A ((fun k : (Nat → Int32) => (wX0_comers cI cJ cZ cS a_t a_kinds a_costs a_terms a_known v_size v_list v_told v_kinds v_terms k)) kk')) args s 0 0 A) (F0 m 21 ls [])) : ∀ {v_known : Nat → Int32} {s0 : Int32} {s1 : Int32} {y2 : Int32} {y4 : Int32} {H : Heap} {locs : List Loc} {ls : Array Slot}, q_H D A s (wX0_comers cI cJ cZ cS a_t a_kinds a_costs a_terms a_known v_size v_list v_told v_kinds v_terms v_known) H locs → lv_has ls 5 [(0, .ref a_t), (2, .int y2), (4, .int y4)] → fX0_comers_56 v_size v_kinds v_terms ag21 v_known s0 s1 y2 y4 = some (rr, kk') → W p l e rX0_comers s m args below meth c H locs 0 0 (MQ below (q_Ri D rr A ((fun k : (Nat → Int32) => (wX0_comers cI cJ cZ cS a_t a_kinds a_costs a_terms a_known v_size v_list v_told v_kinds v_terms k)) kk')) args s 0 0 A) (F0 m 56 ls [.int s1, .int s0]) := by
  intro v_known s0 s1 y2 y4 H locs ls h hl hf
  have hx := fx.1
  have hb := fx.2.1
  unfold fX0_comers_56 at hf
  refine lv_ior hx hb dX0_comers_56 ?_
  obtain ⟨u2, eu2, hf⟩ := nm_inv hf
  refine lv_eqi eu2 ?_
  refine lv_istore_n (lv' := [(3, .int u2), (0, .ref a_t), (2, .int y2), (4, .int y4)]) hx hb dX0_comers_57 rfl hl (by decide) rfl (fun ls hl => ?_)
  obtain ⟨u3, eu3, hf⟩ := nm_inv hf
  refine lv_iinc (v := u3) (lv' := [(4, .int u3), (3, .int u2), (0, .ref a_t), (2, .int y2)]) hx hb dX0_comers_58 hl (k := 3) rfl (by rw [eu3]; rfl) (by decide) rfl (fun ls hl => ?_)
  refine lv_goto (tgt := 21) hx hb dX0_comers_61 (by decide) ?_
  exact hag21 h (lv_sub hl [2, 3, 1, 0] rfl) hf
def fX0_comers_21 (v_size : Int32) (v_kinds : Nat → Int32) (v_terms : Nat → Int64) (ag21 : (Nat → Int32) → Int32 → Int32 → Int32 → Option (Int32 × (Nat → Int32))) (v_known : Nat → Int32) (y2 : Int32) (y3 : Int32) (y4 : Int32) : Option (Int32 × (Nat → Int32)) :=
  (if v_size ≤ y4 then (
  gIn y2 256 (
  fX0_comers_71 v_size v_kinds v_terms (upd v_known y2.toNatClampNeg y3) y2))
  else (
  gIn y4 8 (
  bR (fX0_wouldComeAs v_terms (v_kinds y4.toNatClampNeg) y4 y2) (fun r7 k7 =>
  (if r7 = 0 then (
  fX0_comers_56 v_size v_kinds v_terms ag21 v_known y3 0 y2 y4)
  else (
  fX0_comers_56 v_size v_kinds v_terms ag21 v_known y3 (jshl 1 y4) y2 y4))))))
set_option maxRecDepth 100000 in
set_option maxHeartbeats 4000000 in
theorem LX0_comers_21 {p : Program} {l : Launch} {e : Env} {s : State} {m : MethodId} {args : Array Value} {below : List Frame} {meth : Method} {c : Code} {D : va_G} {cI cJ cZ cS : ClassId} {tb : Nat} {A : Nat → Prop} {a_t a_kinds a_costs a_terms a_known : Nat} {v_size : Int32} {v_list : Int32} {v_told : Int32} {v_kinds : Nat → Int32} {v_terms : Nat → Int64} {rr : Int32} {kk' : (Nat → Int32)} (fx : q_Fx p s m args meth c cX0_comers 5 RX0 (some .int) D cI cJ cZ cS tb A) {ag21 : (Nat → Int32) → Int32 → Int32 → Int32 → Option (Int32 × (Nat → Int32))} (hag21 : ∀ {v_known : Nat → Int32} {y2 : Int32} {y3 : Int32} {y4 : Int32} {H : Heap} {locs : List Loc} {ls : Array Slot}, q_H D A s (wX0_comers cI cJ cZ cS a_t a_kinds a_costs a_terms a_known v_size v_list v_told v_kinds v_terms v_known) H locs → lv_has ls 5 [(0, .ref a_t), (2, .int y2), (3, .int y3), (4, .int y4)] → ag21 v_known y2 y3 y4 = some (rr, kk') → W p l e rX0_comers s m args below meth c H locs 0 0 (MQ below (q_Ri D rr A ((fun k : (Nat → Int32) => (wX0_comers cI cJ cZ cS a_t a_kinds a_costs a_terms a_known v_size v_list v_told v_kinds v_terms k)) kk')) args s 0 0 A) (F0 m 21 ls [])) : ∀ {v_known : Nat → Int32} {y2 : Int32} {y3 : Int32} {y4 : Int32} {H : Heap} {locs : List Loc} {ls : Array Slot}, q_H D A s (wX0_comers cI cJ cZ cS a_t a_kinds a_costs a_terms a_known v_size v_list v_told v_kinds v_terms v_known) H locs → lv_has ls 5 [(0, .ref a_t), (2, .int y2), (3, .int y3), (4, .int y4)] → fX0_comers_21 v_size v_kinds v_terms ag21 v_known y2 y3 y4 = some (rr, kk') → W p l e rX0_comers s m args below meth c H locs 0 0 (MQ below (q_Ri D rr A ((fun k : (Nat → Int32) => (wX0_comers cI cJ cZ cS a_t a_kinds a_costs a_terms a_known v_size v_list v_told v_kinds v_terms k)) kk')) args s 0 0 A) (F0 m 21 ls []) := by
  intro v_known y2 y3 y4 H locs ls h hl hf
  have hx := fx.1
  have hb := fx.2.1
  unfold fX0_comers_21 at hf
  refine lv_iload hx hb dX0_comers_21 (lv_at hl 3 rfl) ?_
  refine lv_aload_n hx hb dX0_comers_23 rfl (lv_at hl 0 rfl) ?_
  refine q_get (v := .int v_size) fx inX0 h 0 rfl rfl 0 (by decide) k_80 rfl dX0_comers_24 ?_
  refine lv_icmp_ge (tgt := 64) hx hb dX0_comers_27 (by decide) (fun c4 => ?_) (fun c4 => ?_)
  · have hf := it_t c4 hf
    refine lv_aload_n hx hb dX0_comers_64 rfl (lv_at hl 0 rfl) ?_
    refine q_get (v := .ref a_known) fx inX0 h 0 rfl rfl 6 (by decide) k_93 rfl dX0_comers_65 ?_
    refine lv_iload_n hx hb dX0_comers_68 rfl (lv_at hl 1 rfl) ?_
    refine lv_iload_n hx hb dX0_comers_69 rfl (lv_at hl 2 rfl) ?_
    obtain ⟨i5, hf⟩ := gIn_inv hf
    refine q_iast (ws' := (wX0_comers cI cJ cZ cS a_t a_kinds a_costs a_terms a_known v_size v_list v_told v_kinds v_terms (upd v_known y2.toNatClampNeg y3))) fx h 3 rfl i5 rfl dX0_comers_70 (fun H locs h => ?_)
    exact LX0_comers_71 fx h (lv_sub hl [0, 1] rfl) hf
  have hf := it_f c4 hf
  refine lv_iload_n hx hb dX0_comers_30 rfl (lv_at hl 2 rfl) ?_
  refine lv_aload_n hx hb dX0_comers_31 rfl (lv_at hl 0 rfl) ?_
  refine lv_aload_n hx hb dX0_comers_32 rfl (lv_at hl 0 rfl) ?_
  refine q_get (v := .ref a_kinds) fx inX0 h 0 rfl rfl 3 (by decide) k_88 rfl dX0_comers_33 ?_
  refine lv_iload hx hb dX0_comers_36 (lv_at hl 3 rfl) ?_
  obtain ⟨i6, hf⟩ := gIn_inv hf
  refine q_iald fx h 1 rfl i6 dX0_comers_38 ?_
  refine lv_iload hx hb dX0_comers_39 (lv_at hl 3 rfl) ?_
  refine lv_iload_n hx hb dX0_comers_41 rfl (lv_at hl 1 rfl) ?_
  obtain ⟨r7, k7, hg, hf⟩ := bR_inv hf
  refine q_ci (rest := [.int y3]) (ws' := (wX0_comers cI cJ cZ cS a_t a_kinds a_costs a_terms a_known v_size v_list v_told v_kinds v_terms v_known)) (w1 := (wX0_wouldComeAs cI cJ cZ cS a_t a_kinds a_costs a_terms a_known v_size v_list v_told v_terms)) fx h [0, 2] rfl rfl rfl rfl (q_runV fx h hl.1 [0, 2] rfl rfl (tX0_wouldComeAs l D cI cJ cZ cS tb a_t a_kinds a_costs a_terms a_known H.size v_size v_list v_told v_terms (v_kinds y4.toNatClampNeg) y4 y2 r7 k7 hg) mvX0_wouldComeAs k_228 ⟨rfl, rfl⟩ ⟨Nat.le_of_ble_eq_true rfl, Nat.le_of_ble_eq_true rfl⟩ rfl rfl rfl rfl (Nat.le_of_ble_eq_true rfl) dX0_comers_42 ⟨Nat.le_of_ble_eq_true rfl, Nat.le_of_ble_eq_true rfl⟩) (fun H locs h => ?_)
  refine lv_if_eq (tgt := 55) hx hb dX0_comers_45 (by decide) (fun c8 => ?_) (fun c8 => ?_)
  · have hf := it_t c8 hf
    refine lv_iconst (v := 0) hx hb dX0_comers_55 (by decide) ?_
    exact LX0_comers_56 fx hag21 h (lv_sub hl [0, 1, 3] rfl) hf
  have hf := it_f c8 hf
  refine lv_iconst (v := 1) hx hb dX0_comers_48 (by decide) ?_
  refine lv_iload hx hb dX0_comers_49 (lv_at hl 3 rfl) ?_
  refine lv_ishl hx hb dX0_comers_51 ?_
  refine lv_goto (tgt := 56) hx hb dX0_comers_52 (by decide) ?_
  exact LX0_comers_56 fx hag21 h (lv_sub hl [0, 1, 3] rfl) hf
set_option maxRecDepth 100000 in
theorem EX0_comers_21 {p : Program} {l : Launch} {e : Env} {s : State} {m : MethodId} {args : Array Value} {below : List Frame} {meth : Method} {c : Code} {D : va_G} {cI cJ cZ cS : ClassId} {tb : Nat} {A : Nat → Prop} {a_t a_kinds a_costs a_terms a_known : Nat} {v_size : Int32} {v_list : Int32} {v_told : Int32} {v_kinds : Nat → Int32} {v_terms : Nat → Int64} {rr : Int32} {kk' : (Nat → Int32)} (fx : q_Fx p s m args meth c cX0_comers 5 RX0 (some .int) D cI cJ cZ cS tb A) : ∀ (n : Nat), ∀ {v_known : Nat → Int32} {y2 : Int32} {y3 : Int32} {y4 : Int32} {H : Heap} {locs : List Loc} {ls : Array Slot}, q_H D A s (wX0_comers cI cJ cZ cS a_t a_kinds a_costs a_terms a_known v_size v_list v_told v_kinds v_terms v_known) H locs → lv_has ls 5 [(0, .ref a_t), (2, .int y2), (3, .int y3), (4, .int y4)] → ll4 (fX0_comers_21 v_size v_kinds v_terms) n v_known y2 y3 y4 = some (rr, kk') → W p l e rX0_comers s m args below meth c H locs 0 0 (MQ below (q_Ri D rr A ((fun k : (Nat → Int32) => (wX0_comers cI cJ cZ cS a_t a_kinds a_costs a_terms a_known v_size v_list v_told v_kinds v_terms k)) kk')) args s 0 0 A) (F0 m 21 ls []) := by
  intro n
  induction n with
  | zero => intro v_known y2 y3 y4 H locs ls h hl hf; exact (ll4_z hf).elim
  | succ n ih => intro v_known y2 y3 y4 H locs ls h hl hf; exact LX0_comers_21 fx ih h hl (ll4_s hf)
def fX0_comers (v_size : Int32) (v_kinds : Nat → Int32) (v_terms : Nat → Int64) (v_known : Nat → Int32) (x1 : Int32) : Option (Int32 × (Nat → Int32)) :=
  nm (x1 &&& 255) (fun u9 =>
  gIn u9 256 (
  (if (v_known u9.toNatClampNeg) = (-1) then (
  ll4 (fX0_comers_21 v_size v_kinds v_terms) qF v_known u9 0 0)
  else (
  fX0_comers_71 v_size v_kinds v_terms v_known u9))))
set_option maxRecDepth 100000 in
set_option maxHeartbeats 4000000 in
theorem tX0_comers (l : Launch) (D : va_G) (cI cJ cZ cS : ClassId) (tb : Nat) (a_t a_kinds a_costs a_terms a_known : Nat) (sz : Nat) (v_size : Int32) (v_list : Int32) (v_told : Int32) (v_kinds : Nat → Int32) (v_terms : Nat → Int64) (v_known : Nat → Int32) (x1 : Int32) (rr : Int32) (kk' : (Nat → Int32)) (hf : fX0_comers v_size v_kinds v_terms v_known x1 = some (rr, kk')) : Met l yX0_comers (Cond.code yX0_comers cX0_comers 5 (some .int) :: wA) rX0_comers (q_Pre D cI cJ cZ cS tb [.ref a_t, .int x1] sz (wX0_comers cI cJ cZ cS a_t a_kinds a_costs a_terms a_known v_size v_list v_told v_kinds v_terms v_known)) (q_Ri D rr (va_A (wX0_comers cI cJ cZ cS a_t a_kinds a_costs a_terms a_known v_size v_list v_told v_kinds v_terms v_known) sz) ((fun k : (Nat → Int32) => (wX0_comers cI cJ cZ cS a_t a_kinds a_costs a_terms a_known v_size v_list v_told v_kinds v_terms k)) kk')) 0 0 (va_A (wX0_comers cI cJ cZ cS a_t a_kinds a_costs a_terms a_known v_size v_list v_told v_kinds v_terms v_known) sz) := by
  refine q_enter (Qf := fun A => (q_Ri D rr A ((fun k : (Nat → Int32) => (wX0_comers cI cJ cZ cS a_t a_kinds a_costs a_terms a_known v_size v_list v_told v_kinds v_terms k)) kk'))) (by decide) rfl (Nat.le_of_ble_eq_true rfl) ?_
  intro p e s m below meth c A ls fx hname h hl
  have hx := fx.1
  have hb := fx.2.1
  have hl : lv_has ls 5 [(0, .ref a_t), (1, .int x1)] := hl
  generalize h9 : s.heap = H at h ⊢
  clear h9
  generalize h9 : ([] : List Loc) = locs at h ⊢
  clear h9
  unfold fX0_comers at hf
  refine lv_iload_n hx hb dX0_comers_0 rfl (lv_at hl 1 rfl) ?_
  refine lv_sipush (v := 255) hx hb dX0_comers_1 (by decide) ?_
  refine lv_iand hx hb dX0_comers_4 ?_
  obtain ⟨u9, eu9, hf⟩ := nm_inv hf
  refine lv_eqi eu9 ?_
  refine lv_istore_n (lv' := [(2, .int u9), (0, .ref a_t), (1, .int x1)]) hx hb dX0_comers_5 rfl hl (by decide) rfl (fun ls hl => ?_)
  refine lv_aload_n hx hb dX0_comers_6 rfl (lv_at hl 1 rfl) ?_
  refine q_get (v := .ref a_known) fx inX0 h 0 rfl rfl 6 (by decide) k_93 rfl dX0_comers_7 ?_
  refine lv_iload_n hx hb dX0_comers_10 rfl (lv_at hl 0 rfl) ?_
  obtain ⟨i10, hf⟩ := gIn_inv hf
  refine q_iald fx h 3 rfl i10 dX0_comers_11 ?_
  refine lv_iconst (v := -1) hx hb dX0_comers_12 (by decide) ?_
  refine lv_icmp_ne (tgt := 71) hx hb dX0_comers_13 (by decide) (fun c11 => ?_) (fun c11 => ?_)
  · have hf := it_f c11 hf
    exact LX0_comers_71 fx h (lv_sub hl [1, 0] rfl) hf
  have hf := it_t c11 hf
  refine lv_iconst (v := 0) hx hb dX0_comers_16 (by decide) ?_
  refine lv_istore_n (lv' := [(3, .int 0), (2, .int u9), (0, .ref a_t), (1, .int x1)]) hx hb dX0_comers_17 rfl hl (by decide) rfl (fun ls hl => ?_)
  refine lv_iconst (v := 0) hx hb dX0_comers_18 (by decide) ?_
  refine lv_istore (lv' := [(4, .int 0), (3, .int 0), (2, .int u9), (0, .ref a_t), (1, .int x1)]) hx hb dX0_comers_19 hl (by decide) rfl (fun ls hl => ?_)
  exact EX0_comers_21 fx qF h (lv_sub hl [3, 2, 1, 0] rfl) hf
/-! X4_oneIf -/
abbrev wX4_oneIf (cI cJ cZ cS : ClassId) : va_W := []
abbrev rX4_oneIf : Room := { frames := 0, cells := 0, slots := 0, locals := 0 }
def fX4_oneIf (x0 : Int32) : Option (Int32 × Unit) :=
  (if x0 = 0 then (
  some (0, ()))
  else (
  some (1, ())))
set_option maxRecDepth 100000 in
set_option maxHeartbeats 4000000 in
theorem tX4_oneIf (l : Launch) (D : va_G) (cI cJ cZ cS : ClassId) (tb : Nat) (sz : Nat) (x0 : Int32) (rr : Int32) (kk' : Unit) (hf : fX4_oneIf x0 = some (rr, kk')) : Met l yX4_oneIf (Cond.code yX4_oneIf cX4_oneIf 1 (some .int) :: wA) rX4_oneIf (q_Pre D cI cJ cZ cS tb [.int x0] sz (wX4_oneIf cI cJ cZ cS)) (q_Ri D rr (va_A (wX4_oneIf cI cJ cZ cS) sz) ((fun k : Unit => (wX4_oneIf cI cJ cZ cS)) kk')) 0 0 (va_A (wX4_oneIf cI cJ cZ cS) sz) := by
  refine q_enter (Qf := fun A => (q_Ri D rr A ((fun k : Unit => (wX4_oneIf cI cJ cZ cS)) kk'))) (by decide) rfl (Nat.le_of_ble_eq_true rfl) ?_
  intro p e s m below meth c A ls fx hname h hl
  have hx := fx.1
  have hb := fx.2.1
  have hl : lv_has ls 1 [(0, .int x0)] := hl
  generalize h9 : s.heap = H at h ⊢
  clear h9
  generalize h9 : ([] : List Loc) = locs at h ⊢
  clear h9
  unfold fX4_oneIf at hf
  refine lv_iload_n hx hb dX4_oneIf_0 rfl (lv_at hl 0 rfl) ?_
  refine lv_if_eq (tgt := 8) hx hb dX4_oneIf_1 (by decide) (fun c1 => ?_) (fun c1 => ?_)
  · have hf := it_t c1 hf
    refine lv_iconst (v := 0) hx hb dX4_oneIf_8 (by decide) ?_
    exact q_reti (fun k : Unit => (wX4_oneIf cI cJ cZ cS)) fx hf h dX4_oneIf_9
  have hf := it_f c1 hf
  refine lv_iconst (v := 1) hx hb dX4_oneIf_4 (by decide) ?_
  refine lv_goto (tgt := 9) hx hb dX4_oneIf_5 (by decide) ?_
  exact q_reti (fun k : Unit => (wX4_oneIf cI cJ cZ cS)) fx hf h dX4_oneIf_9
/-! X4_of -/
abbrev wX4_of (cI cJ cZ cS : ClassId) (a_t a_party a_party_kinds a_party_costs a_party_terms a_party_known a_kept a_tape a_telephone a_sheets a_findings : Nat) (v_isKept : Int32) (v_party_size : Int32) (v_party_list : Int32) (v_party_told : Int32) (v_party_kinds : Nat → Int32) (v_party_costs : Nat → Int32) (v_party_terms : Nat → Int64) (v_party_known : Nat → Int32) (v_findings : Nat → Int32) : va_W := [(a_t, .inr (4, [.ref a_party, .ref a_kept, .int v_isKept, .ref a_tape, .ref a_telephone, .ref a_sheets, .ref a_findings])), (a_party, .inr (0, [.int v_party_size, .int v_party_list, .int v_party_told, .ref a_party_kinds, .ref a_party_costs, .ref a_party_terms, .ref a_party_known])), (a_party_kinds, .inl (cI, 8, .inl v_party_kinds)), (a_party_costs, .inl (cI, 8, .inl v_party_costs)), (a_party_terms, .inl (cJ, 32, .inr (.inl v_party_terms))), (a_party_known, .inl (cI, 256, .inl v_party_known)), (a_findings, .inl (cI, 7, .inl v_findings))]
abbrev rX4_of : Room := { frames := 4, cells := 0, slots := 0, locals := 90 }
def fX4_of (v_party_size : Int32) (v_party_list : Int32) (v_party_kinds : Nat → Int32) (v_party_costs : Nat → Int32) (v_party_terms : Nat → Int64) (v_party_known : Nat → Int32) (v_findings : Nat → Int32) (x1 : Int32) (x2 : Int32) : Option (Int32 × (Nat → Int32) × (Nat → Int32)) :=
  bR (fX0_has v_party_size x1) (fun r1 k1 =>
  (if r1 = 0 then (
  bR (fX4_found v_findings (-1000000001)) (fun r17 k17 =>
  some (r17, (v_party_known, k17))))
  else (
  (if (x2).toInt < 0 ∨ 5 < (x2).toInt then (
  bR (fX4_found v_findings (-1000000001)) (fun r4 k4 =>
  some (r4, (v_party_known, k4))))
  else (if x2 = 0 then (
  gIn x1 8 (
  some (v_party_kinds x1.toNatClampNeg, (v_party_known, v_findings))))
  else (if x2 = 1 then (
  gIn x1 8 (
  some (v_party_costs x1.toNatClampNeg, (v_party_known, v_findings))))
  else (if x2 = 2 then (
  some ((jshr v_party_list x1) &&& 1, (v_party_known, v_findings)))
  else (if x2 = 3 then (
  bR (fX0_comers v_party_size v_party_kinds v_party_terms v_party_known v_party_list) (fun r11 k11 =>
  some ((jshr r11 x1) &&& 1, (k11, v_findings))))
  else (if x2 = 4 then (
  bR (fX0_termHolds v_party_terms x1 v_party_list) (fun r13 k13 =>
  bR (fX4_oneIf r13) (fun r14 k14 =>
  some (r14, (v_party_known, v_findings)))))
  else (if x2 = 5 then (
  bR (fX4_othersOn x1 v_party_list) (fun r16 k16 =>
  some (r16, (v_party_known, v_findings))))
  else none))))))))))
set_option maxRecDepth 100000 in
set_option maxHeartbeats 4000000 in
theorem tX4_of (l : Launch) (D : va_G) (cI cJ cZ cS : ClassId) (tb : Nat) (a_t a_party a_party_kinds a_party_costs a_party_terms a_party_known a_kept a_tape a_telephone a_sheets a_findings : Nat) (sz : Nat) (v_isKept : Int32) (v_party_size : Int32) (v_party_list : Int32) (v_party_told : Int32) (v_party_kinds : Nat → Int32) (v_party_costs : Nat → Int32) (v_party_terms : Nat → Int64) (v_party_known : Nat → Int32) (v_findings : Nat → Int32) (x1 : Int32) (x2 : Int32) (rr : Int32) (kk' : (Nat → Int32) × (Nat → Int32)) (hf : fX4_of v_party_size v_party_list v_party_kinds v_party_costs v_party_terms v_party_known v_findings x1 x2 = some (rr, kk')) : Met l yX4_of (Cond.code yX4_of cX4_of 3 (some .int) :: wA) rX4_of (q_Pre D cI cJ cZ cS tb [.ref a_t, .int x1, .int x2] sz (wX4_of cI cJ cZ cS a_t a_party a_party_kinds a_party_costs a_party_terms a_party_known a_kept a_tape a_telephone a_sheets a_findings v_isKept v_party_size v_party_list v_party_told v_party_kinds v_party_costs v_party_terms v_party_known v_findings)) (q_Ri D rr (va_A (wX4_of cI cJ cZ cS a_t a_party a_party_kinds a_party_costs a_party_terms a_party_known a_kept a_tape a_telephone a_sheets a_findings v_isKept v_party_size v_party_list v_party_told v_party_kinds v_party_costs v_party_terms v_party_known v_findings) sz) ((fun k : (Nat → Int32) × (Nat → Int32) => (wX4_of cI cJ cZ cS a_t a_party a_party_kinds a_party_costs a_party_terms a_party_known a_kept a_tape a_telephone a_sheets a_findings v_isKept v_party_size v_party_list v_party_told v_party_kinds v_party_costs v_party_terms k.1 k.2)) kk')) 0 0 (va_A (wX4_of cI cJ cZ cS a_t a_party a_party_kinds a_party_costs a_party_terms a_party_known a_kept a_tape a_telephone a_sheets a_findings v_isKept v_party_size v_party_list v_party_told v_party_kinds v_party_costs v_party_terms v_party_known v_findings) sz) := by
  refine q_enter (Qf := fun A => (q_Ri D rr A ((fun k : (Nat → Int32) × (Nat → Int32) => (wX4_of cI cJ cZ cS a_t a_party a_party_kinds a_party_costs a_party_terms a_party_known a_kept a_tape a_telephone a_sheets a_findings v_isKept v_party_size v_party_list v_party_told v_party_kinds v_party_costs v_party_terms k.1 k.2)) kk'))) (by decide) rfl (Nat.le_of_ble_eq_true rfl) ?_
  intro p e s m below meth c A ls fx hname h hl
  have hx := fx.1
  have hb := fx.2.1
  have hl : lv_has ls 3 [(0, .ref a_t), (1, .int x1), (2, .int x2)] := hl
  generalize h9 : s.heap = H at h ⊢
  clear h9
  generalize h9 : ([] : List Loc) = locs at h ⊢
  clear h9
  unfold fX4_of at hf
  refine lv_aload_n hx hb dX4_of_0 rfl (lv_at hl 0 rfl) ?_
  refine q_get (v := .ref a_party) fx inX4 h 0 rfl rfl 0 (by decide) k_174 rfl dX4_of_1 ?_
  refine lv_iload_n hx hb dX4_of_4 rfl (lv_at hl 1 rfl) ?_
  obtain ⟨r1, k1, hg, hf⟩ := bR_inv hf
  refine q_ci (rest := []) (ws' := (wX4_of cI cJ cZ cS a_t a_party a_party_kinds a_party_costs a_party_terms a_party_known a_kept a_tape a_telephone a_sheets a_findings v_isKept v_party_size v_party_list v_party_told v_party_kinds v_party_costs v_party_terms v_party_known v_findings)) (w1 := (wX0_has cI cJ cZ cS a_party a_party_kinds a_party_costs a_party_terms a_party_known v_party_size v_party_list v_party_told)) fx h [1] rfl rfl rfl rfl (q_runV fx h hl.1 [1] rfl rfl (tX0_has l D cI cJ cZ cS tb a_party a_party_kinds a_party_costs a_party_terms a_party_known H.size v_party_size v_party_list v_party_told x1 r1 k1 hg) mvX0_has k_220 ⟨rfl, rfl⟩ ⟨Nat.le_of_ble_eq_true rfl, Nat.le_of_ble_eq_true rfl⟩ rfl rfl rfl rfl (Nat.le_of_ble_eq_true rfl) dX4_of_5 ⟨Nat.le_of_ble_eq_true rfl, Nat.le_of_ble_eq_true rfl⟩) (fun H locs h => ?_)
  refine lv_if_ne (tgt := 18) hx hb dX4_of_8 (by decide) (fun c2 => ?_) (fun c2 => ?_)
  · have hf := it_f c2 hf
    refine lv_iload_n hx hb dX4_of_18 rfl (lv_at hl 2 rfl) ?_
    rcases it_or hf with ⟨c3, hf⟩ | ⟨c3, hf⟩
    · refine lv_tableOut (tgt := 138) hx hb dX4_of_19 c3 (by decide) ?_
      refine lv_aload_n hx hb dX4_of_138 rfl (lv_at hl 0 rfl) ?_
      refine q_ldc fx k_206 dX4_of_139 ?_
      obtain ⟨r4, k4, hg, hf⟩ := bR_inv hf
      refine q_ci (rest := []) (ws' := (wX4_of cI cJ cZ cS a_t a_party a_party_kinds a_party_costs a_party_terms a_party_known a_kept a_tape a_telephone a_sheets a_findings v_isKept v_party_size v_party_list v_party_told v_party_kinds v_party_costs v_party_terms v_party_known k4)) (w1 := (wX4_found cI cJ cZ cS a_t a_party a_kept a_tape a_telephone a_sheets a_findings v_isKept k4)) fx h [0, 6] rfl rfl rfl rfl (q_runV fx h hl.1 [0, 6] rfl rfl (tX4_found l D cI cJ cZ cS tb a_t a_party a_kept a_tape a_telephone a_sheets a_findings H.size v_isKept v_findings (-1000000001) r4 k4 hg) mvX4_found k_207 ⟨rfl, rfl⟩ ⟨Nat.le_of_ble_eq_true rfl, Nat.le_of_ble_eq_true rfl⟩ rfl rfl rfl rfl (Nat.le_of_ble_eq_true rfl) dX4_of_141 ⟨Nat.le_of_ble_eq_true rfl, Nat.le_of_ble_eq_true rfl⟩) (fun H locs h => ?_)
      exact q_reti (fun k : (Nat → Int32) × (Nat → Int32) => (wX4_of cI cJ cZ cS a_t a_party a_party_kinds a_party_costs a_party_terms a_party_known a_kept a_tape a_telephone a_sheets a_findings v_isKept v_party_size v_party_list v_party_told v_party_kinds v_party_costs v_party_terms k.1 k.2)) fx hf h dX4_of_144
    have c3 := not_or.mp c3
    rcases it_or hf with ⟨c5, hf⟩ | ⟨c5, hf⟩
    · refine lv_tableIn (off := 37) (tgt := 56) hx hb dX4_of_19 c3.1 c3.2 (by rw [c5]; rfl) (by decide) ?_
      refine lv_aload_n hx hb dX4_of_56 rfl (lv_at hl 0 rfl) ?_
      refine q_get (v := .ref a_party) fx inX4 h 0 rfl rfl 0 (by decide) k_174 rfl dX4_of_57 ?_
      refine q_getN (v := .ref a_party_kinds) fx inX0 h 1 rfl rfl 3 (by decide) nf_5 rfl dX4_of_60 ?_
      refine lv_iload_n hx hb dX4_of_63 rfl (lv_at hl 1 rfl) ?_
      obtain ⟨i6, hf⟩ := gIn_inv hf
      refine q_iald fx h 2 rfl i6 dX4_of_64 ?_
      exact q_reti (fun k : (Nat → Int32) × (Nat → Int32) => (wX4_of cI cJ cZ cS a_t a_party a_party_kinds a_party_costs a_party_terms a_party_known a_kept a_tape a_telephone a_sheets a_findings v_isKept v_party_size v_party_list v_party_told v_party_kinds v_party_costs v_party_terms k.1 k.2)) fx hf h dX4_of_65
    rcases it_or hf with ⟨c7, hf⟩ | ⟨c7, hf⟩
    · refine lv_tableIn (off := 47) (tgt := 66) hx hb dX4_of_19 c3.1 c3.2 (by rw [c7]; rfl) (by decide) ?_
      refine lv_aload_n hx hb dX4_of_66 rfl (lv_at hl 0 rfl) ?_
      refine q_get (v := .ref a_party) fx inX4 h 0 rfl rfl 0 (by decide) k_174 rfl dX4_of_67 ?_
      refine q_getN (v := .ref a_party_costs) fx inX0 h 1 rfl rfl 4 (by decide) nf_6 rfl dX4_of_70 ?_
      refine lv_iload_n hx hb dX4_of_73 rfl (lv_at hl 1 rfl) ?_
      obtain ⟨i8, hf⟩ := gIn_inv hf
      refine q_iald fx h 3 rfl i8 dX4_of_74 ?_
      exact q_reti (fun k : (Nat → Int32) × (Nat → Int32) => (wX4_of cI cJ cZ cS a_t a_party a_party_kinds a_party_costs a_party_terms a_party_known a_kept a_tape a_telephone a_sheets a_findings v_isKept v_party_size v_party_list v_party_told v_party_kinds v_party_costs v_party_terms k.1 k.2)) fx hf h dX4_of_75
    rcases it_or hf with ⟨c9, hf⟩ | ⟨c9, hf⟩
    · refine lv_tableIn (off := 57) (tgt := 76) hx hb dX4_of_19 c3.1 c3.2 (by rw [c9]; rfl) (by decide) ?_
      refine lv_aload_n hx hb dX4_of_76 rfl (lv_at hl 0 rfl) ?_
      refine q_get (v := .ref a_party) fx inX4 h 0 rfl rfl 0 (by decide) k_174 rfl dX4_of_77 ?_
      refine q_getN (v := .int v_party_list) fx inX0 h 1 rfl rfl 1 (by decide) nf_3 rfl dX4_of_80 ?_
      refine lv_iload_n hx hb dX4_of_83 rfl (lv_at hl 1 rfl) ?_
      refine lv_ishr hx hb dX4_of_84 ?_
      refine lv_iconst (v := 1) hx hb dX4_of_85 (by decide) ?_
      refine lv_iand hx hb dX4_of_86 ?_
      exact q_reti (fun k : (Nat → Int32) × (Nat → Int32) => (wX4_of cI cJ cZ cS a_t a_party a_party_kinds a_party_costs a_party_terms a_party_known a_kept a_tape a_telephone a_sheets a_findings v_isKept v_party_size v_party_list v_party_told v_party_kinds v_party_costs v_party_terms k.1 k.2)) fx hf h dX4_of_87
    rcases it_or hf with ⟨c10, hf⟩ | ⟨c10, hf⟩
    · refine lv_tableIn (off := 69) (tgt := 88) hx hb dX4_of_19 c3.1 c3.2 (by rw [c10]; rfl) (by decide) ?_
      refine lv_aload_n hx hb dX4_of_88 rfl (lv_at hl 0 rfl) ?_
      refine q_get (v := .ref a_party) fx inX4 h 0 rfl rfl 0 (by decide) k_174 rfl dX4_of_89 ?_
      refine lv_aload_n hx hb dX4_of_92 rfl (lv_at hl 0 rfl) ?_
      refine q_get (v := .ref a_party) fx inX4 h 0 rfl rfl 0 (by decide) k_174 rfl dX4_of_93 ?_
      refine q_getN (v := .int v_party_list) fx inX0 h 1 rfl rfl 1 (by decide) nf_3 rfl dX4_of_96 ?_
      obtain ⟨r11, k11, hg, hf⟩ := bR_inv hf
      refine q_ci (rest := []) (ws' := (wX4_of cI cJ cZ cS a_t a_party a_party_kinds a_party_costs a_party_terms a_party_known a_kept a_tape a_telephone a_sheets a_findings v_isKept v_party_size v_party_list v_party_told v_party_kinds v_party_costs v_party_terms k11 v_findings)) (w1 := (wX0_comers cI cJ cZ cS a_party a_party_kinds a_party_costs a_party_terms a_party_known v_party_size v_party_list v_party_told v_party_kinds v_party_terms k11)) fx h [1, 2, 4, 5] rfl rfl rfl rfl (q_runV fx h hl.1 [1, 2, 4, 5] rfl rfl (tX0_comers l D cI cJ cZ cS tb a_party a_party_kinds a_party_costs a_party_terms a_party_known H.size v_party_size v_party_list v_party_told v_party_kinds v_party_terms v_party_known v_party_list r11 k11 hg) mvX0_comers k_224 ⟨rfl, rfl⟩ ⟨Nat.le_of_ble_eq_true rfl, Nat.le_of_ble_eq_true rfl⟩ rfl rfl rfl rfl (Nat.le_of_ble_eq_true rfl) dX4_of_99 ⟨Nat.le_of_ble_eq_true rfl, Nat.le_of_ble_eq_true rfl⟩) (fun H locs h => ?_)
      refine lv_iload_n hx hb dX4_of_102 rfl (lv_at hl 1 rfl) ?_
      refine lv_ishr hx hb dX4_of_103 ?_
      refine lv_iconst (v := 1) hx hb dX4_of_104 (by decide) ?_
      refine lv_iand hx hb dX4_of_105 ?_
      exact q_reti (fun k : (Nat → Int32) × (Nat → Int32) => (wX4_of cI cJ cZ cS a_t a_party a_party_kinds a_party_costs a_party_terms a_party_known a_kept a_tape a_telephone a_sheets a_findings v_isKept v_party_size v_party_list v_party_told v_party_kinds v_party_costs v_party_terms k.1 k.2)) fx hf h dX4_of_106
    rcases it_or hf with ⟨c12, hf⟩ | ⟨c12, hf⟩
    · refine lv_tableIn (off := 88) (tgt := 107) hx hb dX4_of_19 c3.1 c3.2 (by rw [c12]; rfl) (by decide) ?_
      refine lv_aload_n hx hb dX4_of_107 rfl (lv_at hl 0 rfl) ?_
      refine q_get (v := .ref a_party) fx inX4 h 0 rfl rfl 0 (by decide) k_174 rfl dX4_of_108 ?_
      refine lv_iload_n hx hb dX4_of_111 rfl (lv_at hl 1 rfl) ?_
      refine lv_aload_n hx hb dX4_of_112 rfl (lv_at hl 0 rfl) ?_
      refine q_get (v := .ref a_party) fx inX4 h 0 rfl rfl 0 (by decide) k_174 rfl dX4_of_113 ?_
      refine q_getN (v := .int v_party_list) fx inX0 h 1 rfl rfl 1 (by decide) nf_3 rfl dX4_of_116 ?_
      obtain ⟨r13, k13, hg, hf⟩ := bR_inv hf
      refine q_ci (rest := []) (ws' := (wX4_of cI cJ cZ cS a_t a_party a_party_kinds a_party_costs a_party_terms a_party_known a_kept a_tape a_telephone a_sheets a_findings v_isKept v_party_size v_party_list v_party_told v_party_kinds v_party_costs v_party_terms v_party_known v_findings)) (w1 := (wX0_termHolds cI cJ cZ cS a_party a_party_kinds a_party_costs a_party_terms a_party_known v_party_size v_party_list v_party_told v_party_terms)) fx h [1, 4] rfl rfl rfl rfl (q_runV fx h hl.1 [1, 4] rfl rfl (tX0_termHolds l D cI cJ cZ cS tb a_party a_party_kinds a_party_costs a_party_terms a_party_known H.size v_party_size v_party_list v_party_told v_party_terms x1 v_party_list r13 k13 hg) mvX0_termHolds k_245 ⟨rfl, rfl⟩ ⟨Nat.le_of_ble_eq_true rfl, Nat.le_of_ble_eq_true rfl⟩ rfl rfl rfl rfl (Nat.le_of_ble_eq_true rfl) dX4_of_119 ⟨Nat.le_of_ble_eq_true rfl, Nat.le_of_ble_eq_true rfl⟩) (fun H locs h => ?_)
      obtain ⟨r14, k14, hg, hf⟩ := bR_inv hf
      refine q_ci (rest := []) (ws' := (wX4_of cI cJ cZ cS a_t a_party a_party_kinds a_party_costs a_party_terms a_party_known a_kept a_tape a_telephone a_sheets a_findings v_isKept v_party_size v_party_list v_party_told v_party_kinds v_party_costs v_party_terms v_party_known v_findings)) (w1 := (wX4_oneIf cI cJ cZ cS)) fx h [] rfl rfl rfl rfl (q_runS fx h hl.1 [] rfl rfl (tX4_oneIf l D cI cJ cZ cS tb H.size r13 r14 k14 hg) msX4_oneIf k_246 ⟨rfl, rfl⟩ ⟨Nat.le_of_ble_eq_true rfl, Nat.le_of_ble_eq_true rfl⟩ rfl rfl (Nat.le_of_ble_eq_true rfl) dX4_of_122 ⟨Nat.le_of_ble_eq_true rfl, Nat.le_of_ble_eq_true rfl⟩) (fun H locs h => ?_)
      exact q_reti (fun k : (Nat → Int32) × (Nat → Int32) => (wX4_of cI cJ cZ cS a_t a_party a_party_kinds a_party_costs a_party_terms a_party_known a_kept a_tape a_telephone a_sheets a_findings v_isKept v_party_size v_party_list v_party_told v_party_kinds v_party_costs v_party_terms k.1 k.2)) fx hf h dX4_of_125
    rcases it_or hf with ⟨c15, hf⟩ | ⟨c15, hf⟩
    · refine lv_tableIn (off := 107) (tgt := 126) hx hb dX4_of_19 c3.1 c3.2 (by rw [c15]; rfl) (by decide) ?_
      refine lv_iload_n hx hb dX4_of_126 rfl (lv_at hl 1 rfl) ?_
      refine lv_aload_n hx hb dX4_of_127 rfl (lv_at hl 0 rfl) ?_
      refine q_get (v := .ref a_party) fx inX4 h 0 rfl rfl 0 (by decide) k_174 rfl dX4_of_128 ?_
      refine q_getN (v := .int v_party_list) fx inX0 h 1 rfl rfl 1 (by decide) nf_3 rfl dX4_of_131 ?_
      obtain ⟨r16, k16, hg, hf⟩ := bR_inv hf
      refine q_ci (rest := []) (ws' := (wX4_of cI cJ cZ cS a_t a_party a_party_kinds a_party_costs a_party_terms a_party_known a_kept a_tape a_telephone a_sheets a_findings v_isKept v_party_size v_party_list v_party_told v_party_kinds v_party_costs v_party_terms v_party_known v_findings)) (w1 := (wX4_othersOn cI cJ cZ cS)) fx h [] rfl rfl rfl rfl (q_runS fx h hl.1 [] rfl rfl (tX4_othersOn l D cI cJ cZ cS tb H.size x1 v_party_list r16 k16 hg) msX4_othersOn k_249 ⟨rfl, rfl⟩ ⟨Nat.le_of_ble_eq_true rfl, Nat.le_of_ble_eq_true rfl⟩ rfl rfl (Nat.le_of_ble_eq_true rfl) dX4_of_134 ⟨Nat.le_of_ble_eq_true rfl, Nat.le_of_ble_eq_true rfl⟩) (fun H locs h => ?_)
      exact q_reti (fun k : (Nat → Int32) × (Nat → Int32) => (wX4_of cI cJ cZ cS a_t a_party a_party_kinds a_party_costs a_party_terms a_party_known a_kept a_tape a_telephone a_sheets a_findings v_isKept v_party_size v_party_list v_party_told v_party_kinds v_party_costs v_party_terms k.1 k.2)) fx hf h dX4_of_137
    cases hf
  have hf := it_t c2 hf
  refine lv_aload_n hx hb dX4_of_11 rfl (lv_at hl 0 rfl) ?_
  refine q_ldc fx k_206 dX4_of_12 ?_
  obtain ⟨r17, k17, hg, hf⟩ := bR_inv hf
  refine q_ci (rest := []) (ws' := (wX4_of cI cJ cZ cS a_t a_party a_party_kinds a_party_costs a_party_terms a_party_known a_kept a_tape a_telephone a_sheets a_findings v_isKept v_party_size v_party_list v_party_told v_party_kinds v_party_costs v_party_terms v_party_known k17)) (w1 := (wX4_found cI cJ cZ cS a_t a_party a_kept a_tape a_telephone a_sheets a_findings v_isKept k17)) fx h [0, 6] rfl rfl rfl rfl (q_runV fx h hl.1 [0, 6] rfl rfl (tX4_found l D cI cJ cZ cS tb a_t a_party a_kept a_tape a_telephone a_sheets a_findings H.size v_isKept v_findings (-1000000001) r17 k17 hg) mvX4_found k_207 ⟨rfl, rfl⟩ ⟨Nat.le_of_ble_eq_true rfl, Nat.le_of_ble_eq_true rfl⟩ rfl rfl rfl rfl (Nat.le_of_ble_eq_true rfl) dX4_of_14 ⟨Nat.le_of_ble_eq_true rfl, Nat.le_of_ble_eq_true rfl⟩) (fun H locs h => ?_)
  exact q_reti (fun k : (Nat → Int32) × (Nat → Int32) => (wX4_of cI cJ cZ cS a_t a_party a_party_kinds a_party_costs a_party_terms a_party_known a_kept a_tape a_telephone a_sheets a_findings v_isKept v_party_size v_party_list v_party_told v_party_kinds v_party_costs v_party_terms k.1 k.2)) fx hf h dX4_of_17
/-! X4_cost -/
abbrev wX4_cost (cI cJ cZ cS : ClassId) (a_t a_party a_party_kinds a_party_costs a_party_terms a_party_known a_kept a_tape a_telephone a_sheets a_findings : Nat) (v_isKept : Int32) (v_party_size : Int32) (v_party_list : Int32) (v_party_told : Int32) (v_party_costs : Nat → Int32) (v_findings : Nat → Int32) : va_W := [(a_t, .inr (4, [.ref a_party, .ref a_kept, .int v_isKept, .ref a_tape, .ref a_telephone, .ref a_sheets, .ref a_findings])), (a_party, .inr (0, [.int v_party_size, .int v_party_list, .int v_party_told, .ref a_party_kinds, .ref a_party_costs, .ref a_party_terms, .ref a_party_known])), (a_party_costs, .inl (cI, 8, .inl v_party_costs)), (a_findings, .inl (cI, 7, .inl v_findings))]
abbrev rX4_cost : Room := { frames := 1, cells := 0, slots := 0, locals := 22 }
def fX4_cost_18 (v_party_size : Int32) (v_party_costs : Nat → Int32) (v_findings : Nat → Int32) : Option (Int32 × (Nat → Int32) × (Nat → Int32)) :=
  bR (fX4_found v_findings (-1000000001)) (fun r1 k1 =>
  some (r1, (v_party_costs, k1)))
set_option maxRecDepth 100000 in
set_option maxHeartbeats 4000000 in
theorem LX4_cost_18 {p : Program} {l : Launch} {e : Env} {s : State} {m : MethodId} {args : Array Value} {below : List Frame} {meth : Method} {c : Code} {D : va_G} {cI cJ cZ cS : ClassId} {tb : Nat} {A : Nat → Prop} {a_t a_party a_party_kinds a_party_costs a_party_terms a_party_known a_kept a_tape a_telephone a_sheets a_findings : Nat} {v_isKept : Int32} {v_party_size : Int32} {v_party_list : Int32} {v_party_told : Int32} {rr : Int32} {kk' : (Nat → Int32) × (Nat → Int32)} (fx : q_Fx p s m args meth c cX4_cost 4 RX4 (some .int) D cI cJ cZ cS tb A) : ∀ {v_party_costs : Nat → Int32} {v_findings : Nat → Int32} {H : Heap} {locs : List Loc} {ls : Array Slot}, q_H D A s (wX4_cost cI cJ cZ cS a_t a_party a_party_kinds a_party_costs a_party_terms a_party_known a_kept a_tape a_telephone a_sheets a_findings v_isKept v_party_size v_party_list v_party_told v_party_costs v_findings) H locs → lv_has ls 4 [(0, .ref a_t)] → fX4_cost_18 v_party_size v_party_costs v_findings = some (rr, kk') → W p l e rX4_cost s m args below meth c H locs 0 0 (MQ below (q_Ri D rr A ((fun k : (Nat → Int32) × (Nat → Int32) => (wX4_cost cI cJ cZ cS a_t a_party a_party_kinds a_party_costs a_party_terms a_party_known a_kept a_tape a_telephone a_sheets a_findings v_isKept v_party_size v_party_list v_party_told k.1 k.2)) kk')) args s 0 0 A) (F0 m 18 ls []) := by
  intro v_party_costs v_findings H locs ls h hl hf
  have hx := fx.1
  have hb := fx.2.1
  unfold fX4_cost_18 at hf
  refine lv_aload_n hx hb dX4_cost_18 rfl (lv_at hl 0 rfl) ?_
  refine q_ldc fx k_206 dX4_cost_19 ?_
  obtain ⟨r1, k1, hg, hf⟩ := bR_inv hf
  refine q_ci (rest := []) (ws' := (wX4_cost cI cJ cZ cS a_t a_party a_party_kinds a_party_costs a_party_terms a_party_known a_kept a_tape a_telephone a_sheets a_findings v_isKept v_party_size v_party_list v_party_told v_party_costs k1)) (w1 := (wX4_found cI cJ cZ cS a_t a_party a_kept a_tape a_telephone a_sheets a_findings v_isKept k1)) fx h [0, 3] rfl rfl rfl rfl (q_runV fx h hl.1 [0, 3] rfl rfl (tX4_found l D cI cJ cZ cS tb a_t a_party a_kept a_tape a_telephone a_sheets a_findings H.size v_isKept v_findings (-1000000001) r1 k1 hg) mvX4_found k_207 ⟨rfl, rfl⟩ ⟨Nat.le_of_ble_eq_true rfl, Nat.le_of_ble_eq_true rfl⟩ rfl rfl rfl rfl (Nat.le_of_ble_eq_true rfl) dX4_cost_21 ⟨Nat.le_of_ble_eq_true rfl, Nat.le_of_ble_eq_true rfl⟩) (fun H locs h => ?_)
  exact q_reti (fun k : (Nat → Int32) × (Nat → Int32) => (wX4_cost cI cJ cZ cS a_t a_party a_party_kinds a_party_costs a_party_terms a_party_known a_kept a_tape a_telephone a_sheets a_findings v_isKept v_party_size v_party_list v_party_told k.1 k.2)) fx hf h dX4_cost_24
def fX4_cost (v_party_size : Int32) (v_party_costs : Nat → Int32) (v_findings : Nat → Int32) (x1 : Int32) (x2 : Int32) : Option (Int32 × (Nat → Int32) × (Nat → Int32)) :=
  bR (fX0_has v_party_size x1) (fun r2 k2 =>
  (if r2 = 0 then (
  fX4_cost_18 v_party_size v_party_costs v_findings)
  else (
  bR (fX4_isCost x2) (fun r4 k4 =>
  (if r4 = 0 then (
  fX4_cost_18 v_party_size v_party_costs v_findings)
  else (
  gIn x1 8 (
  nm (v_party_costs x1.toNatClampNeg) (fun u7 =>
  gIn x1 8 (
  some (u7, ((upd v_party_costs x1.toNatClampNeg x2), v_findings)))))))))))
set_option maxRecDepth 100000 in
set_option maxHeartbeats 4000000 in
theorem tX4_cost (l : Launch) (D : va_G) (cI cJ cZ cS : ClassId) (tb : Nat) (a_t a_party a_party_kinds a_party_costs a_party_terms a_party_known a_kept a_tape a_telephone a_sheets a_findings : Nat) (sz : Nat) (v_isKept : Int32) (v_party_size : Int32) (v_party_list : Int32) (v_party_told : Int32) (v_party_costs : Nat → Int32) (v_findings : Nat → Int32) (x1 : Int32) (x2 : Int32) (rr : Int32) (kk' : (Nat → Int32) × (Nat → Int32)) (hf : fX4_cost v_party_size v_party_costs v_findings x1 x2 = some (rr, kk')) : Met l yX4_cost (Cond.code yX4_cost cX4_cost 4 (some .int) :: wA) rX4_cost (q_Pre D cI cJ cZ cS tb [.ref a_t, .int x1, .int x2] sz (wX4_cost cI cJ cZ cS a_t a_party a_party_kinds a_party_costs a_party_terms a_party_known a_kept a_tape a_telephone a_sheets a_findings v_isKept v_party_size v_party_list v_party_told v_party_costs v_findings)) (q_Ri D rr (va_A (wX4_cost cI cJ cZ cS a_t a_party a_party_kinds a_party_costs a_party_terms a_party_known a_kept a_tape a_telephone a_sheets a_findings v_isKept v_party_size v_party_list v_party_told v_party_costs v_findings) sz) ((fun k : (Nat → Int32) × (Nat → Int32) => (wX4_cost cI cJ cZ cS a_t a_party a_party_kinds a_party_costs a_party_terms a_party_known a_kept a_tape a_telephone a_sheets a_findings v_isKept v_party_size v_party_list v_party_told k.1 k.2)) kk')) 0 0 (va_A (wX4_cost cI cJ cZ cS a_t a_party a_party_kinds a_party_costs a_party_terms a_party_known a_kept a_tape a_telephone a_sheets a_findings v_isKept v_party_size v_party_list v_party_told v_party_costs v_findings) sz) := by
  refine q_enter (Qf := fun A => (q_Ri D rr A ((fun k : (Nat → Int32) × (Nat → Int32) => (wX4_cost cI cJ cZ cS a_t a_party a_party_kinds a_party_costs a_party_terms a_party_known a_kept a_tape a_telephone a_sheets a_findings v_isKept v_party_size v_party_list v_party_told k.1 k.2)) kk'))) (by decide) rfl (Nat.le_of_ble_eq_true rfl) ?_
  intro p e s m below meth c A ls fx hname h hl
  have hx := fx.1
  have hb := fx.2.1
  have hl : lv_has ls 4 [(0, .ref a_t), (1, .int x1), (2, .int x2)] := hl
  generalize h9 : s.heap = H at h ⊢
  clear h9
  generalize h9 : ([] : List Loc) = locs at h ⊢
  clear h9
  unfold fX4_cost at hf
  refine lv_aload_n hx hb dX4_cost_0 rfl (lv_at hl 0 rfl) ?_
  refine q_get (v := .ref a_party) fx inX4 h 0 rfl rfl 0 (by decide) k_174 rfl dX4_cost_1 ?_
  refine lv_iload_n hx hb dX4_cost_4 rfl (lv_at hl 1 rfl) ?_
  obtain ⟨r2, k2, hg, hf⟩ := bR_inv hf
  refine q_ci (rest := []) (ws' := (wX4_cost cI cJ cZ cS a_t a_party a_party_kinds a_party_costs a_party_terms a_party_known a_kept a_tape a_telephone a_sheets a_findings v_isKept v_party_size v_party_list v_party_told v_party_costs v_findings)) (w1 := (wX0_has cI cJ cZ cS a_party a_party_kinds a_party_costs a_party_terms a_party_known v_party_size v_party_list v_party_told)) fx h [1] rfl rfl rfl rfl (q_runV fx h hl.1 [1] rfl rfl (tX0_has l D cI cJ cZ cS tb a_party a_party_kinds a_party_costs a_party_terms a_party_known H.size v_party_size v_party_list v_party_told x1 r2 k2 hg) mvX0_has k_220 ⟨rfl, rfl⟩ ⟨Nat.le_of_ble_eq_true rfl, Nat.le_of_ble_eq_true rfl⟩ rfl rfl rfl rfl (Nat.le_of_ble_eq_true rfl) dX4_cost_5 ⟨Nat.le_of_ble_eq_true rfl, Nat.le_of_ble_eq_true rfl⟩) (fun H locs h => ?_)
  refine lv_if_eq (tgt := 18) hx hb dX4_cost_8 (by decide) (fun c3 => ?_) (fun c3 => ?_)
  · have hf := it_t c3 hf
    exact LX4_cost_18 fx h (lv_sub hl [0] rfl) hf
  have hf := it_f c3 hf
  refine lv_iload_n hx hb dX4_cost_11 rfl (lv_at hl 2 rfl) ?_
  obtain ⟨r4, k4, hg, hf⟩ := bR_inv hf
  refine q_ci (rest := []) (ws' := (wX4_cost cI cJ cZ cS a_t a_party a_party_kinds a_party_costs a_party_terms a_party_known a_kept a_tape a_telephone a_sheets a_findings v_isKept v_party_size v_party_list v_party_told v_party_costs v_findings)) (w1 := (wX4_isCost cI cJ cZ cS)) fx h [] rfl rfl rfl rfl (q_runS fx h hl.1 [] rfl rfl (tX4_isCost l D cI cJ cZ cS tb H.size x2 r4 k4 hg) msX4_isCost k_203 ⟨rfl, rfl⟩ ⟨Nat.le_of_ble_eq_true rfl, Nat.le_of_ble_eq_true rfl⟩ rfl rfl (Nat.le_of_ble_eq_true rfl) dX4_cost_12 ⟨Nat.le_of_ble_eq_true rfl, Nat.le_of_ble_eq_true rfl⟩) (fun H locs h => ?_)
  refine lv_if_ne (tgt := 25) hx hb dX4_cost_15 (by decide) (fun c5 => ?_) (fun c5 => ?_)
  · have hf := it_f c5 hf
    refine lv_aload_n hx hb dX4_cost_25 rfl (lv_at hl 0 rfl) ?_
    refine q_get (v := .ref a_party) fx inX4 h 0 rfl rfl 0 (by decide) k_174 rfl dX4_cost_26 ?_
    refine q_getN (v := .ref a_party_costs) fx inX0 h 1 rfl rfl 4 (by decide) nf_6 rfl dX4_cost_29 ?_
    refine lv_iload_n hx hb dX4_cost_32 rfl (lv_at hl 1 rfl) ?_
    obtain ⟨i6, hf⟩ := gIn_inv hf
    refine q_iald fx h 2 rfl i6 dX4_cost_33 ?_
    obtain ⟨u7, eu7, hf⟩ := nm_inv hf
    refine lv_eqi eu7 ?_
    refine lv_istore_n (lv' := [(3, .int u7), (0, .ref a_t), (1, .int x1), (2, .int x2)]) hx hb dX4_cost_34 rfl hl (by decide) rfl (fun ls hl => ?_)
    refine lv_aload_n hx hb dX4_cost_35 rfl (lv_at hl 1 rfl) ?_
    refine q_get (v := .ref a_party) fx inX4 h 0 rfl rfl 0 (by decide) k_174 rfl dX4_cost_36 ?_
    refine q_getN (v := .ref a_party_costs) fx inX0 h 1 rfl rfl 4 (by decide) nf_6 rfl dX4_cost_39 ?_
    refine lv_iload_n hx hb dX4_cost_42 rfl (lv_at hl 2 rfl) ?_
    refine lv_iload_n hx hb dX4_cost_43 rfl (lv_at hl 3 rfl) ?_
    obtain ⟨i8, hf⟩ := gIn_inv hf
    refine q_iast (ws' := (wX4_cost cI cJ cZ cS a_t a_party a_party_kinds a_party_costs a_party_terms a_party_known a_kept a_tape a_telephone a_sheets a_findings v_isKept v_party_size v_party_list v_party_told (upd v_party_costs x1.toNatClampNeg x2) v_findings)) fx h 2 rfl i8 rfl dX4_cost_44 (fun H locs h => ?_)
    refine lv_iload_n hx hb dX4_cost_45 rfl (lv_at hl 0 rfl) ?_
    exact q_reti (fun k : (Nat → Int32) × (Nat → Int32) => (wX4_cost cI cJ cZ cS a_t a_party a_party_kinds a_party_costs a_party_terms a_party_known a_kept a_tape a_telephone a_sheets a_findings v_isKept v_party_size v_party_list v_party_told k.1 k.2)) fx hf h dX4_cost_46
  have hf := it_t c5 hf
  exact LX4_cost_18 fx h (lv_sub hl [0] rfl) hf
/-! X0_turnInto -/
abbrev wX0_turnInto (cI cJ cZ cS : ClassId) (a_t a_kinds a_costs a_terms a_known : Nat) (v_size : Int32) (v_list : Int32) (v_told : Int32) (v_kinds : Nat → Int32) (v_known : Nat → Int32) : va_W := [(a_t, .inr (0, [.int v_size, .int v_list, .int v_told, .ref a_kinds, .ref a_costs, .ref a_terms, .ref a_known])), (a_kinds, .inl (cI, 8, .inl v_kinds)), (a_known, .inl (cI, 256, .inl v_known))]
abbrev rX0_turnInto : Room := { frames := 1, cells := 0, slots := 0, locals := 23 }
def fX0_turnInto (v_kinds : Nat → Int32) (v_known : Nat → Int32) (x1 : Int32) (x2 : Int32) : Option (Int32 × (Nat → Int32) × (Nat → Int32)) :=
  gIn x1 8 (
  nm (v_kinds x1.toNatClampNeg) (fun u2 =>
  gIn x1 8 (
  bV (fJ7_fill_53178 256 v_known (-1)) (fun k4 =>
  some (u2, ((upd v_kinds x1.toNatClampNeg x2), k4))))))
set_option maxRecDepth 100000 in
set_option maxHeartbeats 4000000 in
theorem tX0_turnInto (l : Launch) (D : va_G) (cI cJ cZ cS : ClassId) (tb : Nat) (a_t a_kinds a_costs a_terms a_known : Nat) (sz : Nat) (v_size : Int32) (v_list : Int32) (v_told : Int32) (v_kinds : Nat → Int32) (v_known : Nat → Int32) (x1 : Int32) (x2 : Int32) (rr : Int32) (kk' : (Nat → Int32) × (Nat → Int32)) (hf : fX0_turnInto v_kinds v_known x1 x2 = some (rr, kk')) : Met l yX0_turnInto (Cond.code yX0_turnInto cX0_turnInto 4 (some .int) :: wA) rX0_turnInto (q_Pre D cI cJ cZ cS tb [.ref a_t, .int x1, .int x2] sz (wX0_turnInto cI cJ cZ cS a_t a_kinds a_costs a_terms a_known v_size v_list v_told v_kinds v_known)) (q_Ri D rr (va_A (wX0_turnInto cI cJ cZ cS a_t a_kinds a_costs a_terms a_known v_size v_list v_told v_kinds v_known) sz) ((fun k : (Nat → Int32) × (Nat → Int32) => (wX0_turnInto cI cJ cZ cS a_t a_kinds a_costs a_terms a_known v_size v_list v_told k.1 k.2)) kk')) 0 0 (va_A (wX0_turnInto cI cJ cZ cS a_t a_kinds a_costs a_terms a_known v_size v_list v_told v_kinds v_known) sz) := by
  refine q_enter (Qf := fun A => (q_Ri D rr A ((fun k : (Nat → Int32) × (Nat → Int32) => (wX0_turnInto cI cJ cZ cS a_t a_kinds a_costs a_terms a_known v_size v_list v_told k.1 k.2)) kk'))) (by decide) rfl (Nat.le_of_ble_eq_true rfl) ?_
  intro p e s m below meth c A ls fx hname h hl
  have hx := fx.1
  have hb := fx.2.1
  have hl : lv_has ls 4 [(0, .ref a_t), (1, .int x1), (2, .int x2)] := hl
  generalize h9 : s.heap = H at h ⊢
  clear h9
  generalize h9 : ([] : List Loc) = locs at h ⊢
  clear h9
  unfold fX0_turnInto at hf
  refine lv_aload_n hx hb dX0_turnInto_0 rfl (lv_at hl 0 rfl) ?_
  refine q_get (v := .ref a_kinds) fx inX0 h 0 rfl rfl 3 (by decide) k_88 rfl dX0_turnInto_1 ?_
  refine lv_iload_n hx hb dX0_turnInto_4 rfl (lv_at hl 1 rfl) ?_
  obtain ⟨i1, hf⟩ := gIn_inv hf
  refine q_iald fx h 1 rfl i1 dX0_turnInto_5 ?_
  obtain ⟨u2, eu2, hf⟩ := nm_inv hf
  refine lv_eqi eu2 ?_
  refine lv_istore_n (lv' := [(3, .int u2), (0, .ref a_t), (1, .int x1), (2, .int x2)]) hx hb dX0_turnInto_6 rfl hl (by decide) rfl (fun ls hl => ?_)
  refine lv_aload_n hx hb dX0_turnInto_7 rfl (lv_at hl 1 rfl) ?_
  refine q_get (v := .ref a_kinds) fx inX0 h 0 rfl rfl 3 (by decide) k_88 rfl dX0_turnInto_8 ?_
  refine lv_iload_n hx hb dX0_turnInto_11 rfl (lv_at hl 2 rfl) ?_
  refine lv_iload_n hx hb dX0_turnInto_12 rfl (lv_at hl 3 rfl) ?_
  obtain ⟨i3, hf⟩ := gIn_inv hf
  refine q_iast (ws' := (wX0_turnInto cI cJ cZ cS a_t a_kinds a_costs a_terms a_known v_size v_list v_told (upd v_kinds x1.toNatClampNeg x2) v_known)) fx h 1 rfl i3 rfl dX0_turnInto_13 (fun H locs h => ?_)
  refine lv_aload_n hx hb dX0_turnInto_14 rfl (lv_at hl 1 rfl) ?_
  refine q_get (v := .ref a_known) fx inX0 h 0 rfl rfl 6 (by decide) k_93 rfl dX0_turnInto_15 ?_
  refine lv_iconst (v := -1) hx hb dX0_turnInto_18 (by decide) ?_
  obtain ⟨k4, hg, hf⟩ := bV_inv hf
  refine q_cv (rest := []) (ws' := (wX0_turnInto cI cJ cZ cS a_t a_kinds a_costs a_terms a_known v_size v_list v_told (upd v_kinds x1.toNatClampNeg x2) k4)) (w1 := (wJ7_fill_53178 cI cJ cZ cS 256 a_known k4)) fx h [2] rfl rfl rfl rfl (q_runS fx h hl.1 [2] rfl rfl (tJ7_fill_53178 l D cI cJ cZ cS tb 256 a_known H.size v_known (-1) k4 hg) msJ7_fill_53178 k_77 ⟨rfl, rfl⟩ ⟨Nat.le_of_ble_eq_true rfl, Nat.le_of_ble_eq_true rfl⟩ rfl rfl (Nat.le_of_ble_eq_true rfl) dX0_turnInto_19 ⟨Nat.le_of_ble_eq_true rfl, Nat.le_of_ble_eq_true rfl⟩) (fun H locs h => ?_)
  refine lv_iload_n hx hb dX0_turnInto_22 rfl (lv_at hl 0 rfl) ?_
  exact q_reti (fun k : (Nat → Int32) × (Nat → Int32) => (wX0_turnInto cI cJ cZ cS a_t a_kinds a_costs a_terms a_known v_size v_list v_told k.1 k.2)) fx hf h dX0_turnInto_23
/-! X4_turn -/
abbrev wX4_turn (cI cJ cZ cS : ClassId) (a_t a_party a_party_kinds a_party_costs a_party_terms a_party_known a_kept a_tape a_telephone a_sheets a_findings : Nat) (v_isKept : Int32) (v_party_size : Int32) (v_party_list : Int32) (v_party_told : Int32) (v_party_kinds : Nat → Int32) (v_party_known : Nat → Int32) (v_findings : Nat → Int32) : va_W := [(a_t, .inr (4, [.ref a_party, .ref a_kept, .int v_isKept, .ref a_tape, .ref a_telephone, .ref a_sheets, .ref a_findings])), (a_party, .inr (0, [.int v_party_size, .int v_party_list, .int v_party_told, .ref a_party_kinds, .ref a_party_costs, .ref a_party_terms, .ref a_party_known])), (a_party_kinds, .inl (cI, 8, .inl v_party_kinds)), (a_party_known, .inl (cI, 256, .inl v_party_known)), (a_findings, .inl (cI, 7, .inl v_findings))]
abbrev rX4_turn : Room := { frames := 2, cells := 0, slots := 0, locals := 46 }
def fX4_turn_18 (v_party_size : Int32) (v_party_kinds : Nat → Int32) (v_party_known : Nat → Int32) (v_findings : Nat → Int32) : Option (Int32 × (Nat → Int32) × (Nat → Int32) × (Nat → Int32)) :=
  bR (fX4_found v_findings (-1000000001)) (fun r1 k1 =>
  some (r1, (v_party_kinds, v_party_known, k1)))
set_option maxRecDepth 100000 in
set_option maxHeartbeats 4000000 in
theorem LX4_turn_18 {p : Program} {l : Launch} {e : Env} {s : State} {m : MethodId} {args : Array Value} {below : List Frame} {meth : Method} {c : Code} {D : va_G} {cI cJ cZ cS : ClassId} {tb : Nat} {A : Nat → Prop} {a_t a_party a_party_kinds a_party_costs a_party_terms a_party_known a_kept a_tape a_telephone a_sheets a_findings : Nat} {v_isKept : Int32} {v_party_size : Int32} {v_party_list : Int32} {v_party_told : Int32} {rr : Int32} {kk' : (Nat → Int32) × (Nat → Int32) × (Nat → Int32)} (fx : q_Fx p s m args meth c cX4_turn 3 RX4 (some .int) D cI cJ cZ cS tb A) : ∀ {v_party_kinds : Nat → Int32} {v_party_known : Nat → Int32} {v_findings : Nat → Int32} {H : Heap} {locs : List Loc} {ls : Array Slot}, q_H D A s (wX4_turn cI cJ cZ cS a_t a_party a_party_kinds a_party_costs a_party_terms a_party_known a_kept a_tape a_telephone a_sheets a_findings v_isKept v_party_size v_party_list v_party_told v_party_kinds v_party_known v_findings) H locs → lv_has ls 3 [(0, .ref a_t)] → fX4_turn_18 v_party_size v_party_kinds v_party_known v_findings = some (rr, kk') → W p l e rX4_turn s m args below meth c H locs 0 0 (MQ below (q_Ri D rr A ((fun k : (Nat → Int32) × (Nat → Int32) × (Nat → Int32) => (wX4_turn cI cJ cZ cS a_t a_party a_party_kinds a_party_costs a_party_terms a_party_known a_kept a_tape a_telephone a_sheets a_findings v_isKept v_party_size v_party_list v_party_told k.1 k.2.1 k.2.2)) kk')) args s 0 0 A) (F0 m 18 ls []) := by
  intro v_party_kinds v_party_known v_findings H locs ls h hl hf
  have hx := fx.1
  have hb := fx.2.1
  unfold fX4_turn_18 at hf
  refine lv_aload_n hx hb dX4_turn_18 rfl (lv_at hl 0 rfl) ?_
  refine q_ldc fx k_206 dX4_turn_19 ?_
  obtain ⟨r1, k1, hg, hf⟩ := bR_inv hf
  refine q_ci (rest := []) (ws' := (wX4_turn cI cJ cZ cS a_t a_party a_party_kinds a_party_costs a_party_terms a_party_known a_kept a_tape a_telephone a_sheets a_findings v_isKept v_party_size v_party_list v_party_told v_party_kinds v_party_known k1)) (w1 := (wX4_found cI cJ cZ cS a_t a_party a_kept a_tape a_telephone a_sheets a_findings v_isKept k1)) fx h [0, 4] rfl rfl rfl rfl (q_runV fx h hl.1 [0, 4] rfl rfl (tX4_found l D cI cJ cZ cS tb a_t a_party a_kept a_tape a_telephone a_sheets a_findings H.size v_isKept v_findings (-1000000001) r1 k1 hg) mvX4_found k_207 ⟨rfl, rfl⟩ ⟨Nat.le_of_ble_eq_true rfl, Nat.le_of_ble_eq_true rfl⟩ rfl rfl rfl rfl (Nat.le_of_ble_eq_true rfl) dX4_turn_21 ⟨Nat.le_of_ble_eq_true rfl, Nat.le_of_ble_eq_true rfl⟩) (fun H locs h => ?_)
  exact q_reti (fun k : (Nat → Int32) × (Nat → Int32) × (Nat → Int32) => (wX4_turn cI cJ cZ cS a_t a_party a_party_kinds a_party_costs a_party_terms a_party_known a_kept a_tape a_telephone a_sheets a_findings v_isKept v_party_size v_party_list v_party_told k.1 k.2.1 k.2.2)) fx hf h dX4_turn_24
def fX4_turn (v_party_size : Int32) (v_party_kinds : Nat → Int32) (v_party_known : Nat → Int32) (v_findings : Nat → Int32) (x1 : Int32) (x2 : Int32) : Option (Int32 × (Nat → Int32) × (Nat → Int32) × (Nat → Int32)) :=
  bR (fX0_has v_party_size x1) (fun r2 k2 =>
  (if r2 = 0 then (
  fX4_turn_18 v_party_size v_party_kinds v_party_known v_findings)
  else (
  bR (fX4_isKind x2) (fun r4 k4 =>
  (if r4 = 0 then (
  fX4_turn_18 v_party_size v_party_kinds v_party_known v_findings)
  else (
  bR (fX0_turnInto v_party_kinds v_party_known x1 x2) (fun r6 k6 =>
  some (r6, (k6.1, k6.2, v_findings)))))))))
set_option maxRecDepth 100000 in
set_option maxHeartbeats 4000000 in
theorem tX4_turn (l : Launch) (D : va_G) (cI cJ cZ cS : ClassId) (tb : Nat) (a_t a_party a_party_kinds a_party_costs a_party_terms a_party_known a_kept a_tape a_telephone a_sheets a_findings : Nat) (sz : Nat) (v_isKept : Int32) (v_party_size : Int32) (v_party_list : Int32) (v_party_told : Int32) (v_party_kinds : Nat → Int32) (v_party_known : Nat → Int32) (v_findings : Nat → Int32) (x1 : Int32) (x2 : Int32) (rr : Int32) (kk' : (Nat → Int32) × (Nat → Int32) × (Nat → Int32)) (hf : fX4_turn v_party_size v_party_kinds v_party_known v_findings x1 x2 = some (rr, kk')) : Met l yX4_turn (Cond.code yX4_turn cX4_turn 3 (some .int) :: wA) rX4_turn (q_Pre D cI cJ cZ cS tb [.ref a_t, .int x1, .int x2] sz (wX4_turn cI cJ cZ cS a_t a_party a_party_kinds a_party_costs a_party_terms a_party_known a_kept a_tape a_telephone a_sheets a_findings v_isKept v_party_size v_party_list v_party_told v_party_kinds v_party_known v_findings)) (q_Ri D rr (va_A (wX4_turn cI cJ cZ cS a_t a_party a_party_kinds a_party_costs a_party_terms a_party_known a_kept a_tape a_telephone a_sheets a_findings v_isKept v_party_size v_party_list v_party_told v_party_kinds v_party_known v_findings) sz) ((fun k : (Nat → Int32) × (Nat → Int32) × (Nat → Int32) => (wX4_turn cI cJ cZ cS a_t a_party a_party_kinds a_party_costs a_party_terms a_party_known a_kept a_tape a_telephone a_sheets a_findings v_isKept v_party_size v_party_list v_party_told k.1 k.2.1 k.2.2)) kk')) 0 0 (va_A (wX4_turn cI cJ cZ cS a_t a_party a_party_kinds a_party_costs a_party_terms a_party_known a_kept a_tape a_telephone a_sheets a_findings v_isKept v_party_size v_party_list v_party_told v_party_kinds v_party_known v_findings) sz) := by
  refine q_enter (Qf := fun A => (q_Ri D rr A ((fun k : (Nat → Int32) × (Nat → Int32) × (Nat → Int32) => (wX4_turn cI cJ cZ cS a_t a_party a_party_kinds a_party_costs a_party_terms a_party_known a_kept a_tape a_telephone a_sheets a_findings v_isKept v_party_size v_party_list v_party_told k.1 k.2.1 k.2.2)) kk'))) (by decide) rfl (Nat.le_of_ble_eq_true rfl) ?_
  intro p e s m below meth c A ls fx hname h hl
  have hx := fx.1
  have hb := fx.2.1
  have hl : lv_has ls 3 [(0, .ref a_t), (1, .int x1), (2, .int x2)] := hl
  generalize h9 : s.heap = H at h ⊢
  clear h9
  generalize h9 : ([] : List Loc) = locs at h ⊢
  clear h9
  unfold fX4_turn at hf
  refine lv_aload_n hx hb dX4_turn_0 rfl (lv_at hl 0 rfl) ?_
  refine q_get (v := .ref a_party) fx inX4 h 0 rfl rfl 0 (by decide) k_174 rfl dX4_turn_1 ?_
  refine lv_iload_n hx hb dX4_turn_4 rfl (lv_at hl 1 rfl) ?_
  obtain ⟨r2, k2, hg, hf⟩ := bR_inv hf
  refine q_ci (rest := []) (ws' := (wX4_turn cI cJ cZ cS a_t a_party a_party_kinds a_party_costs a_party_terms a_party_known a_kept a_tape a_telephone a_sheets a_findings v_isKept v_party_size v_party_list v_party_told v_party_kinds v_party_known v_findings)) (w1 := (wX0_has cI cJ cZ cS a_party a_party_kinds a_party_costs a_party_terms a_party_known v_party_size v_party_list v_party_told)) fx h [1] rfl rfl rfl rfl (q_runV fx h hl.1 [1] rfl rfl (tX0_has l D cI cJ cZ cS tb a_party a_party_kinds a_party_costs a_party_terms a_party_known H.size v_party_size v_party_list v_party_told x1 r2 k2 hg) mvX0_has k_220 ⟨rfl, rfl⟩ ⟨Nat.le_of_ble_eq_true rfl, Nat.le_of_ble_eq_true rfl⟩ rfl rfl rfl rfl (Nat.le_of_ble_eq_true rfl) dX4_turn_5 ⟨Nat.le_of_ble_eq_true rfl, Nat.le_of_ble_eq_true rfl⟩) (fun H locs h => ?_)
  refine lv_if_eq (tgt := 18) hx hb dX4_turn_8 (by decide) (fun c3 => ?_) (fun c3 => ?_)
  · have hf := it_t c3 hf
    exact LX4_turn_18 fx h (lv_sub hl [0] rfl) hf
  have hf := it_f c3 hf
  refine lv_iload_n hx hb dX4_turn_11 rfl (lv_at hl 2 rfl) ?_
  obtain ⟨r4, k4, hg, hf⟩ := bR_inv hf
  refine q_ci (rest := []) (ws' := (wX4_turn cI cJ cZ cS a_t a_party a_party_kinds a_party_costs a_party_terms a_party_known a_kept a_tape a_telephone a_sheets a_findings v_isKept v_party_size v_party_list v_party_told v_party_kinds v_party_known v_findings)) (w1 := (wX4_isKind cI cJ cZ cS)) fx h [] rfl rfl rfl rfl (q_runS fx h hl.1 [] rfl rfl (tX4_isKind l D cI cJ cZ cS tb H.size x2 r4 k4 hg) msX4_isKind k_200 ⟨rfl, rfl⟩ ⟨Nat.le_of_ble_eq_true rfl, Nat.le_of_ble_eq_true rfl⟩ rfl rfl (Nat.le_of_ble_eq_true rfl) dX4_turn_12 ⟨Nat.le_of_ble_eq_true rfl, Nat.le_of_ble_eq_true rfl⟩) (fun H locs h => ?_)
  refine lv_if_ne (tgt := 25) hx hb dX4_turn_15 (by decide) (fun c5 => ?_) (fun c5 => ?_)
  · have hf := it_f c5 hf
    refine lv_aload_n hx hb dX4_turn_25 rfl (lv_at hl 0 rfl) ?_
    refine q_get (v := .ref a_party) fx inX4 h 0 rfl rfl 0 (by decide) k_174 rfl dX4_turn_26 ?_
    refine lv_iload_n hx hb dX4_turn_29 rfl (lv_at hl 1 rfl) ?_
    refine lv_iload_n hx hb dX4_turn_30 rfl (lv_at hl 2 rfl) ?_
    obtain ⟨r6, k6, hg, hf⟩ := bR_inv hf
    refine q_ci (rest := []) (ws' := (wX4_turn cI cJ cZ cS a_t a_party a_party_kinds a_party_costs a_party_terms a_party_known a_kept a_tape a_telephone a_sheets a_findings v_isKept v_party_size v_party_list v_party_told k6.1 k6.2 v_findings)) (w1 := (wX0_turnInto cI cJ cZ cS a_party a_party_kinds a_party_costs a_party_terms a_party_known v_party_size v_party_list v_party_told k6.1 k6.2)) fx h [1, 2, 3] rfl rfl rfl rfl (q_runV fx h hl.1 [1, 2, 3] rfl rfl (tX0_turnInto l D cI cJ cZ cS tb a_party a_party_kinds a_party_costs a_party_terms a_party_known H.size v_party_size v_party_list v_party_told v_party_kinds v_party_known x1 x2 r6 k6 hg) mvX0_turnInto k_258 ⟨rfl, rfl⟩ ⟨Nat.le_of_ble_eq_true rfl, Nat.le_of_ble_eq_true rfl⟩ rfl rfl rfl rfl (Nat.le_of_ble_eq_true rfl) dX4_turn_31 ⟨Nat.le_of_ble_eq_true rfl, Nat.le_of_ble_eq_true rfl⟩) (fun H locs h => ?_)
    exact q_reti (fun k : (Nat → Int32) × (Nat → Int32) × (Nat → Int32) => (wX4_turn cI cJ cZ cS a_t a_party a_party_kinds a_party_costs a_party_terms a_party_known a_kept a_tape a_telephone a_sheets a_findings v_isKept v_party_size v_party_list v_party_told k.1 k.2.1 k.2.2)) fx hf h dX4_turn_34
  have hf := it_t c5 hf
  exact LX4_turn_18 fx h (lv_sub hl [0] rfl) hf
/-! X4_isUnder -/
abbrev wX4_isUnder (cI cJ cZ cS : ClassId) : va_W := []
abbrev rX4_isUnder : Room := { frames := 0, cells := 0, slots := 0, locals := 0 }
def fX4_isUnder_19 (y0 : Int32) (y1 : Int32) : Option (Int32 × Unit) :=
  (if y0 = 5 then (
  (if y1 = 2 then (
  some (1, ()))
  else (
  some (0, ()))))
  else (
  some (0, ())))
set_option maxRecDepth 100000 in
set_option maxHeartbeats 4000000 in
theorem LX4_isUnder_19 {p : Program} {l : Launch} {e : Env} {s : State} {m : MethodId} {args : Array Value} {below : List Frame} {meth : Method} {c : Code} {D : va_G} {cI cJ cZ cS : ClassId} {tb : Nat} {A : Nat → Prop} {rr : Int32} {kk' : Unit} (fx : q_Fx p s m args meth c cX4_isUnder 2 RX4 (some .boolean) D cI cJ cZ cS tb A) : ∀ {y0 : Int32} {y1 : Int32} {H : Heap} {locs : List Loc} {ls : Array Slot}, q_H D A s (wX4_isUnder cI cJ cZ cS) H locs → lv_has ls 2 [(0, .int y0), (1, .int y1)] → fX4_isUnder_19 y0 y1 = some (rr, kk') → W p l e rX4_isUnder s m args below meth c H locs 0 0 (MQ below (q_Ri D rr A ((fun k : Unit => (wX4_isUnder cI cJ cZ cS)) kk')) args s 0 0 A) (F0 m 19 ls []) := by
  intro y0 y1 H locs ls h hl hf
  have hx := fx.1
  have hb := fx.2.1
  unfold fX4_isUnder_19 at hf
  refine lv_iload_n hx hb dX4_isUnder_19 rfl (lv_at hl 0 rfl) ?_
  refine lv_iconst (v := 5) hx hb dX4_isUnder_20 (by decide) ?_
  refine lv_icmp_ne (tgt := 33) hx hb dX4_isUnder_21 (by decide) (fun c1 => ?_) (fun c1 => ?_)
  · have hf := it_f c1 hf
    refine lv_iconst (v := 0) hx hb dX4_isUnder_33 (by decide) ?_
    exact q_retz (fun k : Unit => (wX4_isUnder cI cJ cZ cS)) fx rfl hf h dX4_isUnder_34
  have hf := it_t c1 hf
  refine lv_iload_n hx hb dX4_isUnder_24 rfl (lv_at hl 1 rfl) ?_
  refine lv_iconst (v := 2) hx hb dX4_isUnder_25 (by decide) ?_
  refine lv_icmp_ne (tgt := 33) hx hb dX4_isUnder_26 (by decide) (fun c2 => ?_) (fun c2 => ?_)
  · have hf := it_f c2 hf
    refine lv_iconst (v := 0) hx hb dX4_isUnder_33 (by decide) ?_
    exact q_retz (fun k : Unit => (wX4_isUnder cI cJ cZ cS)) fx rfl hf h dX4_isUnder_34
  have hf := it_t c2 hf
  refine lv_iconst (v := 1) hx hb dX4_isUnder_29 (by decide) ?_
  refine lv_goto (tgt := 34) hx hb dX4_isUnder_30 (by decide) ?_
  exact q_retz (fun k : Unit => (wX4_isUnder cI cJ cZ cS)) fx rfl hf h dX4_isUnder_34
def fX4_isUnder (x0 : Int32) (x1 : Int32) : Option (Int32 × Unit) :=
  (if x0 = x1 then (
  some (1, ()))
  else (
  (if x1 = 0 then (
  some (1, ()))
  else (
  (if x0 = 4 then (
  (if x1 = 1 then (
  some (1, ()))
  else (
  fX4_isUnder_19  x0 x1)))
  else (
  fX4_isUnder_19  x0 x1))))))
set_option maxRecDepth 100000 in
set_option maxHeartbeats 4000000 in
theorem tX4_isUnder (l : Launch) (D : va_G) (cI cJ cZ cS : ClassId) (tb : Nat) (sz : Nat) (x0 : Int32) (x1 : Int32) (rr : Int32) (kk' : Unit) (hf : fX4_isUnder x0 x1 = some (rr, kk')) : Met l yX4_isUnder (Cond.code yX4_isUnder cX4_isUnder 2 (some .boolean) :: wA) rX4_isUnder (q_Pre D cI cJ cZ cS tb [.int x0, .int x1] sz (wX4_isUnder cI cJ cZ cS)) (q_Ri D rr (va_A (wX4_isUnder cI cJ cZ cS) sz) ((fun k : Unit => (wX4_isUnder cI cJ cZ cS)) kk')) 0 0 (va_A (wX4_isUnder cI cJ cZ cS) sz) := by
  refine q_enter (Qf := fun A => (q_Ri D rr A ((fun k : Unit => (wX4_isUnder cI cJ cZ cS)) kk'))) (by decide) rfl (Nat.le_of_ble_eq_true rfl) ?_
  intro p e s m below meth c A ls fx hname h hl
  have hx := fx.1
  have hb := fx.2.1
  have hl : lv_has ls 2 [(0, .int x0), (1, .int x1)] := hl
  generalize h9 : s.heap = H at h ⊢
  clear h9
  generalize h9 : ([] : List Loc) = locs at h ⊢
  clear h9
  unfold fX4_isUnder at hf
  refine lv_iload_n hx hb dX4_isUnder_0 rfl (lv_at hl 0 rfl) ?_
  refine lv_iload_n hx hb dX4_isUnder_1 rfl (lv_at hl 1 rfl) ?_
  refine lv_icmp_eq (tgt := 29) hx hb dX4_isUnder_2 (by decide) (fun c3 => ?_) (fun c3 => ?_)
  · have hf := it_t c3 hf
    refine lv_iconst (v := 1) hx hb dX4_isUnder_29 (by decide) ?_
    refine lv_goto (tgt := 34) hx hb dX4_isUnder_30 (by decide) ?_
    exact q_retz (fun k : Unit => (wX4_isUnder cI cJ cZ cS)) fx rfl hf h dX4_isUnder_34
  have hf := it_f c3 hf
  refine lv_iload_n hx hb dX4_isUnder_5 rfl (lv_at hl 1 rfl) ?_
  refine lv_if_eq (tgt := 29) hx hb dX4_isUnder_6 (by decide) (fun c4 => ?_) (fun c4 => ?_)
  · have hf := it_t c4 hf
    refine lv_iconst (v := 1) hx hb dX4_isUnder_29 (by decide) ?_
    refine lv_goto (tgt := 34) hx hb dX4_isUnder_30 (by decide) ?_
    exact q_retz (fun k : Unit => (wX4_isUnder cI cJ cZ cS)) fx rfl hf h dX4_isUnder_34
  have hf := it_f c4 hf
  refine lv_iload_n hx hb dX4_isUnder_9 rfl (lv_at hl 0 rfl) ?_
  refine lv_iconst (v := 4) hx hb dX4_isUnder_10 (by decide) ?_
  refine lv_icmp_ne (tgt := 19) hx hb dX4_isUnder_11 (by decide) (fun c5 => ?_) (fun c5 => ?_)
  · have hf := it_f c5 hf
    exact LX4_isUnder_19 fx h (lv_sub hl [0, 1] rfl) hf
  have hf := it_t c5 hf
  refine lv_iload_n hx hb dX4_isUnder_14 rfl (lv_at hl 1 rfl) ?_
  refine lv_iconst (v := 1) hx hb dX4_isUnder_15 (by decide) ?_
  refine lv_icmp_eq (tgt := 29) hx hb dX4_isUnder_16 (by decide) (fun c6 => ?_) (fun c6 => ?_)
  · have hf := it_t c6 hf
    refine lv_iconst (v := 1) hx hb dX4_isUnder_29 (by decide) ?_
    refine lv_goto (tgt := 34) hx hb dX4_isUnder_30 (by decide) ?_
    exact q_retz (fun k : Unit => (wX4_isUnder cI cJ cZ cS)) fx rfl hf h dX4_isUnder_34
  have hf := it_f c6 hf
  exact LX4_isUnder_19 fx h (lv_sub hl [0, 1] rfl) hf
/-! X4_as -/
abbrev wX4_as (cI cJ cZ cS : ClassId) (a_t a_party a_party_kinds a_party_costs a_party_terms a_party_known a_kept a_tape a_telephone a_sheets a_findings : Nat) (v_isKept : Int32) (v_party_size : Int32) (v_party_list : Int32) (v_party_told : Int32) (v_party_kinds : Nat → Int32) (v_party_costs : Nat → Int32) (v_findings : Nat → Int32) : va_W := [(a_t, .inr (4, [.ref a_party, .ref a_kept, .int v_isKept, .ref a_tape, .ref a_telephone, .ref a_sheets, .ref a_findings])), (a_party, .inr (0, [.int v_party_size, .int v_party_list, .int v_party_told, .ref a_party_kinds, .ref a_party_costs, .ref a_party_terms, .ref a_party_known])), (a_party_kinds, .inl (cI, 8, .inl v_party_kinds)), (a_party_costs, .inl (cI, 8, .inl v_party_costs)), (a_findings, .inl (cI, 7, .inl v_findings))]
abbrev rX4_as : Room := { frames := 1, cells := 0, slots := 0, locals := 22 }
def fX4_as_18 (v_party_size : Int32) (v_party_kinds : Nat → Int32) (v_party_costs : Nat → Int32) (v_findings : Nat → Int32) : Option (Int32 × (Nat → Int32)) :=
  bR (fX4_found v_findings (-1000000001)) (fun r1 k1 =>
  some (r1, k1))
set_option maxRecDepth 100000 in
set_option maxHeartbeats 4000000 in
theorem LX4_as_18 {p : Program} {l : Launch} {e : Env} {s : State} {m : MethodId} {args : Array Value} {below : List Frame} {meth : Method} {c : Code} {D : va_G} {cI cJ cZ cS : ClassId} {tb : Nat} {A : Nat → Prop} {a_t a_party a_party_kinds a_party_costs a_party_terms a_party_known a_kept a_tape a_telephone a_sheets a_findings : Nat} {v_isKept : Int32} {v_party_size : Int32} {v_party_list : Int32} {v_party_told : Int32} {v_party_kinds : Nat → Int32} {v_party_costs : Nat → Int32} {rr : Int32} {kk' : (Nat → Int32)} (fx : q_Fx p s m args meth c cX4_as 3 RX4 (some .int) D cI cJ cZ cS tb A) : ∀ {v_findings : Nat → Int32} {H : Heap} {locs : List Loc} {ls : Array Slot}, q_H D A s (wX4_as cI cJ cZ cS a_t a_party a_party_kinds a_party_costs a_party_terms a_party_known a_kept a_tape a_telephone a_sheets a_findings v_isKept v_party_size v_party_list v_party_told v_party_kinds v_party_costs v_findings) H locs → lv_has ls 3 [(0, .ref a_t)] → fX4_as_18 v_party_size v_party_kinds v_party_costs v_findings = some (rr, kk') → W p l e rX4_as s m args below meth c H locs 0 0 (MQ below (q_Ri D rr A ((fun k : (Nat → Int32) => (wX4_as cI cJ cZ cS a_t a_party a_party_kinds a_party_costs a_party_terms a_party_known a_kept a_tape a_telephone a_sheets a_findings v_isKept v_party_size v_party_list v_party_told v_party_kinds v_party_costs k)) kk')) args s 0 0 A) (F0 m 18 ls []) := by
  intro v_findings H locs ls h hl hf
  have hx := fx.1
  have hb := fx.2.1
  unfold fX4_as_18 at hf
  refine lv_aload_n hx hb dX4_as_18 rfl (lv_at hl 0 rfl) ?_
  refine q_ldc fx k_206 dX4_as_19 ?_
  obtain ⟨r1, k1, hg, hf⟩ := bR_inv hf
  refine q_ci (rest := []) (ws' := (wX4_as cI cJ cZ cS a_t a_party a_party_kinds a_party_costs a_party_terms a_party_known a_kept a_tape a_telephone a_sheets a_findings v_isKept v_party_size v_party_list v_party_told v_party_kinds v_party_costs k1)) (w1 := (wX4_found cI cJ cZ cS a_t a_party a_kept a_tape a_telephone a_sheets a_findings v_isKept k1)) fx h [0, 4] rfl rfl rfl rfl (q_runV fx h hl.1 [0, 4] rfl rfl (tX4_found l D cI cJ cZ cS tb a_t a_party a_kept a_tape a_telephone a_sheets a_findings H.size v_isKept v_findings (-1000000001) r1 k1 hg) mvX4_found k_207 ⟨rfl, rfl⟩ ⟨Nat.le_of_ble_eq_true rfl, Nat.le_of_ble_eq_true rfl⟩ rfl rfl rfl rfl (Nat.le_of_ble_eq_true rfl) dX4_as_21 ⟨Nat.le_of_ble_eq_true rfl, Nat.le_of_ble_eq_true rfl⟩) (fun H locs h => ?_)
  exact q_reti (fun k : (Nat → Int32) => (wX4_as cI cJ cZ cS a_t a_party a_party_kinds a_party_costs a_party_terms a_party_known a_kept a_tape a_telephone a_sheets a_findings v_isKept v_party_size v_party_list v_party_told v_party_kinds v_party_costs k)) fx hf h dX4_as_24
def fX4_as (v_party_size : Int32) (v_party_kinds : Nat → Int32) (v_party_costs : Nat → Int32) (v_findings : Nat → Int32) (x1 : Int32) (x2 : Int32) : Option (Int32 × (Nat → Int32)) :=
  bR (fX0_has v_party_size x1) (fun r2 k2 =>
  (if r2 = 0 then (
  fX4_as_18 v_party_size v_party_kinds v_party_costs v_findings)
  else (
  bR (fX4_isKind x2) (fun r4 k4 =>
  (if r4 = 0 then (
  fX4_as_18 v_party_size v_party_kinds v_party_costs v_findings)
  else (
  gIn x1 8 (
  bR (fX4_isUnder (v_party_kinds x1.toNatClampNeg) x2) (fun r7 k7 =>
  (if r7 = 0 then (
  bR (fX4_found v_findings (-1000000003)) (fun r9 k9 =>
  some (r9, k9)))
  else (
  gIn x1 8 (
  some (v_party_costs x1.toNatClampNeg, v_findings))))))))))))
set_option maxRecDepth 100000 in
set_option maxHeartbeats 4000000 in
theorem tX4_as (l : Launch) (D : va_G) (cI cJ cZ cS : ClassId) (tb : Nat) (a_t a_party a_party_kinds a_party_costs a_party_terms a_party_known a_kept a_tape a_telephone a_sheets a_findings : Nat) (sz : Nat) (v_isKept : Int32) (v_party_size : Int32) (v_party_list : Int32) (v_party_told : Int32) (v_party_kinds : Nat → Int32) (v_party_costs : Nat → Int32) (v_findings : Nat → Int32) (x1 : Int32) (x2 : Int32) (rr : Int32) (kk' : (Nat → Int32)) (hf : fX4_as v_party_size v_party_kinds v_party_costs v_findings x1 x2 = some (rr, kk')) : Met l yX4_as (Cond.code yX4_as cX4_as 3 (some .int) :: wA) rX4_as (q_Pre D cI cJ cZ cS tb [.ref a_t, .int x1, .int x2] sz (wX4_as cI cJ cZ cS a_t a_party a_party_kinds a_party_costs a_party_terms a_party_known a_kept a_tape a_telephone a_sheets a_findings v_isKept v_party_size v_party_list v_party_told v_party_kinds v_party_costs v_findings)) (q_Ri D rr (va_A (wX4_as cI cJ cZ cS a_t a_party a_party_kinds a_party_costs a_party_terms a_party_known a_kept a_tape a_telephone a_sheets a_findings v_isKept v_party_size v_party_list v_party_told v_party_kinds v_party_costs v_findings) sz) ((fun k : (Nat → Int32) => (wX4_as cI cJ cZ cS a_t a_party a_party_kinds a_party_costs a_party_terms a_party_known a_kept a_tape a_telephone a_sheets a_findings v_isKept v_party_size v_party_list v_party_told v_party_kinds v_party_costs k)) kk')) 0 0 (va_A (wX4_as cI cJ cZ cS a_t a_party a_party_kinds a_party_costs a_party_terms a_party_known a_kept a_tape a_telephone a_sheets a_findings v_isKept v_party_size v_party_list v_party_told v_party_kinds v_party_costs v_findings) sz) := by
  refine q_enter (Qf := fun A => (q_Ri D rr A ((fun k : (Nat → Int32) => (wX4_as cI cJ cZ cS a_t a_party a_party_kinds a_party_costs a_party_terms a_party_known a_kept a_tape a_telephone a_sheets a_findings v_isKept v_party_size v_party_list v_party_told v_party_kinds v_party_costs k)) kk'))) (by decide) rfl (Nat.le_of_ble_eq_true rfl) ?_
  intro p e s m below meth c A ls fx hname h hl
  have hx := fx.1
  have hb := fx.2.1
  have hl : lv_has ls 3 [(0, .ref a_t), (1, .int x1), (2, .int x2)] := hl
  generalize h9 : s.heap = H at h ⊢
  clear h9
  generalize h9 : ([] : List Loc) = locs at h ⊢
  clear h9
  unfold fX4_as at hf
  refine lv_aload_n hx hb dX4_as_0 rfl (lv_at hl 0 rfl) ?_
  refine q_get (v := .ref a_party) fx inX4 h 0 rfl rfl 0 (by decide) k_174 rfl dX4_as_1 ?_
  refine lv_iload_n hx hb dX4_as_4 rfl (lv_at hl 1 rfl) ?_
  obtain ⟨r2, k2, hg, hf⟩ := bR_inv hf
  refine q_ci (rest := []) (ws' := (wX4_as cI cJ cZ cS a_t a_party a_party_kinds a_party_costs a_party_terms a_party_known a_kept a_tape a_telephone a_sheets a_findings v_isKept v_party_size v_party_list v_party_told v_party_kinds v_party_costs v_findings)) (w1 := (wX0_has cI cJ cZ cS a_party a_party_kinds a_party_costs a_party_terms a_party_known v_party_size v_party_list v_party_told)) fx h [1] rfl rfl rfl rfl (q_runV fx h hl.1 [1] rfl rfl (tX0_has l D cI cJ cZ cS tb a_party a_party_kinds a_party_costs a_party_terms a_party_known H.size v_party_size v_party_list v_party_told x1 r2 k2 hg) mvX0_has k_220 ⟨rfl, rfl⟩ ⟨Nat.le_of_ble_eq_true rfl, Nat.le_of_ble_eq_true rfl⟩ rfl rfl rfl rfl (Nat.le_of_ble_eq_true rfl) dX4_as_5 ⟨Nat.le_of_ble_eq_true rfl, Nat.le_of_ble_eq_true rfl⟩) (fun H locs h => ?_)
  refine lv_if_eq (tgt := 18) hx hb dX4_as_8 (by decide) (fun c3 => ?_) (fun c3 => ?_)
  · have hf := it_t c3 hf
    exact LX4_as_18 fx h (lv_sub hl [0] rfl) hf
  have hf := it_f c3 hf
  refine lv_iload_n hx hb dX4_as_11 rfl (lv_at hl 2 rfl) ?_
  obtain ⟨r4, k4, hg, hf⟩ := bR_inv hf
  refine q_ci (rest := []) (ws' := (wX4_as cI cJ cZ cS a_t a_party a_party_kinds a_party_costs a_party_terms a_party_known a_kept a_tape a_telephone a_sheets a_findings v_isKept v_party_size v_party_list v_party_told v_party_kinds v_party_costs v_findings)) (w1 := (wX4_isKind cI cJ cZ cS)) fx h [] rfl rfl rfl rfl (q_runS fx h hl.1 [] rfl rfl (tX4_isKind l D cI cJ cZ cS tb H.size x2 r4 k4 hg) msX4_isKind k_200 ⟨rfl, rfl⟩ ⟨Nat.le_of_ble_eq_true rfl, Nat.le_of_ble_eq_true rfl⟩ rfl rfl (Nat.le_of_ble_eq_true rfl) dX4_as_12 ⟨Nat.le_of_ble_eq_true rfl, Nat.le_of_ble_eq_true rfl⟩) (fun H locs h => ?_)
  refine lv_if_ne (tgt := 25) hx hb dX4_as_15 (by decide) (fun c5 => ?_) (fun c5 => ?_)
  · have hf := it_f c5 hf
    refine lv_aload_n hx hb dX4_as_25 rfl (lv_at hl 0 rfl) ?_
    refine q_get (v := .ref a_party) fx inX4 h 0 rfl rfl 0 (by decide) k_174 rfl dX4_as_26 ?_
    refine q_getN (v := .ref a_party_kinds) fx inX0 h 1 rfl rfl 3 (by decide) nf_5 rfl dX4_as_29 ?_
    refine lv_iload_n hx hb dX4_as_32 rfl (lv_at hl 1 rfl) ?_
    obtain ⟨i6, hf⟩ := gIn_inv hf
    refine q_iald fx h 2 rfl i6 dX4_as_33 ?_
    refine lv_iload_n hx hb dX4_as_34 rfl (lv_at hl 2 rfl) ?_
    obtain ⟨r7, k7, hg, hf⟩ := bR_inv hf
    refine q_ci (rest := []) (ws' := (wX4_as cI cJ cZ cS a_t a_party a_party_kinds a_party_costs a_party_terms a_party_known a_kept a_tape a_telephone a_sheets a_findings v_isKept v_party_size v_party_list v_party_told v_party_kinds v_party_costs v_findings)) (w1 := (wX4_isUnder cI cJ cZ cS)) fx h [] rfl rfl rfl rfl (q_runS fx h hl.1 [] rfl rfl (tX4_isUnder l D cI cJ cZ cS tb H.size (v_party_kinds x1.toNatClampNeg) x2 r7 k7 hg) msX4_isUnder k_266 ⟨rfl, rfl⟩ ⟨Nat.le_of_ble_eq_true rfl, Nat.le_of_ble_eq_true rfl⟩ rfl rfl (Nat.le_of_ble_eq_true rfl) dX4_as_35 ⟨Nat.le_of_ble_eq_true rfl, Nat.le_of_ble_eq_true rfl⟩) (fun H locs h => ?_)
    refine lv_if_eq (tgt := 53) hx hb dX4_as_38 (by decide) (fun c8 => ?_) (fun c8 => ?_)
    · have hf := it_t c8 hf
      refine lv_aload_n hx hb dX4_as_53 rfl (lv_at hl 0 rfl) ?_
      refine q_ldc fx k_269 dX4_as_54 ?_
      obtain ⟨r9, k9, hg, hf⟩ := bR_inv hf
      refine q_ci (rest := []) (ws' := (wX4_as cI cJ cZ cS a_t a_party a_party_kinds a_party_costs a_party_terms a_party_known a_kept a_tape a_telephone a_sheets a_findings v_isKept v_party_size v_party_list v_party_told v_party_kinds v_party_costs k9)) (w1 := (wX4_found cI cJ cZ cS a_t a_party a_kept a_tape a_telephone a_sheets a_findings v_isKept k9)) fx h [0, 4] rfl rfl rfl rfl (q_runV fx h hl.1 [0, 4] rfl rfl (tX4_found l D cI cJ cZ cS tb a_t a_party a_kept a_tape a_telephone a_sheets a_findings H.size v_isKept v_findings (-1000000003) r9 k9 hg) mvX4_found k_207 ⟨rfl, rfl⟩ ⟨Nat.le_of_ble_eq_true rfl, Nat.le_of_ble_eq_true rfl⟩ rfl rfl rfl rfl (Nat.le_of_ble_eq_true rfl) dX4_as_56 ⟨Nat.le_of_ble_eq_true rfl, Nat.le_of_ble_eq_true rfl⟩) (fun H locs h => ?_)
      exact q_reti (fun k : (Nat → Int32) => (wX4_as cI cJ cZ cS a_t a_party a_party_kinds a_party_costs a_party_terms a_party_known a_kept a_tape a_telephone a_sheets a_findings v_isKept v_party_size v_party_list v_party_told v_party_kinds v_party_costs k)) fx hf h dX4_as_59
    have hf := it_f c8 hf
    refine lv_aload_n hx hb dX4_as_41 rfl (lv_at hl 0 rfl) ?_
    refine q_get (v := .ref a_party) fx inX4 h 0 rfl rfl 0 (by decide) k_174 rfl dX4_as_42 ?_
    refine q_getN (v := .ref a_party_costs) fx inX0 h 1 rfl rfl 4 (by decide) nf_6 rfl dX4_as_45 ?_
    refine lv_iload_n hx hb dX4_as_48 rfl (lv_at hl 1 rfl) ?_
    obtain ⟨i10, hf⟩ := gIn_inv hf
    refine q_iald fx h 3 rfl i10 dX4_as_49 ?_
    refine lv_goto (tgt := 59) hx hb dX4_as_50 (by decide) ?_
    exact q_reti (fun k : (Nat → Int32) => (wX4_as cI cJ cZ cS a_t a_party a_party_kinds a_party_costs a_party_terms a_party_known a_kept a_tape a_telephone a_sheets a_findings v_isKept v_party_size v_party_list v_party_told v_party_kinds v_party_costs k)) fx hf h dX4_as_59
  have hf := it_t c5 hf
  exact LX4_as_18 fx h (lv_sub hl [0] rfl) hf
/-! X2_sign -/
abbrev wX2_sign (cI cJ cZ cS : ClassId) (a_t a_bytes : Nat) (v_length : Int32) (v_place : Int32) (v_fault : Int32) (v_teller : Int32) (v_word : Int32) (v_bytes : Nat → Int32) : va_W := [(a_t, .inr (2, [.ref a_bytes, .int v_length, .int v_place, .int v_fault, .int v_teller, .int v_word])), (a_bytes, .inl (cI, 60, .inl v_bytes))]
abbrev rX2_sign : Room := { frames := 0, cells := 0, slots := 0, locals := 0 }
def fX2_sign (v_length : Int32) (v_place : Int32) (v_fault : Int32) (v_bytes : Nat → Int32) : Option (Int32 × Unit) :=
  (if v_fault = (-1) then (
  (if v_length ≤ v_place then (
  some ((-1), ()))
  else (
  gIn v_place 60 (
  some (v_bytes v_place.toNatClampNeg, ())))))
  else (
  some ((-1), ())))
set_option maxRecDepth 100000 in
set_option maxHeartbeats 4000000 in
theorem tX2_sign (l : Launch) (D : va_G) (cI cJ cZ cS : ClassId) (tb : Nat) (a_t a_bytes : Nat) (sz : Nat) (v_length : Int32) (v_place : Int32) (v_fault : Int32) (v_teller : Int32) (v_word : Int32) (v_bytes : Nat → Int32) (rr : Int32) (kk' : Unit) (hf : fX2_sign v_length v_place v_fault v_bytes = some (rr, kk')) : Met l yX2_sign (Cond.code yX2_sign cX2_sign 1 (some .int) :: wA) rX2_sign (q_Pre D cI cJ cZ cS tb [.ref a_t] sz (wX2_sign cI cJ cZ cS a_t a_bytes v_length v_place v_fault v_teller v_word v_bytes)) (q_Ri D rr (va_A (wX2_sign cI cJ cZ cS a_t a_bytes v_length v_place v_fault v_teller v_word v_bytes) sz) ((fun k : Unit => (wX2_sign cI cJ cZ cS a_t a_bytes v_length v_place v_fault v_teller v_word v_bytes)) kk')) 0 0 (va_A (wX2_sign cI cJ cZ cS a_t a_bytes v_length v_place v_fault v_teller v_word v_bytes) sz) := by
  refine q_enter (Qf := fun A => (q_Ri D rr A ((fun k : Unit => (wX2_sign cI cJ cZ cS a_t a_bytes v_length v_place v_fault v_teller v_word v_bytes)) kk'))) (by decide) rfl (Nat.le_of_ble_eq_true rfl) ?_
  intro p e s m below meth c A ls fx hname h hl
  have hx := fx.1
  have hb := fx.2.1
  have hl : lv_has ls 1 [(0, .ref a_t)] := hl
  generalize h9 : s.heap = H at h ⊢
  clear h9
  generalize h9 : ([] : List Loc) = locs at h ⊢
  clear h9
  unfold fX2_sign at hf
  refine lv_aload_n hx hb dX2_sign_0 rfl (lv_at hl 0 rfl) ?_
  refine q_get (v := .int v_fault) fx inX2 h 0 rfl rfl 3 (by decide) k_121 rfl dX2_sign_1 ?_
  refine lv_iconst (v := -1) hx hb dX2_sign_4 (by decide) ?_
  refine lv_icmp_ne (tgt := 31) hx hb dX2_sign_5 (by decide) (fun c1 => ?_) (fun c1 => ?_)
  · have hf := it_f c1 hf
    refine lv_iconst (v := -1) hx hb dX2_sign_31 (by decide) ?_
    exact q_reti (fun k : Unit => (wX2_sign cI cJ cZ cS a_t a_bytes v_length v_place v_fault v_teller v_word v_bytes)) fx hf h dX2_sign_32
  have hf := it_t c1 hf
  refine lv_aload_n hx hb dX2_sign_8 rfl (lv_at hl 0 rfl) ?_
  refine q_get (v := .int v_place) fx inX2 h 0 rfl rfl 2 (by decide) k_120 rfl dX2_sign_9 ?_
  refine lv_aload_n hx hb dX2_sign_12 rfl (lv_at hl 0 rfl) ?_
  refine q_get (v := .int v_length) fx inX2 h 0 rfl rfl 1 (by decide) k_118 rfl dX2_sign_13 ?_
  refine lv_icmp_ge (tgt := 31) hx hb dX2_sign_16 (by decide) (fun c2 => ?_) (fun c2 => ?_)
  · have hf := it_t c2 hf
    refine lv_iconst (v := -1) hx hb dX2_sign_31 (by decide) ?_
    exact q_reti (fun k : Unit => (wX2_sign cI cJ cZ cS a_t a_bytes v_length v_place v_fault v_teller v_word v_bytes)) fx hf h dX2_sign_32
  have hf := it_f c2 hf
  refine lv_aload_n hx hb dX2_sign_19 rfl (lv_at hl 0 rfl) ?_
  refine q_get (v := .ref a_bytes) fx inX2 h 0 rfl rfl 0 (by decide) k_117 rfl dX2_sign_20 ?_
  refine lv_aload_n hx hb dX2_sign_23 rfl (lv_at hl 0 rfl) ?_
  refine q_get (v := .int v_place) fx inX2 h 0 rfl rfl 2 (by decide) k_120 rfl dX2_sign_24 ?_
  obtain ⟨i3, hf⟩ := gIn_inv hf
  refine q_iald fx h 1 rfl i3 dX2_sign_27 ?_
  refine lv_goto (tgt := 32) hx hb dX2_sign_28 (by decide) ?_
  exact q_reti (fun k : Unit => (wX2_sign cI cJ cZ cS a_t a_bytes v_length v_place v_fault v_teller v_word v_bytes)) fx hf h dX2_sign_32
