abbrev rX5_unit (d : Nat) : Room := { frames := 3 * d + 2, cells := 0, slots := 0, locals := 90 * d + 60 }
abbrev rX5_every (d : Nat) : Room := { frames := 3 * d + 3, cells := 0, slots := 0, locals := 90 * d + 90 }
abbrev rX5_any (d : Nat) : Room := { frames := 3 * d + 4, cells := 0, slots := 0, locals := 90 * d + 120 }
theorem room_X5_unit_X5_any (dd : Nat) : (rX5_any dd).frames + 1 ≤ (rX5_unit (dd + 1)).frames ∧ 8 + (1 + 11) + (rX5_any dd).locals ≤ (rX5_unit (dd + 1)).locals := by
  constructor
  · show 3 * dd + 4 + 1 ≤ 3 * (dd + 1) + 2; omega
  · show 8 + (1 + 11) + (90 * dd + 120) ≤ 90 * (dd + 1) + 60; omega
theorem room_X5_unit_X5_counted (dd : Nat) : rX5_counted.frames + 1 ≤ (rX5_unit (dd + 1)).frames ∧ 8 + (3 + 11) + rX5_counted.locals ≤ (rX5_unit (dd + 1)).locals := by
  constructor
  · show 1 + 1 ≤ 3 * (dd + 1) + 2; omega
  · show 8 + (3 + 11) + 25 ≤ 90 * (dd + 1) + 60; omega
theorem room_X5_unit_X5_faulty (dd : Nat) : rX5_faulty.frames + 1 ≤ (rX5_unit (dd + 1)).frames ∧ 8 + (1 + 11) + rX5_faulty.locals ≤ (rX5_unit (dd + 1)).locals := by
  constructor
  · show 0 + 1 ≤ 3 * (dd + 1) + 2; omega
  · show 8 + (1 + 11) + 0 ≤ 90 * (dd + 1) + 60; omega
theorem room_X5_unit_X5_in (dd : Nat) : rX5_in.frames + 1 ≤ (rX5_unit (dd + 1)).frames ∧ 8 + (6 + 11) + rX5_in.locals ≤ (rX5_unit (dd + 1)).locals := by
  constructor
  · show 0 + 1 ≤ 3 * (dd + 1) + 2; omega
  · show 8 + (6 + 11) + 0 ≤ 90 * (dd + 1) + 60; omega
theorem room_X5_unit_X5_lay (dd : Nat) : rX5_lay.frames + 1 ≤ (rX5_unit (dd + 1)).frames ∧ 8 + (2 + 11) + rX5_lay.locals ≤ (rX5_unit (dd + 1)).locals := by
  constructor
  · show 0 + 1 ≤ 3 * (dd + 1) + 2; omega
  · show 8 + (2 + 11) + 0 ≤ 90 * (dd + 1) + 60; omega
theorem room_X5_unit_X5_look (dd : Nat) : rX5_look.frames + 1 ≤ (rX5_unit (dd + 1)).frames ∧ 8 + (1 + 11) + rX5_look.locals ≤ (rX5_unit (dd + 1)).locals := by
  constructor
  · show 0 + 1 ≤ 3 * (dd + 1) + 2; omega
  · show 8 + (1 + 11) + 0 ≤ 90 * (dd + 1) + 60; omega
theorem room_X5_unit_X5_opens (dd : Nat) : rX5_opens.frames + 1 ≤ (rX5_unit (dd + 1)).frames ∧ 8 + (1 + 11) + rX5_opens.locals ≤ (rX5_unit (dd + 1)).locals := by
  constructor
  · show 1 + 1 ≤ 3 * (dd + 1) + 2; omega
  · show 8 + (1 + 11) + 20 ≤ 90 * (dd + 1) + 60; omega
theorem room_X5_unit_X5_unit (dd : Nat) : (rX5_unit dd).frames + 1 ≤ (rX5_unit (dd + 1)).frames ∧ 8 + (2 + 11) + (rX5_unit dd).locals ≤ (rX5_unit (dd + 1)).locals := by
  constructor
  · show 3 * dd + 2 + 1 ≤ 3 * (dd + 1) + 2; omega
  · show 8 + (2 + 11) + (90 * dd + 60) ≤ 90 * (dd + 1) + 60; omega
theorem room_X5_every_X5_look (dd : Nat) : rX5_look.frames + 1 ≤ (rX5_every dd).frames ∧ 8 + (1 + 11) + rX5_look.locals ≤ (rX5_every dd).locals := by
  constructor
  · show 0 + 1 ≤ 3 * dd + 3; omega
  · show 8 + (1 + 11) + 0 ≤ 90 * dd + 90; omega
theorem room_X5_every_X5_unit (dd : Nat) : (rX5_unit dd).frames + 1 ≤ (rX5_every dd).frames ∧ 8 + (2 + 11) + (rX5_unit dd).locals ≤ (rX5_every dd).locals := by
  constructor
  · show 3 * dd + 2 + 1 ≤ 3 * dd + 3; omega
  · show 8 + (2 + 11) + (90 * dd + 60) ≤ 90 * dd + 90; omega
theorem room_X5_any_X5_every (dd : Nat) : (rX5_every dd).frames + 1 ≤ (rX5_any dd).frames ∧ 8 + (1 + 11) + (rX5_every dd).locals ≤ (rX5_any dd).locals := by
  constructor
  · show 3 * dd + 3 + 1 ≤ 3 * dd + 4; omega
  · show 8 + (1 + 11) + (90 * dd + 90) ≤ 90 * dd + 120; omega
theorem room_X5_any_X5_look (dd : Nat) : rX5_look.frames + 1 ≤ (rX5_any dd).frames ∧ 8 + (1 + 11) + rX5_look.locals ≤ (rX5_any dd).locals := by
  constructor
  · show 0 + 1 ≤ 3 * dd + 4; omega
  · show 8 + (1 + 11) + 0 ≤ 90 * dd + 120; omega
abbrev wX5_unit (cI cJ cZ cS : ClassId) (a_t a_s a_keptS a_statuses a_pile a_tape a_steps a_wish a_mark a_bitsOf a_sizeOf a_number a_moved : Nat) (v_isKept : Int32) (v_taped : Int32) (v_at : Int32) (v_fault : Int32) (v_laid : Int32) (v_open : Int32) (v_tape : Nat → Int32) (v_steps : Nat → Int32) : va_W := [(a_t, .inr (5, [.ref a_s, .ref a_keptS, .ref a_statuses, .int v_isKept, .ref a_pile, .ref a_tape, .ref a_steps, .int v_taped, .int v_at, .int v_fault, .int v_laid, .int v_open, .ref a_wish, .ref a_mark, .ref a_bitsOf, .ref a_sizeOf, .ref a_number, .ref a_moved])), (a_tape, .inl (cI, 60, .inl v_tape)), (a_steps, .inl (cI, 64, .inl v_steps))]
abbrev wX5_every (cI cJ cZ cS : ClassId) (a_t a_s a_keptS a_statuses a_pile a_tape a_steps a_wish a_mark a_bitsOf a_sizeOf a_number a_moved : Nat) (v_isKept : Int32) (v_taped : Int32) (v_at : Int32) (v_fault : Int32) (v_laid : Int32) (v_open : Int32) (v_tape : Nat → Int32) (v_steps : Nat → Int32) : va_W := [(a_t, .inr (5, [.ref a_s, .ref a_keptS, .ref a_statuses, .int v_isKept, .ref a_pile, .ref a_tape, .ref a_steps, .int v_taped, .int v_at, .int v_fault, .int v_laid, .int v_open, .ref a_wish, .ref a_mark, .ref a_bitsOf, .ref a_sizeOf, .ref a_number, .ref a_moved])), (a_tape, .inl (cI, 60, .inl v_tape)), (a_steps, .inl (cI, 64, .inl v_steps))]
abbrev wX5_any (cI cJ cZ cS : ClassId) (a_t a_s a_keptS a_statuses a_pile a_tape a_steps a_wish a_mark a_bitsOf a_sizeOf a_number a_moved : Nat) (v_isKept : Int32) (v_taped : Int32) (v_at : Int32) (v_fault : Int32) (v_laid : Int32) (v_open : Int32) (v_tape : Nat → Int32) (v_steps : Nat → Int32) : va_W := [(a_t, .inr (5, [.ref a_s, .ref a_keptS, .ref a_statuses, .int v_isKept, .ref a_pile, .ref a_tape, .ref a_steps, .int v_taped, .int v_at, .int v_fault, .int v_laid, .int v_open, .ref a_wish, .ref a_mark, .ref a_bitsOf, .ref a_sizeOf, .ref a_number, .ref a_moved])), (a_tape, .inl (cI, 60, .inl v_tape)), (a_steps, .inl (cI, 64, .inl v_steps))]
/-! X5_unit -/
def fX5_unit_189 (gX5_any : Int32 → Int32 → Int32 → Int32 → Int32 → (Nat → Int32) → (Nat → Int32) → Option (Int32 × Int32 × Int32 × Int32 × (Nat → Int32))) (gX5_unit : Int32 → Int32 → Int32 → Int32 → Int32 → (Nat → Int32) → (Nat → Int32) → Option (Int32 × Int32 × Int32 × Int32 × (Nat → Int32))) (v_taped : Int32) (v_tape : Nat → Int32) (v_at : Int32) (v_fault : Int32) (v_laid : Int32) (v_open : Int32) (v_steps : Nat → Int32) : Option (Int32 × Int32 × Int32 × Int32 × (Nat → Int32)) :=
  bV (fX5_faulty v_at v_fault) (fun k1 =>
  some (v_at, k1, v_laid, v_open, v_steps))
set_option maxRecDepth 100000 in
set_option maxHeartbeats 4000000 in
theorem LX5_unit_189 {p : Program} {l : Launch} {e : Env} {s : State} {m : MethodId} {args : Array Value} {below : List Frame} {meth : Method} {c : Code} {D : va_G} {cI cJ cZ cS : ClassId} {tb : Nat} {A : Nat → Prop} {a_t a_s a_keptS a_statuses a_pile a_tape a_steps a_wish a_mark a_bitsOf a_sizeOf a_number a_moved : Nat} {v_isKept : Int32} {v_taped : Int32} {v_tape : Nat → Int32} {kk' : Int32 × Int32 × Int32 × Int32 × (Nat → Int32)} {dd : Nat} {gX5_any : Int32 → Int32 → Int32 → Int32 → Int32 → (Nat → Int32) → (Nat → Int32) → Option (Int32 × Int32 × Int32 × Int32 × (Nat → Int32))} (hgX5_any : ∀ (D : va_G) (cI cJ cZ cS : ClassId) (tb : Nat) (a_t a_s a_keptS a_statuses a_pile a_tape a_steps a_wish a_mark a_bitsOf a_sizeOf a_number a_moved : Nat) (sz : Nat) (v_isKept : Int32) (v_taped : Int32) (v_at : Int32) (v_fault : Int32) (v_laid : Int32) (v_open : Int32) (v_tape : Nat → Int32) (v_steps : Nat → Int32) (kk' : Int32 × Int32 × Int32 × Int32 × (Nat → Int32)) (hf : gX5_any v_taped v_at v_fault v_laid v_open v_tape v_steps = some kk'), Met l yX5_any (Cond.code yX5_any cX5_any 1 none :: wA) (rX5_any dd) (q_Pre D cI cJ cZ cS tb [.ref a_t] sz (wX5_any cI cJ cZ cS a_t a_s a_keptS a_statuses a_pile a_tape a_steps a_wish a_mark a_bitsOf a_sizeOf a_number a_moved v_isKept v_taped v_at v_fault v_laid v_open v_tape v_steps)) (q_Rv D (va_A (wX5_any cI cJ cZ cS a_t a_s a_keptS a_statuses a_pile a_tape a_steps a_wish a_mark a_bitsOf a_sizeOf a_number a_moved v_isKept v_taped v_at v_fault v_laid v_open v_tape v_steps) sz) ((fun k : Int32 × Int32 × Int32 × Int32 × (Nat → Int32) => (wX5_any cI cJ cZ cS a_t a_s a_keptS a_statuses a_pile a_tape a_steps a_wish a_mark a_bitsOf a_sizeOf a_number a_moved v_isKept v_taped k.1 k.2.1 k.2.2.1 k.2.2.2.1 v_tape k.2.2.2.2)) kk')) 0 0 (va_A (wX5_any cI cJ cZ cS a_t a_s a_keptS a_statuses a_pile a_tape a_steps a_wish a_mark a_bitsOf a_sizeOf a_number a_moved v_isKept v_taped v_at v_fault v_laid v_open v_tape v_steps) sz)) {gX5_unit : Int32 → Int32 → Int32 → Int32 → Int32 → (Nat → Int32) → (Nat → Int32) → Option (Int32 × Int32 × Int32 × Int32 × (Nat → Int32))} (hgX5_unit : ∀ (D : va_G) (cI cJ cZ cS : ClassId) (tb : Nat) (a_t a_s a_keptS a_statuses a_pile a_tape a_steps a_wish a_mark a_bitsOf a_sizeOf a_number a_moved : Nat) (sz : Nat) (v_isKept : Int32) (v_taped : Int32) (v_at : Int32) (v_fault : Int32) (v_laid : Int32) (v_open : Int32) (v_tape : Nat → Int32) (v_steps : Nat → Int32) (kk' : Int32 × Int32 × Int32 × Int32 × (Nat → Int32)) (hf : gX5_unit v_taped v_at v_fault v_laid v_open v_tape v_steps = some kk'), Met l yX5_unit (Cond.code yX5_unit cX5_unit 2 none :: wA) (rX5_unit dd) (q_Pre D cI cJ cZ cS tb [.ref a_t] sz (wX5_unit cI cJ cZ cS a_t a_s a_keptS a_statuses a_pile a_tape a_steps a_wish a_mark a_bitsOf a_sizeOf a_number a_moved v_isKept v_taped v_at v_fault v_laid v_open v_tape v_steps)) (q_Rv D (va_A (wX5_unit cI cJ cZ cS a_t a_s a_keptS a_statuses a_pile a_tape a_steps a_wish a_mark a_bitsOf a_sizeOf a_number a_moved v_isKept v_taped v_at v_fault v_laid v_open v_tape v_steps) sz) ((fun k : Int32 × Int32 × Int32 × Int32 × (Nat → Int32) => (wX5_unit cI cJ cZ cS a_t a_s a_keptS a_statuses a_pile a_tape a_steps a_wish a_mark a_bitsOf a_sizeOf a_number a_moved v_isKept v_taped k.1 k.2.1 k.2.2.1 k.2.2.2.1 v_tape k.2.2.2.2)) kk')) 0 0 (va_A (wX5_unit cI cJ cZ cS a_t a_s a_keptS a_statuses a_pile a_tape a_steps a_wish a_mark a_bitsOf a_sizeOf a_number a_moved v_isKept v_taped v_at v_fault v_laid v_open v_tape v_steps) sz)) (fx : q_Fx p s m args meth c cX5_unit 2 RX5 none D cI cJ cZ cS tb A) : ∀ {v_at : Int32} {v_fault : Int32} {v_laid : Int32} {v_open : Int32} {v_steps : Nat → Int32} {H : Heap} {locs : List Loc} {ls : Array Slot}, q_H D A s (wX5_unit cI cJ cZ cS a_t a_s a_keptS a_statuses a_pile a_tape a_steps a_wish a_mark a_bitsOf a_sizeOf a_number a_moved v_isKept v_taped v_at v_fault v_laid v_open v_tape v_steps) H locs → lv_has ls 2 [(0, .ref a_t)] → fX5_unit_189 gX5_any gX5_unit v_taped v_tape v_at v_fault v_laid v_open v_steps = some kk' → W p l e (rX5_unit (dd + 1)) s m args below meth c H locs 0 0 (MQ below (q_Rv D A ((fun k : Int32 × Int32 × Int32 × Int32 × (Nat → Int32) => (wX5_unit cI cJ cZ cS a_t a_s a_keptS a_statuses a_pile a_tape a_steps a_wish a_mark a_bitsOf a_sizeOf a_number a_moved v_isKept v_taped k.1 k.2.1 k.2.2.1 k.2.2.2.1 v_tape k.2.2.2.2)) kk')) args s 0 0 A) (F0 m 189 ls []) := by
  intro v_at v_fault v_laid v_open v_steps H locs ls h hl hf
  have hx := fx.1
  have hb := fx.2.1
  unfold fX5_unit_189 at hf
  refine lv_aload_n hx hb dX5_unit_189 rfl (lv_at hl 0 rfl) ?_
  obtain ⟨k1, hg, hf⟩ := bV_inv hf
  refine q_cv (rest := []) (ws' := (wX5_unit cI cJ cZ cS a_t a_s a_keptS a_statuses a_pile a_tape a_steps a_wish a_mark a_bitsOf a_sizeOf a_number a_moved v_isKept v_taped v_at k1 v_laid v_open v_tape v_steps)) (w1 := (wX5_faulty cI cJ cZ cS a_t a_s a_keptS a_statuses a_pile a_tape a_steps a_wish a_mark a_bitsOf a_sizeOf a_number a_moved v_isKept v_taped v_at k1 v_laid v_open)) fx h [0] rfl rfl rfl rfl (q_runV fx h hl.1 [0] rfl rfl (tX5_faulty l D cI cJ cZ cS tb a_t a_s a_keptS a_statuses a_pile a_tape a_steps a_wish a_mark a_bitsOf a_sizeOf a_number a_moved H.size v_isKept v_taped v_at v_fault v_laid v_open k1 hg) mvX5_faulty k_783 ⟨rfl, rfl⟩ (room_X5_unit_X5_faulty dd) rfl rfl rfl rfl (Nat.le_of_ble_eq_true rfl) dX5_unit_190 ⟨Nat.le_of_ble_eq_true rfl, Nat.le_of_ble_eq_true rfl⟩) (fun H locs h => ?_)
  exact q_retv (fun k : Int32 × Int32 × Int32 × Int32 × (Nat → Int32) => (wX5_unit cI cJ cZ cS a_t a_s a_keptS a_statuses a_pile a_tape a_steps a_wish a_mark a_bitsOf a_sizeOf a_number a_moved v_isKept v_taped k.1 k.2.1 k.2.2.1 k.2.2.2.1 v_tape k.2.2.2.2)) fx hf h dX5_unit_193
def fX5_unit_166 (gX5_any : Int32 → Int32 → Int32 → Int32 → Int32 → (Nat → Int32) → (Nat → Int32) → Option (Int32 × Int32 × Int32 × Int32 × (Nat → Int32))) (gX5_unit : Int32 → Int32 → Int32 → Int32 → Int32 → (Nat → Int32) → (Nat → Int32) → Option (Int32 × Int32 × Int32 × Int32 × (Nat → Int32))) (v_taped : Int32) (v_tape : Nat → Int32) (v_at : Int32) (v_fault : Int32) (v_laid : Int32) (v_open : Int32) (v_steps : Nat → Int32) : Option (Int32 × Int32 × Int32 × Int32 × (Nat → Int32)) :=
  nm (v_at + 1) (fun u2 =>
  nm (v_open - 1) (fun u3 =>
  some (u2, v_fault, v_laid, u3, v_steps)))
set_option maxRecDepth 100000 in
set_option maxHeartbeats 4000000 in
theorem LX5_unit_166 {p : Program} {l : Launch} {e : Env} {s : State} {m : MethodId} {args : Array Value} {below : List Frame} {meth : Method} {c : Code} {D : va_G} {cI cJ cZ cS : ClassId} {tb : Nat} {A : Nat → Prop} {a_t a_s a_keptS a_statuses a_pile a_tape a_steps a_wish a_mark a_bitsOf a_sizeOf a_number a_moved : Nat} {v_isKept : Int32} {v_taped : Int32} {v_tape : Nat → Int32} {kk' : Int32 × Int32 × Int32 × Int32 × (Nat → Int32)} {dd : Nat} {gX5_any : Int32 → Int32 → Int32 → Int32 → Int32 → (Nat → Int32) → (Nat → Int32) → Option (Int32 × Int32 × Int32 × Int32 × (Nat → Int32))} (hgX5_any : ∀ (D : va_G) (cI cJ cZ cS : ClassId) (tb : Nat) (a_t a_s a_keptS a_statuses a_pile a_tape a_steps a_wish a_mark a_bitsOf a_sizeOf a_number a_moved : Nat) (sz : Nat) (v_isKept : Int32) (v_taped : Int32) (v_at : Int32) (v_fault : Int32) (v_laid : Int32) (v_open : Int32) (v_tape : Nat → Int32) (v_steps : Nat → Int32) (kk' : Int32 × Int32 × Int32 × Int32 × (Nat → Int32)) (hf : gX5_any v_taped v_at v_fault v_laid v_open v_tape v_steps = some kk'), Met l yX5_any (Cond.code yX5_any cX5_any 1 none :: wA) (rX5_any dd) (q_Pre D cI cJ cZ cS tb [.ref a_t] sz (wX5_any cI cJ cZ cS a_t a_s a_keptS a_statuses a_pile a_tape a_steps a_wish a_mark a_bitsOf a_sizeOf a_number a_moved v_isKept v_taped v_at v_fault v_laid v_open v_tape v_steps)) (q_Rv D (va_A (wX5_any cI cJ cZ cS a_t a_s a_keptS a_statuses a_pile a_tape a_steps a_wish a_mark a_bitsOf a_sizeOf a_number a_moved v_isKept v_taped v_at v_fault v_laid v_open v_tape v_steps) sz) ((fun k : Int32 × Int32 × Int32 × Int32 × (Nat → Int32) => (wX5_any cI cJ cZ cS a_t a_s a_keptS a_statuses a_pile a_tape a_steps a_wish a_mark a_bitsOf a_sizeOf a_number a_moved v_isKept v_taped k.1 k.2.1 k.2.2.1 k.2.2.2.1 v_tape k.2.2.2.2)) kk')) 0 0 (va_A (wX5_any cI cJ cZ cS a_t a_s a_keptS a_statuses a_pile a_tape a_steps a_wish a_mark a_bitsOf a_sizeOf a_number a_moved v_isKept v_taped v_at v_fault v_laid v_open v_tape v_steps) sz)) {gX5_unit : Int32 → Int32 → Int32 → Int32 → Int32 → (Nat → Int32) → (Nat → Int32) → Option (Int32 × Int32 × Int32 × Int32 × (Nat → Int32))} (hgX5_unit : ∀ (D : va_G) (cI cJ cZ cS : ClassId) (tb : Nat) (a_t a_s a_keptS a_statuses a_pile a_tape a_steps a_wish a_mark a_bitsOf a_sizeOf a_number a_moved : Nat) (sz : Nat) (v_isKept : Int32) (v_taped : Int32) (v_at : Int32) (v_fault : Int32) (v_laid : Int32) (v_open : Int32) (v_tape : Nat → Int32) (v_steps : Nat → Int32) (kk' : Int32 × Int32 × Int32 × Int32 × (Nat → Int32)) (hf : gX5_unit v_taped v_at v_fault v_laid v_open v_tape v_steps = some kk'), Met l yX5_unit (Cond.code yX5_unit cX5_unit 2 none :: wA) (rX5_unit dd) (q_Pre D cI cJ cZ cS tb [.ref a_t] sz (wX5_unit cI cJ cZ cS a_t a_s a_keptS a_statuses a_pile a_tape a_steps a_wish a_mark a_bitsOf a_sizeOf a_number a_moved v_isKept v_taped v_at v_fault v_laid v_open v_tape v_steps)) (q_Rv D (va_A (wX5_unit cI cJ cZ cS a_t a_s a_keptS a_statuses a_pile a_tape a_steps a_wish a_mark a_bitsOf a_sizeOf a_number a_moved v_isKept v_taped v_at v_fault v_laid v_open v_tape v_steps) sz) ((fun k : Int32 × Int32 × Int32 × Int32 × (Nat → Int32) => (wX5_unit cI cJ cZ cS a_t a_s a_keptS a_statuses a_pile a_tape a_steps a_wish a_mark a_bitsOf a_sizeOf a_number a_moved v_isKept v_taped k.1 k.2.1 k.2.2.1 k.2.2.2.1 v_tape k.2.2.2.2)) kk')) 0 0 (va_A (wX5_unit cI cJ cZ cS a_t a_s a_keptS a_statuses a_pile a_tape a_steps a_wish a_mark a_bitsOf a_sizeOf a_number a_moved v_isKept v_taped v_at v_fault v_laid v_open v_tape v_steps) sz)) (fx : q_Fx p s m args meth c cX5_unit 2 RX5 none D cI cJ cZ cS tb A) : ∀ {v_at : Int32} {v_fault : Int32} {v_laid : Int32} {v_open : Int32} {v_steps : Nat → Int32} {H : Heap} {locs : List Loc} {ls : Array Slot}, q_H D A s (wX5_unit cI cJ cZ cS a_t a_s a_keptS a_statuses a_pile a_tape a_steps a_wish a_mark a_bitsOf a_sizeOf a_number a_moved v_isKept v_taped v_at v_fault v_laid v_open v_tape v_steps) H locs → lv_has ls 2 [(0, .ref a_t)] → fX5_unit_166 gX5_any gX5_unit v_taped v_tape v_at v_fault v_laid v_open v_steps = some kk' → W p l e (rX5_unit (dd + 1)) s m args below meth c H locs 0 0 (MQ below (q_Rv D A ((fun k : Int32 × Int32 × Int32 × Int32 × (Nat → Int32) => (wX5_unit cI cJ cZ cS a_t a_s a_keptS a_statuses a_pile a_tape a_steps a_wish a_mark a_bitsOf a_sizeOf a_number a_moved v_isKept v_taped k.1 k.2.1 k.2.2.1 k.2.2.2.1 v_tape k.2.2.2.2)) kk')) args s 0 0 A) (F0 m 166 ls []) := by
  intro v_at v_fault v_laid v_open v_steps H locs ls h hl hf
  have hx := fx.1
  have hb := fx.2.1
  unfold fX5_unit_166 at hf
  refine lv_aload_n hx hb dX5_unit_166 rfl (lv_at hl 0 rfl) ?_
  refine lv_dup hx hb dX5_unit_167 rfl ?_
  refine q_get (v := .int v_at) fx inX5 h 0 rfl rfl 8 (by decide) k_644 rfl dX5_unit_168 ?_
  refine lv_iconst (v := 1) hx hb dX5_unit_171 (by decide) ?_
  refine lv_iadd hx hb dX5_unit_172 ?_
  obtain ⟨u2, eu2, hf⟩ := nm_inv hf
  refine lv_eqi eu2 ?_
  refine q_put (v := .int u2) (ws' := (wX5_unit cI cJ cZ cS a_t a_s a_keptS a_statuses a_pile a_tape a_steps a_wish a_mark a_bitsOf a_sizeOf a_number a_moved v_isKept v_taped u2 v_fault v_laid v_open v_tape v_steps)) fx inX5 tyX5 tyX5_ok nmX5 h 0 rfl rfl 8 (by decide) k_644 rfl rfl rfl (Nat.le_of_ble_eq_true rfl) rfl dX5_unit_173 (fun H locs h => ?_)
  refine lv_aload_n hx hb dX5_unit_176 rfl (lv_at hl 0 rfl) ?_
  refine lv_dup hx hb dX5_unit_177 rfl ?_
  refine q_get (v := .int v_open) fx inX5 h 0 rfl rfl 11 (by decide) k_647 rfl dX5_unit_178 ?_
  refine lv_iconst (v := 1) hx hb dX5_unit_181 (by decide) ?_
  refine lv_isub hx hb dX5_unit_182 ?_
  obtain ⟨u3, eu3, hf⟩ := nm_inv hf
  refine lv_eqi eu3 ?_
  refine q_put (v := .int u3) (ws' := (wX5_unit cI cJ cZ cS a_t a_s a_keptS a_statuses a_pile a_tape a_steps a_wish a_mark a_bitsOf a_sizeOf a_number a_moved v_isKept v_taped u2 v_fault v_laid u3 v_tape v_steps)) fx inX5 tyX5 tyX5_ok nmX5 h 0 rfl rfl 11 (by decide) k_647 rfl rfl rfl (Nat.le_of_ble_eq_true rfl) rfl dX5_unit_183 (fun H locs h => ?_)
  refine lv_goto (tgt := 193) hx hb dX5_unit_186 (by decide) ?_
  exact q_retv (fun k : Int32 × Int32 × Int32 × Int32 × (Nat → Int32) => (wX5_unit cI cJ cZ cS a_t a_s a_keptS a_statuses a_pile a_tape a_steps a_wish a_mark a_bitsOf a_sizeOf a_number a_moved v_isKept v_taped k.1 k.2.1 k.2.2.1 k.2.2.2.1 v_tape k.2.2.2.2)) fx hf h dX5_unit_193
def fX5_unit_129 (gX5_any : Int32 → Int32 → Int32 → Int32 → Int32 → (Nat → Int32) → (Nat → Int32) → Option (Int32 × Int32 × Int32 × Int32 × (Nat → Int32))) (gX5_unit : Int32 → Int32 → Int32 → Int32 → Int32 → (Nat → Int32) → (Nat → Int32) → Option (Int32 × Int32 × Int32 × Int32 × (Nat → Int32))) (v_taped : Int32) (v_tape : Nat → Int32) (v_at : Int32) (v_fault : Int32) (v_laid : Int32) (v_open : Int32) (v_steps : Nat → Int32) (y1 : Int32) : Option (Int32 × Int32 × Int32 × Int32 × (Nat → Int32)) :=
  (if y1 = 40 then (
  bR (fX5_opens v_at v_fault v_open) (fun r5 k5 =>
  (if r5 = 0 then (
  fX5_unit_189 gX5_any gX5_unit v_taped v_tape k5.1 k5.2.1 v_laid k5.2.2 v_steps)
  else (
  bV (gX5_any v_taped k5.1 k5.2.1 v_laid k5.2.2 v_tape v_steps) (fun k7 =>
  (if (0 : Int32) ≤ k7.2.1 then (
  fX5_unit_166 gX5_any gX5_unit v_taped v_tape k7.1 k7.2.1 k7.2.2.1 k7.2.2.2.1 k7.2.2.2.2)
  else (
  bR (fX5_look v_taped k7.1 v_tape) (fun r9 k9 =>
  (if r9 = 41 then (
  fX5_unit_166 gX5_any gX5_unit v_taped v_tape k7.1 k7.2.1 k7.2.2.1 k7.2.2.2.1 k7.2.2.2.2)
  else (
  bV (fX5_faulty k7.1 k7.2.1) (fun k11 =>
  fX5_unit_166 gX5_any gX5_unit v_taped v_tape k7.1 k11 k7.2.2.1 k7.2.2.2.1 k7.2.2.2.2)))))))))))
  else (
  fX5_unit_189 gX5_any gX5_unit v_taped v_tape v_at v_fault v_laid v_open v_steps))
set_option maxRecDepth 100000 in
set_option maxHeartbeats 4000000 in
theorem LX5_unit_129 {p : Program} {l : Launch} {e : Env} {s : State} {m : MethodId} {args : Array Value} {below : List Frame} {meth : Method} {c : Code} {D : va_G} {cI cJ cZ cS : ClassId} {tb : Nat} {A : Nat → Prop} {a_t a_s a_keptS a_statuses a_pile a_tape a_steps a_wish a_mark a_bitsOf a_sizeOf a_number a_moved : Nat} {v_isKept : Int32} {v_taped : Int32} {v_tape : Nat → Int32} {kk' : Int32 × Int32 × Int32 × Int32 × (Nat → Int32)} {dd : Nat} {gX5_any : Int32 → Int32 → Int32 → Int32 → Int32 → (Nat → Int32) → (Nat → Int32) → Option (Int32 × Int32 × Int32 × Int32 × (Nat → Int32))} (hgX5_any : ∀ (D : va_G) (cI cJ cZ cS : ClassId) (tb : Nat) (a_t a_s a_keptS a_statuses a_pile a_tape a_steps a_wish a_mark a_bitsOf a_sizeOf a_number a_moved : Nat) (sz : Nat) (v_isKept : Int32) (v_taped : Int32) (v_at : Int32) (v_fault : Int32) (v_laid : Int32) (v_open : Int32) (v_tape : Nat → Int32) (v_steps : Nat → Int32) (kk' : Int32 × Int32 × Int32 × Int32 × (Nat → Int32)) (hf : gX5_any v_taped v_at v_fault v_laid v_open v_tape v_steps = some kk'), Met l yX5_any (Cond.code yX5_any cX5_any 1 none :: wA) (rX5_any dd) (q_Pre D cI cJ cZ cS tb [.ref a_t] sz (wX5_any cI cJ cZ cS a_t a_s a_keptS a_statuses a_pile a_tape a_steps a_wish a_mark a_bitsOf a_sizeOf a_number a_moved v_isKept v_taped v_at v_fault v_laid v_open v_tape v_steps)) (q_Rv D (va_A (wX5_any cI cJ cZ cS a_t a_s a_keptS a_statuses a_pile a_tape a_steps a_wish a_mark a_bitsOf a_sizeOf a_number a_moved v_isKept v_taped v_at v_fault v_laid v_open v_tape v_steps) sz) ((fun k : Int32 × Int32 × Int32 × Int32 × (Nat → Int32) => (wX5_any cI cJ cZ cS a_t a_s a_keptS a_statuses a_pile a_tape a_steps a_wish a_mark a_bitsOf a_sizeOf a_number a_moved v_isKept v_taped k.1 k.2.1 k.2.2.1 k.2.2.2.1 v_tape k.2.2.2.2)) kk')) 0 0 (va_A (wX5_any cI cJ cZ cS a_t a_s a_keptS a_statuses a_pile a_tape a_steps a_wish a_mark a_bitsOf a_sizeOf a_number a_moved v_isKept v_taped v_at v_fault v_laid v_open v_tape v_steps) sz)) {gX5_unit : Int32 → Int32 → Int32 → Int32 → Int32 → (Nat → Int32) → (Nat → Int32) → Option (Int32 × Int32 × Int32 × Int32 × (Nat → Int32))} (hgX5_unit : ∀ (D : va_G) (cI cJ cZ cS : ClassId) (tb : Nat) (a_t a_s a_keptS a_statuses a_pile a_tape a_steps a_wish a_mark a_bitsOf a_sizeOf a_number a_moved : Nat) (sz : Nat) (v_isKept : Int32) (v_taped : Int32) (v_at : Int32) (v_fault : Int32) (v_laid : Int32) (v_open : Int32) (v_tape : Nat → Int32) (v_steps : Nat → Int32) (kk' : Int32 × Int32 × Int32 × Int32 × (Nat → Int32)) (hf : gX5_unit v_taped v_at v_fault v_laid v_open v_tape v_steps = some kk'), Met l yX5_unit (Cond.code yX5_unit cX5_unit 2 none :: wA) (rX5_unit dd) (q_Pre D cI cJ cZ cS tb [.ref a_t] sz (wX5_unit cI cJ cZ cS a_t a_s a_keptS a_statuses a_pile a_tape a_steps a_wish a_mark a_bitsOf a_sizeOf a_number a_moved v_isKept v_taped v_at v_fault v_laid v_open v_tape v_steps)) (q_Rv D (va_A (wX5_unit cI cJ cZ cS a_t a_s a_keptS a_statuses a_pile a_tape a_steps a_wish a_mark a_bitsOf a_sizeOf a_number a_moved v_isKept v_taped v_at v_fault v_laid v_open v_tape v_steps) sz) ((fun k : Int32 × Int32 × Int32 × Int32 × (Nat → Int32) => (wX5_unit cI cJ cZ cS a_t a_s a_keptS a_statuses a_pile a_tape a_steps a_wish a_mark a_bitsOf a_sizeOf a_number a_moved v_isKept v_taped k.1 k.2.1 k.2.2.1 k.2.2.2.1 v_tape k.2.2.2.2)) kk')) 0 0 (va_A (wX5_unit cI cJ cZ cS a_t a_s a_keptS a_statuses a_pile a_tape a_steps a_wish a_mark a_bitsOf a_sizeOf a_number a_moved v_isKept v_taped v_at v_fault v_laid v_open v_tape v_steps) sz)) (fx : q_Fx p s m args meth c cX5_unit 2 RX5 none D cI cJ cZ cS tb A) : ∀ {v_at : Int32} {v_fault : Int32} {v_laid : Int32} {v_open : Int32} {v_steps : Nat → Int32} {y1 : Int32} {H : Heap} {locs : List Loc} {ls : Array Slot}, q_H D A s (wX5_unit cI cJ cZ cS a_t a_s a_keptS a_statuses a_pile a_tape a_steps a_wish a_mark a_bitsOf a_sizeOf a_number a_moved v_isKept v_taped v_at v_fault v_laid v_open v_tape v_steps) H locs → lv_has ls 2 [(0, .ref a_t), (1, .int y1)] → fX5_unit_129 gX5_any gX5_unit v_taped v_tape v_at v_fault v_laid v_open v_steps y1 = some kk' → W p l e (rX5_unit (dd + 1)) s m args below meth c H locs 0 0 (MQ below (q_Rv D A ((fun k : Int32 × Int32 × Int32 × Int32 × (Nat → Int32) => (wX5_unit cI cJ cZ cS a_t a_s a_keptS a_statuses a_pile a_tape a_steps a_wish a_mark a_bitsOf a_sizeOf a_number a_moved v_isKept v_taped k.1 k.2.1 k.2.2.1 k.2.2.2.1 v_tape k.2.2.2.2)) kk')) args s 0 0 A) (F0 m 129 ls []) := by
  intro v_at v_fault v_laid v_open v_steps y1 H locs ls h hl hf
  have hx := fx.1
  have hb := fx.2.1
  unfold fX5_unit_129 at hf
  refine lv_iload_n hx hb dX5_unit_129 rfl (lv_at hl 1 rfl) ?_
  refine lv_bipush (v := 40) hx hb dX5_unit_130 (by decide) ?_
  refine lv_icmp_ne (tgt := 189) hx hb dX5_unit_132 (by decide) (fun c4 => ?_) (fun c4 => ?_)
  · have hf := it_f c4 hf
    exact LX5_unit_189 hgX5_any hgX5_unit fx h (lv_sub hl [0] rfl) hf
  have hf := it_t c4 hf
  refine lv_aload_n hx hb dX5_unit_135 rfl (lv_at hl 0 rfl) ?_
  obtain ⟨r5, k5, hg, hf⟩ := bR_inv hf
  refine q_ci (rest := []) (ws' := (wX5_unit cI cJ cZ cS a_t a_s a_keptS a_statuses a_pile a_tape a_steps a_wish a_mark a_bitsOf a_sizeOf a_number a_moved v_isKept v_taped k5.1 k5.2.1 v_laid k5.2.2 v_tape v_steps)) (w1 := (wX5_opens cI cJ cZ cS a_t a_s a_keptS a_statuses a_pile a_tape a_steps a_wish a_mark a_bitsOf a_sizeOf a_number a_moved v_isKept v_taped k5.1 k5.2.1 v_laid k5.2.2)) fx h [0] rfl rfl rfl rfl (q_runV fx h hl.1 [0] rfl rfl (tX5_opens l D cI cJ cZ cS tb a_t a_s a_keptS a_statuses a_pile a_tape a_steps a_wish a_mark a_bitsOf a_sizeOf a_number a_moved H.size v_isKept v_taped v_at v_fault v_laid v_open r5 k5 hg) mvX5_opens k_789 ⟨rfl, rfl⟩ (room_X5_unit_X5_opens dd) rfl rfl rfl rfl (Nat.le_of_ble_eq_true rfl) dX5_unit_136 ⟨Nat.le_of_ble_eq_true rfl, Nat.le_of_ble_eq_true rfl⟩) (fun H locs h => ?_)
  refine lv_if_eq (tgt := 189) hx hb dX5_unit_139 (by decide) (fun c6 => ?_) (fun c6 => ?_)
  · have hf := it_t c6 hf
    exact LX5_unit_189 hgX5_any hgX5_unit fx h (lv_sub hl [0] rfl) hf
  have hf := it_f c6 hf
  refine lv_aload_n hx hb dX5_unit_142 rfl (lv_at hl 0 rfl) ?_
  obtain ⟨k7, hg, hf⟩ := bV_inv hf
  refine q_cv (rest := []) (ws' := (wX5_unit cI cJ cZ cS a_t a_s a_keptS a_statuses a_pile a_tape a_steps a_wish a_mark a_bitsOf a_sizeOf a_number a_moved v_isKept v_taped k7.1 k7.2.1 k7.2.2.1 k7.2.2.2.1 v_tape k7.2.2.2.2)) (w1 := (wX5_any cI cJ cZ cS a_t a_s a_keptS a_statuses a_pile a_tape a_steps a_wish a_mark a_bitsOf a_sizeOf a_number a_moved v_isKept v_taped k7.1 k7.2.1 k7.2.2.1 k7.2.2.2.1 v_tape k7.2.2.2.2)) fx h [0, 1, 2] rfl rfl rfl rfl (q_runV fx h hl.1 [0, 1, 2] rfl rfl (hgX5_any D cI cJ cZ cS tb a_t a_s a_keptS a_statuses a_pile a_tape a_steps a_wish a_mark a_bitsOf a_sizeOf a_number a_moved H.size v_isKept v_taped k5.1 k5.2.1 v_laid k5.2.2 v_tape v_steps k7 hg) mvX5_any k_757 ⟨rfl, rfl⟩ (room_X5_unit_X5_any dd) rfl rfl rfl rfl (Nat.le_of_ble_eq_true rfl) dX5_unit_143 ⟨Nat.le_of_ble_eq_true rfl, Nat.le_of_ble_eq_true rfl⟩) (fun H locs h => ?_)
  refine lv_aload_n hx hb dX5_unit_146 rfl (lv_at hl 0 rfl) ?_
  refine q_get (v := .int k7.2.1) fx inX5 h 0 rfl rfl 9 (by decide) k_645 rfl dX5_unit_147 ?_
  refine lv_if_ge (tgt := 166) hx hb dX5_unit_150 (by decide) (fun c8 => ?_) (fun c8 => ?_)
  · have hf := it_t c8 hf
    exact LX5_unit_166 hgX5_any hgX5_unit fx h (lv_sub hl [0] rfl) hf
  have hf := it_f c8 hf
  refine lv_aload_n hx hb dX5_unit_153 rfl (lv_at hl 0 rfl) ?_
  obtain ⟨r9, k9, hg, hf⟩ := bR_inv hf
  refine q_ci (rest := []) (ws' := (wX5_unit cI cJ cZ cS a_t a_s a_keptS a_statuses a_pile a_tape a_steps a_wish a_mark a_bitsOf a_sizeOf a_number a_moved v_isKept v_taped k7.1 k7.2.1 k7.2.2.1 k7.2.2.2.1 v_tape k7.2.2.2.2)) (w1 := (wX5_look cI cJ cZ cS a_t a_s a_keptS a_statuses a_pile a_tape a_steps a_wish a_mark a_bitsOf a_sizeOf a_number a_moved v_isKept v_taped k7.1 k7.2.1 k7.2.2.1 k7.2.2.2.1 v_tape)) fx h [0, 1] rfl rfl rfl rfl (q_runV fx h hl.1 [0, 1] rfl rfl (tX5_look l D cI cJ cZ cS tb a_t a_s a_keptS a_statuses a_pile a_tape a_steps a_wish a_mark a_bitsOf a_sizeOf a_number a_moved H.size v_isKept v_taped k7.1 k7.2.1 k7.2.2.1 k7.2.2.2.1 v_tape r9 k9 hg) mvX5_look k_769 ⟨rfl, rfl⟩ (room_X5_unit_X5_look dd) rfl rfl rfl rfl (Nat.le_of_ble_eq_true rfl) dX5_unit_154 ⟨Nat.le_of_ble_eq_true rfl, Nat.le_of_ble_eq_true rfl⟩) (fun H locs h => ?_)
  refine lv_bipush (v := 41) hx hb dX5_unit_157 (by decide) ?_
  refine lv_icmp_eq (tgt := 166) hx hb dX5_unit_159 (by decide) (fun c10 => ?_) (fun c10 => ?_)
  · have hf := it_t c10 hf
    exact LX5_unit_166 hgX5_any hgX5_unit fx h (lv_sub hl [0] rfl) hf
  have hf := it_f c10 hf
  refine lv_aload_n hx hb dX5_unit_162 rfl (lv_at hl 0 rfl) ?_
  obtain ⟨k11, hg, hf⟩ := bV_inv hf
  refine q_cv (rest := []) (ws' := (wX5_unit cI cJ cZ cS a_t a_s a_keptS a_statuses a_pile a_tape a_steps a_wish a_mark a_bitsOf a_sizeOf a_number a_moved v_isKept v_taped k7.1 k11 k7.2.2.1 k7.2.2.2.1 v_tape k7.2.2.2.2)) (w1 := (wX5_faulty cI cJ cZ cS a_t a_s a_keptS a_statuses a_pile a_tape a_steps a_wish a_mark a_bitsOf a_sizeOf a_number a_moved v_isKept v_taped k7.1 k11 k7.2.2.1 k7.2.2.2.1)) fx h [0] rfl rfl rfl rfl (q_runV fx h hl.1 [0] rfl rfl (tX5_faulty l D cI cJ cZ cS tb a_t a_s a_keptS a_statuses a_pile a_tape a_steps a_wish a_mark a_bitsOf a_sizeOf a_number a_moved H.size v_isKept v_taped k7.1 k7.2.1 k7.2.2.1 k7.2.2.2.1 k11 hg) mvX5_faulty k_783 ⟨rfl, rfl⟩ (room_X5_unit_X5_faulty dd) rfl rfl rfl rfl (Nat.le_of_ble_eq_true rfl) dX5_unit_163 ⟨Nat.le_of_ble_eq_true rfl, Nat.le_of_ble_eq_true rfl⟩) (fun H locs h => ?_)
  exact LX5_unit_166 hgX5_any hgX5_unit fx h (lv_sub hl [0] rfl) hf
def fX5_unit_58 (gX5_any : Int32 → Int32 → Int32 → Int32 → Int32 → (Nat → Int32) → (Nat → Int32) → Option (Int32 × Int32 × Int32 × Int32 × (Nat → Int32))) (gX5_unit : Int32 → Int32 → Int32 → Int32 → Int32 → (Nat → Int32) → (Nat → Int32) → Option (Int32 × Int32 × Int32 × Int32 × (Nat → Int32))) (v_taped : Int32) (v_tape : Nat → Int32) (v_at : Int32) (v_fault : Int32) (v_laid : Int32) (v_open : Int32) (v_steps : Nat → Int32) (s1 : Int32) : Option (Int32 × Int32 × Int32 × Int32 × (Nat → Int32)) :=
  bV (fX5_lay v_at v_laid v_steps s1) (fun k12 =>
  some (k12.1, v_fault, k12.2.1, v_open, k12.2.2))
set_option maxRecDepth 100000 in
set_option maxHeartbeats 4000000 in
theorem LX5_unit_58 {p : Program} {l : Launch} {e : Env} {s : State} {m : MethodId} {args : Array Value} {below : List Frame} {meth : Method} {c : Code} {D : va_G} {cI cJ cZ cS : ClassId} {tb : Nat} {A : Nat → Prop} {a_t a_s a_keptS a_statuses a_pile a_tape a_steps a_wish a_mark a_bitsOf a_sizeOf a_number a_moved : Nat} {v_isKept : Int32} {v_taped : Int32} {v_tape : Nat → Int32} {kk' : Int32 × Int32 × Int32 × Int32 × (Nat → Int32)} {dd : Nat} {gX5_any : Int32 → Int32 → Int32 → Int32 → Int32 → (Nat → Int32) → (Nat → Int32) → Option (Int32 × Int32 × Int32 × Int32 × (Nat → Int32))} (hgX5_any : ∀ (D : va_G) (cI cJ cZ cS : ClassId) (tb : Nat) (a_t a_s a_keptS a_statuses a_pile a_tape a_steps a_wish a_mark a_bitsOf a_sizeOf a_number a_moved : Nat) (sz : Nat) (v_isKept : Int32) (v_taped : Int32) (v_at : Int32) (v_fault : Int32) (v_laid : Int32) (v_open : Int32) (v_tape : Nat → Int32) (v_steps : Nat → Int32) (kk' : Int32 × Int32 × Int32 × Int32 × (Nat → Int32)) (hf : gX5_any v_taped v_at v_fault v_laid v_open v_tape v_steps = some kk'), Met l yX5_any (Cond.code yX5_any cX5_any 1 none :: wA) (rX5_any dd) (q_Pre D cI cJ cZ cS tb [.ref a_t] sz (wX5_any cI cJ cZ cS a_t a_s a_keptS a_statuses a_pile a_tape a_steps a_wish a_mark a_bitsOf a_sizeOf a_number a_moved v_isKept v_taped v_at v_fault v_laid v_open v_tape v_steps)) (q_Rv D (va_A (wX5_any cI cJ cZ cS a_t a_s a_keptS a_statuses a_pile a_tape a_steps a_wish a_mark a_bitsOf a_sizeOf a_number a_moved v_isKept v_taped v_at v_fault v_laid v_open v_tape v_steps) sz) ((fun k : Int32 × Int32 × Int32 × Int32 × (Nat → Int32) => (wX5_any cI cJ cZ cS a_t a_s a_keptS a_statuses a_pile a_tape a_steps a_wish a_mark a_bitsOf a_sizeOf a_number a_moved v_isKept v_taped k.1 k.2.1 k.2.2.1 k.2.2.2.1 v_tape k.2.2.2.2)) kk')) 0 0 (va_A (wX5_any cI cJ cZ cS a_t a_s a_keptS a_statuses a_pile a_tape a_steps a_wish a_mark a_bitsOf a_sizeOf a_number a_moved v_isKept v_taped v_at v_fault v_laid v_open v_tape v_steps) sz)) {gX5_unit : Int32 → Int32 → Int32 → Int32 → Int32 → (Nat → Int32) → (Nat → Int32) → Option (Int32 × Int32 × Int32 × Int32 × (Nat → Int32))} (hgX5_unit : ∀ (D : va_G) (cI cJ cZ cS : ClassId) (tb : Nat) (a_t a_s a_keptS a_statuses a_pile a_tape a_steps a_wish a_mark a_bitsOf a_sizeOf a_number a_moved : Nat) (sz : Nat) (v_isKept : Int32) (v_taped : Int32) (v_at : Int32) (v_fault : Int32) (v_laid : Int32) (v_open : Int32) (v_tape : Nat → Int32) (v_steps : Nat → Int32) (kk' : Int32 × Int32 × Int32 × Int32 × (Nat → Int32)) (hf : gX5_unit v_taped v_at v_fault v_laid v_open v_tape v_steps = some kk'), Met l yX5_unit (Cond.code yX5_unit cX5_unit 2 none :: wA) (rX5_unit dd) (q_Pre D cI cJ cZ cS tb [.ref a_t] sz (wX5_unit cI cJ cZ cS a_t a_s a_keptS a_statuses a_pile a_tape a_steps a_wish a_mark a_bitsOf a_sizeOf a_number a_moved v_isKept v_taped v_at v_fault v_laid v_open v_tape v_steps)) (q_Rv D (va_A (wX5_unit cI cJ cZ cS a_t a_s a_keptS a_statuses a_pile a_tape a_steps a_wish a_mark a_bitsOf a_sizeOf a_number a_moved v_isKept v_taped v_at v_fault v_laid v_open v_tape v_steps) sz) ((fun k : Int32 × Int32 × Int32 × Int32 × (Nat → Int32) => (wX5_unit cI cJ cZ cS a_t a_s a_keptS a_statuses a_pile a_tape a_steps a_wish a_mark a_bitsOf a_sizeOf a_number a_moved v_isKept v_taped k.1 k.2.1 k.2.2.1 k.2.2.2.1 v_tape k.2.2.2.2)) kk')) 0 0 (va_A (wX5_unit cI cJ cZ cS a_t a_s a_keptS a_statuses a_pile a_tape a_steps a_wish a_mark a_bitsOf a_sizeOf a_number a_moved v_isKept v_taped v_at v_fault v_laid v_open v_tape v_steps) sz)) (fx : q_Fx p s m args meth c cX5_unit 2 RX5 none D cI cJ cZ cS tb A) : ∀ {v_at : Int32} {v_fault : Int32} {v_laid : Int32} {v_open : Int32} {v_steps : Nat → Int32} {s1 : Int32} {H : Heap} {locs : List Loc} {ls : Array Slot}, q_H D A s (wX5_unit cI cJ cZ cS a_t a_s a_keptS a_statuses a_pile a_tape a_steps a_wish a_mark a_bitsOf a_sizeOf a_number a_moved v_isKept v_taped v_at v_fault v_laid v_open v_tape v_steps) H locs → lv_has ls 2 [] → fX5_unit_58 gX5_any gX5_unit v_taped v_tape v_at v_fault v_laid v_open v_steps s1 = some kk' → W p l e (rX5_unit (dd + 1)) s m args below meth c H locs 0 0 (MQ below (q_Rv D A ((fun k : Int32 × Int32 × Int32 × Int32 × (Nat → Int32) => (wX5_unit cI cJ cZ cS a_t a_s a_keptS a_statuses a_pile a_tape a_steps a_wish a_mark a_bitsOf a_sizeOf a_number a_moved v_isKept v_taped k.1 k.2.1 k.2.2.1 k.2.2.2.1 v_tape k.2.2.2.2)) kk')) args s 0 0 A) (F0 m 58 ls [.int s1, .ref a_t]) := by
  intro v_at v_fault v_laid v_open v_steps s1 H locs ls h hl hf
  have hx := fx.1
  have hb := fx.2.1
  unfold fX5_unit_58 at hf
  obtain ⟨k12, hg, hf⟩ := bV_inv hf
  refine q_cv (rest := []) (ws' := (wX5_unit cI cJ cZ cS a_t a_s a_keptS a_statuses a_pile a_tape a_steps a_wish a_mark a_bitsOf a_sizeOf a_number a_moved v_isKept v_taped k12.1 v_fault k12.2.1 v_open v_tape k12.2.2)) (w1 := (wX5_lay cI cJ cZ cS a_t a_s a_keptS a_statuses a_pile a_tape a_steps a_wish a_mark a_bitsOf a_sizeOf a_number a_moved v_isKept v_taped k12.1 v_fault k12.2.1 v_open k12.2.2)) fx h [0, 2] rfl rfl rfl rfl (q_runV fx h hl.1 [0, 2] rfl rfl (tX5_lay l D cI cJ cZ cS tb a_t a_s a_keptS a_statuses a_pile a_tape a_steps a_wish a_mark a_bitsOf a_sizeOf a_number a_moved H.size v_isKept v_taped v_at v_fault v_laid v_open v_steps s1 k12 hg) mvX5_lay k_775 ⟨rfl, rfl⟩ (room_X5_unit_X5_lay dd) rfl rfl rfl rfl (Nat.le_of_ble_eq_true rfl) dX5_unit_58 ⟨Nat.le_of_ble_eq_true rfl, Nat.le_of_ble_eq_true rfl⟩) (fun H locs h => ?_)
  refine lv_goto (tgt := 193) hx hb dX5_unit_61 (by decide) ?_
  exact q_retv (fun k : Int32 × Int32 × Int32 × Int32 × (Nat → Int32) => (wX5_unit cI cJ cZ cS a_t a_s a_keptS a_statuses a_pile a_tape a_steps a_wish a_mark a_bitsOf a_sizeOf a_number a_moved v_isKept v_taped k.1 k.2.1 k.2.2.1 k.2.2.2.1 v_tape k.2.2.2.2)) fx hf h dX5_unit_193
def fX5_unit_42 (gX5_any : Int32 → Int32 → Int32 → Int32 → Int32 → (Nat → Int32) → (Nat → Int32) → Option (Int32 × Int32 × Int32 × Int32 × (Nat → Int32))) (gX5_unit : Int32 → Int32 → Int32 → Int32 → Int32 → (Nat → Int32) → (Nat → Int32) → Option (Int32 × Int32 × Int32 × Int32 × (Nat → Int32))) (v_taped : Int32) (v_tape : Nat → Int32) (v_at : Int32) (v_fault : Int32) (v_laid : Int32) (v_open : Int32) (v_steps : Nat → Int32) (y1 : Int32) : Option (Int32 × Int32 × Int32 × Int32 × (Nat → Int32)) :=
  (if y1 = 49 then (
  fX5_unit_58 gX5_any gX5_unit v_taped v_tape v_at v_fault v_laid v_open v_steps 130)
  else (
  fX5_unit_58 gX5_any gX5_unit v_taped v_tape v_at v_fault v_laid v_open v_steps 131))
set_option maxRecDepth 100000 in
set_option maxHeartbeats 4000000 in
theorem LX5_unit_42 {p : Program} {l : Launch} {e : Env} {s : State} {m : MethodId} {args : Array Value} {below : List Frame} {meth : Method} {c : Code} {D : va_G} {cI cJ cZ cS : ClassId} {tb : Nat} {A : Nat → Prop} {a_t a_s a_keptS a_statuses a_pile a_tape a_steps a_wish a_mark a_bitsOf a_sizeOf a_number a_moved : Nat} {v_isKept : Int32} {v_taped : Int32} {v_tape : Nat → Int32} {kk' : Int32 × Int32 × Int32 × Int32 × (Nat → Int32)} {dd : Nat} {gX5_any : Int32 → Int32 → Int32 → Int32 → Int32 → (Nat → Int32) → (Nat → Int32) → Option (Int32 × Int32 × Int32 × Int32 × (Nat → Int32))} (hgX5_any : ∀ (D : va_G) (cI cJ cZ cS : ClassId) (tb : Nat) (a_t a_s a_keptS a_statuses a_pile a_tape a_steps a_wish a_mark a_bitsOf a_sizeOf a_number a_moved : Nat) (sz : Nat) (v_isKept : Int32) (v_taped : Int32) (v_at : Int32) (v_fault : Int32) (v_laid : Int32) (v_open : Int32) (v_tape : Nat → Int32) (v_steps : Nat → Int32) (kk' : Int32 × Int32 × Int32 × Int32 × (Nat → Int32)) (hf : gX5_any v_taped v_at v_fault v_laid v_open v_tape v_steps = some kk'), Met l yX5_any (Cond.code yX5_any cX5_any 1 none :: wA) (rX5_any dd) (q_Pre D cI cJ cZ cS tb [.ref a_t] sz (wX5_any cI cJ cZ cS a_t a_s a_keptS a_statuses a_pile a_tape a_steps a_wish a_mark a_bitsOf a_sizeOf a_number a_moved v_isKept v_taped v_at v_fault v_laid v_open v_tape v_steps)) (q_Rv D (va_A (wX5_any cI cJ cZ cS a_t a_s a_keptS a_statuses a_pile a_tape a_steps a_wish a_mark a_bitsOf a_sizeOf a_number a_moved v_isKept v_taped v_at v_fault v_laid v_open v_tape v_steps) sz) ((fun k : Int32 × Int32 × Int32 × Int32 × (Nat → Int32) => (wX5_any cI cJ cZ cS a_t a_s a_keptS a_statuses a_pile a_tape a_steps a_wish a_mark a_bitsOf a_sizeOf a_number a_moved v_isKept v_taped k.1 k.2.1 k.2.2.1 k.2.2.2.1 v_tape k.2.2.2.2)) kk')) 0 0 (va_A (wX5_any cI cJ cZ cS a_t a_s a_keptS a_statuses a_pile a_tape a_steps a_wish a_mark a_bitsOf a_sizeOf a_number a_moved v_isKept v_taped v_at v_fault v_laid v_open v_tape v_steps) sz)) {gX5_unit : Int32 → Int32 → Int32 → Int32 → Int32 → (Nat → Int32) → (Nat → Int32) → Option (Int32 × Int32 × Int32 × Int32 × (Nat → Int32))} (hgX5_unit : ∀ (D : va_G) (cI cJ cZ cS : ClassId) (tb : Nat) (a_t a_s a_keptS a_statuses a_pile a_tape a_steps a_wish a_mark a_bitsOf a_sizeOf a_number a_moved : Nat) (sz : Nat) (v_isKept : Int32) (v_taped : Int32) (v_at : Int32) (v_fault : Int32) (v_laid : Int32) (v_open : Int32) (v_tape : Nat → Int32) (v_steps : Nat → Int32) (kk' : Int32 × Int32 × Int32 × Int32 × (Nat → Int32)) (hf : gX5_unit v_taped v_at v_fault v_laid v_open v_tape v_steps = some kk'), Met l yX5_unit (Cond.code yX5_unit cX5_unit 2 none :: wA) (rX5_unit dd) (q_Pre D cI cJ cZ cS tb [.ref a_t] sz (wX5_unit cI cJ cZ cS a_t a_s a_keptS a_statuses a_pile a_tape a_steps a_wish a_mark a_bitsOf a_sizeOf a_number a_moved v_isKept v_taped v_at v_fault v_laid v_open v_tape v_steps)) (q_Rv D (va_A (wX5_unit cI cJ cZ cS a_t a_s a_keptS a_statuses a_pile a_tape a_steps a_wish a_mark a_bitsOf a_sizeOf a_number a_moved v_isKept v_taped v_at v_fault v_laid v_open v_tape v_steps) sz) ((fun k : Int32 × Int32 × Int32 × Int32 × (Nat → Int32) => (wX5_unit cI cJ cZ cS a_t a_s a_keptS a_statuses a_pile a_tape a_steps a_wish a_mark a_bitsOf a_sizeOf a_number a_moved v_isKept v_taped k.1 k.2.1 k.2.2.1 k.2.2.2.1 v_tape k.2.2.2.2)) kk')) 0 0 (va_A (wX5_unit cI cJ cZ cS a_t a_s a_keptS a_statuses a_pile a_tape a_steps a_wish a_mark a_bitsOf a_sizeOf a_number a_moved v_isKept v_taped v_at v_fault v_laid v_open v_tape v_steps) sz)) (fx : q_Fx p s m args meth c cX5_unit 2 RX5 none D cI cJ cZ cS tb A) : ∀ {v_at : Int32} {v_fault : Int32} {v_laid : Int32} {v_open : Int32} {v_steps : Nat → Int32} {y1 : Int32} {H : Heap} {locs : List Loc} {ls : Array Slot}, q_H D A s (wX5_unit cI cJ cZ cS a_t a_s a_keptS a_statuses a_pile a_tape a_steps a_wish a_mark a_bitsOf a_sizeOf a_number a_moved v_isKept v_taped v_at v_fault v_laid v_open v_tape v_steps) H locs → lv_has ls 2 [(0, .ref a_t), (1, .int y1)] → fX5_unit_42 gX5_any gX5_unit v_taped v_tape v_at v_fault v_laid v_open v_steps y1 = some kk' → W p l e (rX5_unit (dd + 1)) s m args below meth c H locs 0 0 (MQ below (q_Rv D A ((fun k : Int32 × Int32 × Int32 × Int32 × (Nat → Int32) => (wX5_unit cI cJ cZ cS a_t a_s a_keptS a_statuses a_pile a_tape a_steps a_wish a_mark a_bitsOf a_sizeOf a_number a_moved v_isKept v_taped k.1 k.2.1 k.2.2.1 k.2.2.2.1 v_tape k.2.2.2.2)) kk')) args s 0 0 A) (F0 m 42 ls []) := by
  intro v_at v_fault v_laid v_open v_steps y1 H locs ls h hl hf
  have hx := fx.1
  have hb := fx.2.1
  unfold fX5_unit_42 at hf
  refine lv_aload_n hx hb dX5_unit_42 rfl (lv_at hl 0 rfl) ?_
  refine lv_iload_n hx hb dX5_unit_43 rfl (lv_at hl 1 rfl) ?_
  refine lv_bipush (v := 49) hx hb dX5_unit_44 (by decide) ?_
  refine lv_icmp_ne (tgt := 55) hx hb dX5_unit_46 (by decide) (fun c13 => ?_) (fun c13 => ?_)
  · have hf := it_f c13 hf
    refine lv_sipush (v := 131) hx hb dX5_unit_55 (by decide) ?_
    exact LX5_unit_58 hgX5_any hgX5_unit fx h (lv_sub hl [] rfl) hf
  have hf := it_t c13 hf
  refine lv_sipush (v := 130) hx hb dX5_unit_49 (by decide) ?_
  refine lv_goto (tgt := 58) hx hb dX5_unit_52 (by decide) ?_
  exact LX5_unit_58 hgX5_any hgX5_unit fx h (lv_sub hl [] rfl) hf
def fX5_unit (gX5_any : Int32 → Int32 → Int32 → Int32 → Int32 → (Nat → Int32) → (Nat → Int32) → Option (Int32 × Int32 × Int32 × Int32 × (Nat → Int32))) (gX5_unit : Int32 → Int32 → Int32 → Int32 → Int32 → (Nat → Int32) → (Nat → Int32) → Option (Int32 × Int32 × Int32 × Int32 × (Nat → Int32))) (v_taped : Int32) (v_at : Int32) (v_fault : Int32) (v_laid : Int32) (v_open : Int32) (v_tape : Nat → Int32) (v_steps : Nat → Int32) : Option (Int32 × Int32 × Int32 × Int32 × (Nat → Int32)) :=
  bR (fX5_look v_taped v_at v_tape) (fun r14 k14 =>
  bR (fX5_in (r14.toInt64) 97 104) (fun r15 k15 =>
  (if r15 = 0 then (
  (if r14 = 48 then (
  fX5_unit_42 gX5_any gX5_unit v_taped v_tape v_at v_fault v_laid v_open v_steps r14)
  else (
  (if r14 = 49 then (
  fX5_unit_42 gX5_any gX5_unit v_taped v_tape v_at v_fault v_laid v_open v_steps r14)
  else (
  (if r14 = 110 then (
  bV (fX5_counted v_taped v_at v_fault v_laid v_tape v_steps) (fun k27 =>
  some (k27.1, k27.2.1, k27.2.2.1, v_open, k27.2.2.2)))
  else (
  (if r14 = 33 then (
  bR (fX5_opens v_at v_fault v_open) (fun r21 k21 =>
  (if r21 = 0 then (
  fX5_unit_129 gX5_any gX5_unit v_taped v_tape k21.1 k21.2.1 v_laid k21.2.2 v_steps r14)
  else (
  bV (gX5_unit v_taped k21.1 k21.2.1 v_laid k21.2.2 v_tape v_steps) (fun k23 =>
  nm (k23.2.2.2.1 - 1) (fun u24 =>
  gIn k23.2.2.1 64 (
  nm (k23.2.2.1 + 1) (fun u26 =>
  some (k23.1, k23.2.1, u26, u24, (upd k23.2.2.2.2 k23.2.2.1.toNatClampNeg 140))))))))))
  else (
  fX5_unit_129 gX5_any gX5_unit v_taped v_tape v_at v_fault v_laid v_open v_steps r14)))))))))
  else (
  bV (fX5_lay v_at v_laid v_steps (r14 - 97)) (fun k28 =>
  some (k28.1, v_fault, k28.2.1, v_open, k28.2.2))))))
set_option maxRecDepth 100000 in
set_option maxHeartbeats 4000000 in
theorem uX5_unit (dd : Nat) (l : Launch) {gX5_any : Int32 → Int32 → Int32 → Int32 → Int32 → (Nat → Int32) → (Nat → Int32) → Option (Int32 × Int32 × Int32 × Int32 × (Nat → Int32))} (hgX5_any : ∀ (D : va_G) (cI cJ cZ cS : ClassId) (tb : Nat) (a_t a_s a_keptS a_statuses a_pile a_tape a_steps a_wish a_mark a_bitsOf a_sizeOf a_number a_moved : Nat) (sz : Nat) (v_isKept : Int32) (v_taped : Int32) (v_at : Int32) (v_fault : Int32) (v_laid : Int32) (v_open : Int32) (v_tape : Nat → Int32) (v_steps : Nat → Int32) (kk' : Int32 × Int32 × Int32 × Int32 × (Nat → Int32)) (hf : gX5_any v_taped v_at v_fault v_laid v_open v_tape v_steps = some kk'), Met l yX5_any (Cond.code yX5_any cX5_any 1 none :: wA) (rX5_any dd) (q_Pre D cI cJ cZ cS tb [.ref a_t] sz (wX5_any cI cJ cZ cS a_t a_s a_keptS a_statuses a_pile a_tape a_steps a_wish a_mark a_bitsOf a_sizeOf a_number a_moved v_isKept v_taped v_at v_fault v_laid v_open v_tape v_steps)) (q_Rv D (va_A (wX5_any cI cJ cZ cS a_t a_s a_keptS a_statuses a_pile a_tape a_steps a_wish a_mark a_bitsOf a_sizeOf a_number a_moved v_isKept v_taped v_at v_fault v_laid v_open v_tape v_steps) sz) ((fun k : Int32 × Int32 × Int32 × Int32 × (Nat → Int32) => (wX5_any cI cJ cZ cS a_t a_s a_keptS a_statuses a_pile a_tape a_steps a_wish a_mark a_bitsOf a_sizeOf a_number a_moved v_isKept v_taped k.1 k.2.1 k.2.2.1 k.2.2.2.1 v_tape k.2.2.2.2)) kk')) 0 0 (va_A (wX5_any cI cJ cZ cS a_t a_s a_keptS a_statuses a_pile a_tape a_steps a_wish a_mark a_bitsOf a_sizeOf a_number a_moved v_isKept v_taped v_at v_fault v_laid v_open v_tape v_steps) sz)) {gX5_unit : Int32 → Int32 → Int32 → Int32 → Int32 → (Nat → Int32) → (Nat → Int32) → Option (Int32 × Int32 × Int32 × Int32 × (Nat → Int32))} (hgX5_unit : ∀ (D : va_G) (cI cJ cZ cS : ClassId) (tb : Nat) (a_t a_s a_keptS a_statuses a_pile a_tape a_steps a_wish a_mark a_bitsOf a_sizeOf a_number a_moved : Nat) (sz : Nat) (v_isKept : Int32) (v_taped : Int32) (v_at : Int32) (v_fault : Int32) (v_laid : Int32) (v_open : Int32) (v_tape : Nat → Int32) (v_steps : Nat → Int32) (kk' : Int32 × Int32 × Int32 × Int32 × (Nat → Int32)) (hf : gX5_unit v_taped v_at v_fault v_laid v_open v_tape v_steps = some kk'), Met l yX5_unit (Cond.code yX5_unit cX5_unit 2 none :: wA) (rX5_unit dd) (q_Pre D cI cJ cZ cS tb [.ref a_t] sz (wX5_unit cI cJ cZ cS a_t a_s a_keptS a_statuses a_pile a_tape a_steps a_wish a_mark a_bitsOf a_sizeOf a_number a_moved v_isKept v_taped v_at v_fault v_laid v_open v_tape v_steps)) (q_Rv D (va_A (wX5_unit cI cJ cZ cS a_t a_s a_keptS a_statuses a_pile a_tape a_steps a_wish a_mark a_bitsOf a_sizeOf a_number a_moved v_isKept v_taped v_at v_fault v_laid v_open v_tape v_steps) sz) ((fun k : Int32 × Int32 × Int32 × Int32 × (Nat → Int32) => (wX5_unit cI cJ cZ cS a_t a_s a_keptS a_statuses a_pile a_tape a_steps a_wish a_mark a_bitsOf a_sizeOf a_number a_moved v_isKept v_taped k.1 k.2.1 k.2.2.1 k.2.2.2.1 v_tape k.2.2.2.2)) kk')) 0 0 (va_A (wX5_unit cI cJ cZ cS a_t a_s a_keptS a_statuses a_pile a_tape a_steps a_wish a_mark a_bitsOf a_sizeOf a_number a_moved v_isKept v_taped v_at v_fault v_laid v_open v_tape v_steps) sz)) (D : va_G) (cI cJ cZ cS : ClassId) (tb : Nat) (a_t a_s a_keptS a_statuses a_pile a_tape a_steps a_wish a_mark a_bitsOf a_sizeOf a_number a_moved : Nat) (sz : Nat) (v_isKept : Int32) (v_taped : Int32) (v_at : Int32) (v_fault : Int32) (v_laid : Int32) (v_open : Int32) (v_tape : Nat → Int32) (v_steps : Nat → Int32) (kk' : Int32 × Int32 × Int32 × Int32 × (Nat → Int32)) (hf : fX5_unit gX5_any gX5_unit v_taped v_at v_fault v_laid v_open v_tape v_steps = some kk') : Met l yX5_unit (Cond.code yX5_unit cX5_unit 2 none :: wA) (rX5_unit (dd + 1)) (q_Pre D cI cJ cZ cS tb [.ref a_t] sz (wX5_unit cI cJ cZ cS a_t a_s a_keptS a_statuses a_pile a_tape a_steps a_wish a_mark a_bitsOf a_sizeOf a_number a_moved v_isKept v_taped v_at v_fault v_laid v_open v_tape v_steps)) (q_Rv D (va_A (wX5_unit cI cJ cZ cS a_t a_s a_keptS a_statuses a_pile a_tape a_steps a_wish a_mark a_bitsOf a_sizeOf a_number a_moved v_isKept v_taped v_at v_fault v_laid v_open v_tape v_steps) sz) ((fun k : Int32 × Int32 × Int32 × Int32 × (Nat → Int32) => (wX5_unit cI cJ cZ cS a_t a_s a_keptS a_statuses a_pile a_tape a_steps a_wish a_mark a_bitsOf a_sizeOf a_number a_moved v_isKept v_taped k.1 k.2.1 k.2.2.1 k.2.2.2.1 v_tape k.2.2.2.2)) kk')) 0 0 (va_A (wX5_unit cI cJ cZ cS a_t a_s a_keptS a_statuses a_pile a_tape a_steps a_wish a_mark a_bitsOf a_sizeOf a_number a_moved v_isKept v_taped v_at v_fault v_laid v_open v_tape v_steps) sz) := by
  refine q_enter (Qf := fun A => (q_Rv D A ((fun k : Int32 × Int32 × Int32 × Int32 × (Nat → Int32) => (wX5_unit cI cJ cZ cS a_t a_s a_keptS a_statuses a_pile a_tape a_steps a_wish a_mark a_bitsOf a_sizeOf a_number a_moved v_isKept v_taped k.1 k.2.1 k.2.2.1 k.2.2.2.1 v_tape k.2.2.2.2)) kk'))) (by decide) rfl (Nat.le_of_ble_eq_true rfl) ?_
  intro p e s m below meth c A ls fx hname h hl
  have hx := fx.1
  have hb := fx.2.1
  have hl : lv_has ls 2 [(0, .ref a_t)] := hl
  generalize h9 : s.heap = H at h ⊢
  clear h9
  generalize h9 : ([] : List Loc) = locs at h ⊢
  clear h9
  unfold fX5_unit at hf
  refine lv_aload_n hx hb dX5_unit_0 rfl (lv_at hl 0 rfl) ?_
  obtain ⟨r14, k14, hg, hf⟩ := bR_inv hf
  refine q_ci (rest := []) (ws' := (wX5_unit cI cJ cZ cS a_t a_s a_keptS a_statuses a_pile a_tape a_steps a_wish a_mark a_bitsOf a_sizeOf a_number a_moved v_isKept v_taped v_at v_fault v_laid v_open v_tape v_steps)) (w1 := (wX5_look cI cJ cZ cS a_t a_s a_keptS a_statuses a_pile a_tape a_steps a_wish a_mark a_bitsOf a_sizeOf a_number a_moved v_isKept v_taped v_at v_fault v_laid v_open v_tape)) fx h [0, 1] rfl rfl rfl rfl (q_runV fx h hl.1 [0, 1] rfl rfl (tX5_look l D cI cJ cZ cS tb a_t a_s a_keptS a_statuses a_pile a_tape a_steps a_wish a_mark a_bitsOf a_sizeOf a_number a_moved H.size v_isKept v_taped v_at v_fault v_laid v_open v_tape r14 k14 hg) mvX5_look k_769 ⟨rfl, rfl⟩ (room_X5_unit_X5_look dd) rfl rfl rfl rfl (Nat.le_of_ble_eq_true rfl) dX5_unit_1 ⟨Nat.le_of_ble_eq_true rfl, Nat.le_of_ble_eq_true rfl⟩) (fun H locs h => ?_)
  refine lv_istore_n (lv' := [(1, .int r14), (0, .ref a_t)]) hx hb dX5_unit_4 rfl hl (by decide) rfl (fun ls hl => ?_)
  refine lv_iload_n hx hb dX5_unit_5 rfl (lv_at hl 0 rfl) ?_
  refine lv_i2l hx hb dX5_unit_6 rfl ?_
  refine q_ldc2 fx k_773 dX5_unit_7 ?_
  refine q_ldc2 fx k_774 dX5_unit_10 ?_
  obtain ⟨r15, k15, hg, hf⟩ := bR_inv hf
  refine q_ci (rest := []) (ws' := (wX5_unit cI cJ cZ cS a_t a_s a_keptS a_statuses a_pile a_tape a_steps a_wish a_mark a_bitsOf a_sizeOf a_number a_moved v_isKept v_taped v_at v_fault v_laid v_open v_tape v_steps)) (w1 := (wX5_in cI cJ cZ cS)) fx h [] rfl rfl rfl rfl (q_runS fx h hl.1 [] rfl rfl (tX5_in l D cI cJ cZ cS tb H.size (r14.toInt64) 97 104 r15 k15 hg) msX5_in k_697 ⟨rfl, rfl⟩ (room_X5_unit_X5_in dd) rfl rfl (Nat.le_of_ble_eq_true rfl) dX5_unit_13 ⟨Nat.le_of_ble_eq_true rfl, Nat.le_of_ble_eq_true rfl⟩) (fun H locs h => ?_)
  refine lv_if_eq (tgt := 30) hx hb dX5_unit_16 (by decide) (fun c16 => ?_) (fun c16 => ?_)
  · have hf := it_t c16 hf
    refine lv_iload_n hx hb dX5_unit_30 rfl (lv_at hl 0 rfl) ?_
    refine lv_bipush (v := 48) hx hb dX5_unit_31 (by decide) ?_
    refine lv_icmp_eq (tgt := 42) hx hb dX5_unit_33 (by decide) (fun c17 => ?_) (fun c17 => ?_)
    · have hf := it_t c17 hf
      exact LX5_unit_42 hgX5_any hgX5_unit fx h (lv_sub hl [1, 0] rfl) hf
    have hf := it_f c17 hf
    refine lv_iload_n hx hb dX5_unit_36 rfl (lv_at hl 0 rfl) ?_
    refine lv_bipush (v := 49) hx hb dX5_unit_37 (by decide) ?_
    refine lv_icmp_ne (tgt := 64) hx hb dX5_unit_39 (by decide) (fun c18 => ?_) (fun c18 => ?_)
    · have hf := it_f c18 hf
      refine lv_iload_n hx hb dX5_unit_64 rfl (lv_at hl 0 rfl) ?_
      refine lv_bipush (v := 110) hx hb dX5_unit_65 (by decide) ?_
      refine lv_icmp_ne (tgt := 77) hx hb dX5_unit_67 (by decide) (fun c19 => ?_) (fun c19 => ?_)
      · have hf := it_f c19 hf
        refine lv_iload_n hx hb dX5_unit_77 rfl (lv_at hl 0 rfl) ?_
        refine lv_bipush (v := 33) hx hb dX5_unit_78 (by decide) ?_
        refine lv_icmp_ne (tgt := 129) hx hb dX5_unit_80 (by decide) (fun c20 => ?_) (fun c20 => ?_)
        · have hf := it_f c20 hf
          exact LX5_unit_129 hgX5_any hgX5_unit fx h (lv_sub hl [1, 0] rfl) hf
        have hf := it_t c20 hf
        refine lv_aload_n hx hb dX5_unit_83 rfl (lv_at hl 1 rfl) ?_
        obtain ⟨r21, k21, hg, hf⟩ := bR_inv hf
        refine q_ci (rest := []) (ws' := (wX5_unit cI cJ cZ cS a_t a_s a_keptS a_statuses a_pile a_tape a_steps a_wish a_mark a_bitsOf a_sizeOf a_number a_moved v_isKept v_taped k21.1 k21.2.1 v_laid k21.2.2 v_tape v_steps)) (w1 := (wX5_opens cI cJ cZ cS a_t a_s a_keptS a_statuses a_pile a_tape a_steps a_wish a_mark a_bitsOf a_sizeOf a_number a_moved v_isKept v_taped k21.1 k21.2.1 v_laid k21.2.2)) fx h [0] rfl rfl rfl rfl (q_runV fx h hl.1 [0] rfl rfl (tX5_opens l D cI cJ cZ cS tb a_t a_s a_keptS a_statuses a_pile a_tape a_steps a_wish a_mark a_bitsOf a_sizeOf a_number a_moved H.size v_isKept v_taped v_at v_fault v_laid v_open r21 k21 hg) mvX5_opens k_789 ⟨rfl, rfl⟩ (room_X5_unit_X5_opens dd) rfl rfl rfl rfl (Nat.le_of_ble_eq_true rfl) dX5_unit_84 ⟨Nat.le_of_ble_eq_true rfl, Nat.le_of_ble_eq_true rfl⟩) (fun H locs h => ?_)
        refine lv_if_eq (tgt := 129) hx hb dX5_unit_87 (by decide) (fun c22 => ?_) (fun c22 => ?_)
        · have hf := it_t c22 hf
          exact LX5_unit_129 hgX5_any hgX5_unit fx h (lv_sub hl [1, 0] rfl) hf
        have hf := it_f c22 hf
        refine lv_aload_n hx hb dX5_unit_90 rfl (lv_at hl 1 rfl) ?_
        obtain ⟨k23, hg, hf⟩ := bV_inv hf
        refine q_cv (rest := []) (ws' := (wX5_unit cI cJ cZ cS a_t a_s a_keptS a_statuses a_pile a_tape a_steps a_wish a_mark a_bitsOf a_sizeOf a_number a_moved v_isKept v_taped k23.1 k23.2.1 k23.2.2.1 k23.2.2.2.1 v_tape k23.2.2.2.2)) (w1 := (wX5_unit cI cJ cZ cS a_t a_s a_keptS a_statuses a_pile a_tape a_steps a_wish a_mark a_bitsOf a_sizeOf a_number a_moved v_isKept v_taped k23.1 k23.2.1 k23.2.2.1 k23.2.2.2.1 v_tape k23.2.2.2.2)) fx h [0, 1, 2] rfl rfl rfl rfl (q_runV fx h hl.1 [0, 1, 2] rfl rfl (hgX5_unit D cI cJ cZ cS tb a_t a_s a_keptS a_statuses a_pile a_tape a_steps a_wish a_mark a_bitsOf a_sizeOf a_number a_moved H.size v_isKept v_taped k21.1 k21.2.1 v_laid k21.2.2 v_tape v_steps k23 hg) mvX5_unit k_765 ⟨rfl, rfl⟩ (room_X5_unit_X5_unit dd) rfl rfl rfl rfl (Nat.le_of_ble_eq_true rfl) dX5_unit_91 ⟨Nat.le_of_ble_eq_true rfl, Nat.le_of_ble_eq_true rfl⟩) (fun H locs h => ?_)
        refine lv_aload_n hx hb dX5_unit_94 rfl (lv_at hl 1 rfl) ?_
        refine lv_dup hx hb dX5_unit_95 rfl ?_
        refine q_get (v := .int k23.2.2.2.1) fx inX5 h 0 rfl rfl 11 (by decide) k_647 rfl dX5_unit_96 ?_
        refine lv_iconst (v := 1) hx hb dX5_unit_99 (by decide) ?_
        refine lv_isub hx hb dX5_unit_100 ?_
        obtain ⟨u24, eu24, hf⟩ := nm_inv hf
        refine lv_eqi eu24 ?_
        refine q_put (v := .int u24) (ws' := (wX5_unit cI cJ cZ cS a_t a_s a_keptS a_statuses a_pile a_tape a_steps a_wish a_mark a_bitsOf a_sizeOf a_number a_moved v_isKept v_taped k23.1 k23.2.1 k23.2.2.1 u24 v_tape k23.2.2.2.2)) fx inX5 tyX5 tyX5_ok nmX5 h 0 rfl rfl 11 (by decide) k_647 rfl rfl rfl (Nat.le_of_ble_eq_true rfl) rfl dX5_unit_101 (fun H locs h => ?_)
        refine lv_aload_n hx hb dX5_unit_104 rfl (lv_at hl 1 rfl) ?_
        refine q_get (v := .ref a_steps) fx inX5 h 0 rfl rfl 6 (by decide) k_642 rfl dX5_unit_105 ?_
        refine lv_aload_n hx hb dX5_unit_108 rfl (lv_at hl 1 rfl) ?_
        refine q_get (v := .int k23.2.2.1) fx inX5 h 0 rfl rfl 10 (by decide) k_646 rfl dX5_unit_109 ?_
        refine lv_sipush (v := 140) hx hb dX5_unit_112 (by decide) ?_
        obtain ⟨i25, hf⟩ := gIn_inv hf
        refine q_iast (ws' := (wX5_unit cI cJ cZ cS a_t a_s a_keptS a_statuses a_pile a_tape a_steps a_wish a_mark a_bitsOf a_sizeOf a_number a_moved v_isKept v_taped k23.1 k23.2.1 k23.2.2.1 u24 v_tape (upd k23.2.2.2.2 k23.2.2.1.toNatClampNeg 140))) fx h 2 rfl i25 rfl dX5_unit_115 (fun H locs h => ?_)
        refine lv_aload_n hx hb dX5_unit_116 rfl (lv_at hl 1 rfl) ?_
        refine lv_dup hx hb dX5_unit_117 rfl ?_
        refine q_get (v := .int k23.2.2.1) fx inX5 h 0 rfl rfl 10 (by decide) k_646 rfl dX5_unit_118 ?_
        refine lv_iconst (v := 1) hx hb dX5_unit_121 (by decide) ?_
        refine lv_iadd hx hb dX5_unit_122 ?_
        obtain ⟨u26, eu26, hf⟩ := nm_inv hf
        refine lv_eqi eu26 ?_
        refine q_put (v := .int u26) (ws' := (wX5_unit cI cJ cZ cS a_t a_s a_keptS a_statuses a_pile a_tape a_steps a_wish a_mark a_bitsOf a_sizeOf a_number a_moved v_isKept v_taped k23.1 k23.2.1 u26 u24 v_tape (upd k23.2.2.2.2 k23.2.2.1.toNatClampNeg 140))) fx inX5 tyX5 tyX5_ok nmX5 h 0 rfl rfl 10 (by decide) k_646 rfl rfl rfl (Nat.le_of_ble_eq_true rfl) rfl dX5_unit_123 (fun H locs h => ?_)
        refine lv_goto (tgt := 193) hx hb dX5_unit_126 (by decide) ?_
        exact q_retv (fun k : Int32 × Int32 × Int32 × Int32 × (Nat → Int32) => (wX5_unit cI cJ cZ cS a_t a_s a_keptS a_statuses a_pile a_tape a_steps a_wish a_mark a_bitsOf a_sizeOf a_number a_moved v_isKept v_taped k.1 k.2.1 k.2.2.1 k.2.2.2.1 v_tape k.2.2.2.2)) fx hf h dX5_unit_193
      have hf := it_t c19 hf
      refine lv_aload_n hx hb dX5_unit_70 rfl (lv_at hl 1 rfl) ?_
      obtain ⟨k27, hg, hf⟩ := bV_inv hf
      refine q_cv (rest := []) (ws' := (wX5_unit cI cJ cZ cS a_t a_s a_keptS a_statuses a_pile a_tape a_steps a_wish a_mark a_bitsOf a_sizeOf a_number a_moved v_isKept v_taped k27.1 k27.2.1 k27.2.2.1 v_open v_tape k27.2.2.2)) (w1 := (wX5_counted cI cJ cZ cS a_t a_s a_keptS a_statuses a_pile a_tape a_steps a_wish a_mark a_bitsOf a_sizeOf a_number a_moved v_isKept v_taped k27.1 k27.2.1 k27.2.2.1 v_open v_tape k27.2.2.2)) fx h [0, 1, 2] rfl rfl rfl rfl (q_runV fx h hl.1 [0, 1, 2] rfl rfl (tX5_counted l D cI cJ cZ cS tb a_t a_s a_keptS a_statuses a_pile a_tape a_steps a_wish a_mark a_bitsOf a_sizeOf a_number a_moved H.size v_isKept v_taped v_at v_fault v_laid v_open v_tape v_steps k27 hg) mvX5_counted k_779 ⟨rfl, rfl⟩ (room_X5_unit_X5_counted dd) rfl rfl rfl rfl (Nat.le_of_ble_eq_true rfl) dX5_unit_71 ⟨Nat.le_of_ble_eq_true rfl, Nat.le_of_ble_eq_true rfl⟩) (fun H locs h => ?_)
      refine lv_goto (tgt := 193) hx hb dX5_unit_74 (by decide) ?_
      exact q_retv (fun k : Int32 × Int32 × Int32 × Int32 × (Nat → Int32) => (wX5_unit cI cJ cZ cS a_t a_s a_keptS a_statuses a_pile a_tape a_steps a_wish a_mark a_bitsOf a_sizeOf a_number a_moved v_isKept v_taped k.1 k.2.1 k.2.2.1 k.2.2.2.1 v_tape k.2.2.2.2)) fx hf h dX5_unit_193
    have hf := it_t c18 hf
    exact LX5_unit_42 hgX5_any hgX5_unit fx h (lv_sub hl [1, 0] rfl) hf
  have hf := it_f c16 hf
  refine lv_aload_n hx hb dX5_unit_19 rfl (lv_at hl 1 rfl) ?_
  refine lv_iload_n hx hb dX5_unit_20 rfl (lv_at hl 0 rfl) ?_
  refine lv_bipush (v := 97) hx hb dX5_unit_21 (by decide) ?_
  refine lv_isub hx hb dX5_unit_23 ?_
  obtain ⟨k28, hg, hf⟩ := bV_inv hf
  refine q_cv (rest := []) (ws' := (wX5_unit cI cJ cZ cS a_t a_s a_keptS a_statuses a_pile a_tape a_steps a_wish a_mark a_bitsOf a_sizeOf a_number a_moved v_isKept v_taped k28.1 v_fault k28.2.1 v_open v_tape k28.2.2)) (w1 := (wX5_lay cI cJ cZ cS a_t a_s a_keptS a_statuses a_pile a_tape a_steps a_wish a_mark a_bitsOf a_sizeOf a_number a_moved v_isKept v_taped k28.1 v_fault k28.2.1 v_open k28.2.2)) fx h [0, 2] rfl rfl rfl rfl (q_runV fx h hl.1 [0, 2] rfl rfl (tX5_lay l D cI cJ cZ cS tb a_t a_s a_keptS a_statuses a_pile a_tape a_steps a_wish a_mark a_bitsOf a_sizeOf a_number a_moved H.size v_isKept v_taped v_at v_fault v_laid v_open v_steps (r14 - 97) k28 hg) mvX5_lay k_775 ⟨rfl, rfl⟩ (room_X5_unit_X5_lay dd) rfl rfl rfl rfl (Nat.le_of_ble_eq_true rfl) dX5_unit_24 ⟨Nat.le_of_ble_eq_true rfl, Nat.le_of_ble_eq_true rfl⟩) (fun H locs h => ?_)
  refine lv_goto (tgt := 193) hx hb dX5_unit_27 (by decide) ?_
  exact q_retv (fun k : Int32 × Int32 × Int32 × Int32 × (Nat → Int32) => (wX5_unit cI cJ cZ cS a_t a_s a_keptS a_statuses a_pile a_tape a_steps a_wish a_mark a_bitsOf a_sizeOf a_number a_moved v_isKept v_taped k.1 k.2.1 k.2.2.1 k.2.2.2.1 v_tape k.2.2.2.2)) fx hf h dX5_unit_193
/-! X5_every -/
def fX5_every_4 (gX5_unit : Int32 → Int32 → Int32 → Int32 → Int32 → (Nat → Int32) → (Nat → Int32) → Option (Int32 × Int32 × Int32 × Int32 × (Nat → Int32))) (v_taped : Int32) (v_tape : Nat → Int32) (ag4 : Int32 → Int32 → Int32 → Int32 → (Nat → Int32) → Option (Int32 × Int32 × Int32 × Int32 × (Nat → Int32))) (v_at : Int32) (v_fault : Int32) (v_laid : Int32) (v_open : Int32) (v_steps : Nat → Int32) : Option (Int32 × Int32 × Int32 × Int32 × (Nat → Int32)) :=
  (if (0 : Int32) ≤ v_fault then (
  some (v_at, v_fault, v_laid, v_open, v_steps))
  else (
  bR (fX5_look v_taped v_at v_tape) (fun r2 k2 =>
  (if r2 = 38 then (
  nm (v_at + 1) (fun u4 =>
  bV (gX5_unit v_taped u4 v_fault v_laid v_open v_tape v_steps) (fun k5 =>
  gIn k5.2.2.1 64 (
  nm (k5.2.2.1 + 1) (fun u7 =>
  ag4 k5.1 k5.2.1 u7 k5.2.2.2.1 (upd k5.2.2.2.2 k5.2.2.1.toNatClampNeg 141))))))
  else (
  some (v_at, v_fault, v_laid, v_open, v_steps))))))
set_option maxRecDepth 100000 in
set_option maxHeartbeats 4000000 in
theorem LX5_every_4 {p : Program} {l : Launch} {e : Env} {s : State} {m : MethodId} {args : Array Value} {below : List Frame} {meth : Method} {c : Code} {D : va_G} {cI cJ cZ cS : ClassId} {tb : Nat} {A : Nat → Prop} {a_t a_s a_keptS a_statuses a_pile a_tape a_steps a_wish a_mark a_bitsOf a_sizeOf a_number a_moved : Nat} {v_isKept : Int32} {v_taped : Int32} {v_tape : Nat → Int32} {kk' : Int32 × Int32 × Int32 × Int32 × (Nat → Int32)} {dd : Nat} {gX5_unit : Int32 → Int32 → Int32 → Int32 → Int32 → (Nat → Int32) → (Nat → Int32) → Option (Int32 × Int32 × Int32 × Int32 × (Nat → Int32))} (hgX5_unit : ∀ (D : va_G) (cI cJ cZ cS : ClassId) (tb : Nat) (a_t a_s a_keptS a_statuses a_pile a_tape a_steps a_wish a_mark a_bitsOf a_sizeOf a_number a_moved : Nat) (sz : Nat) (v_isKept : Int32) (v_taped : Int32) (v_at : Int32) (v_fault : Int32) (v_laid : Int32) (v_open : Int32) (v_tape : Nat → Int32) (v_steps : Nat → Int32) (kk' : Int32 × Int32 × Int32 × Int32 × (Nat → Int32)) (hf : gX5_unit v_taped v_at v_fault v_laid v_open v_tape v_steps = some kk'), Met l yX5_unit (Cond.code yX5_unit cX5_unit 2 none :: wA) (rX5_unit dd) (q_Pre D cI cJ cZ cS tb [.ref a_t] sz (wX5_unit cI cJ cZ cS a_t a_s a_keptS a_statuses a_pile a_tape a_steps a_wish a_mark a_bitsOf a_sizeOf a_number a_moved v_isKept v_taped v_at v_fault v_laid v_open v_tape v_steps)) (q_Rv D (va_A (wX5_unit cI cJ cZ cS a_t a_s a_keptS a_statuses a_pile a_tape a_steps a_wish a_mark a_bitsOf a_sizeOf a_number a_moved v_isKept v_taped v_at v_fault v_laid v_open v_tape v_steps) sz) ((fun k : Int32 × Int32 × Int32 × Int32 × (Nat → Int32) => (wX5_unit cI cJ cZ cS a_t a_s a_keptS a_statuses a_pile a_tape a_steps a_wish a_mark a_bitsOf a_sizeOf a_number a_moved v_isKept v_taped k.1 k.2.1 k.2.2.1 k.2.2.2.1 v_tape k.2.2.2.2)) kk')) 0 0 (va_A (wX5_unit cI cJ cZ cS a_t a_s a_keptS a_statuses a_pile a_tape a_steps a_wish a_mark a_bitsOf a_sizeOf a_number a_moved v_isKept v_taped v_at v_fault v_laid v_open v_tape v_steps) sz)) (fx : q_Fx p s m args meth c cX5_every 1 RX5 none D cI cJ cZ cS tb A) {ag4 : Int32 → Int32 → Int32 → Int32 → (Nat → Int32) → Option (Int32 × Int32 × Int32 × Int32 × (Nat → Int32))} (hag4 : ∀ {v_at : Int32} {v_fault : Int32} {v_laid : Int32} {v_open : Int32} {v_steps : Nat → Int32} {H : Heap} {locs : List Loc} {ls : Array Slot}, q_H D A s (wX5_every cI cJ cZ cS a_t a_s a_keptS a_statuses a_pile a_tape a_steps a_wish a_mark a_bitsOf a_sizeOf a_number a_moved v_isKept v_taped v_at v_fault v_laid v_open v_tape v_steps) H locs → lv_has ls 1 [(0, .ref a_t)] → ag4 v_at v_fault v_laid v_open v_steps = some kk' → W p l e (rX5_every dd) s m args below meth c H locs 0 0 (MQ below (q_Rv D A ((fun k : Int32 × Int32 × Int32 × Int32 × (Nat → Int32) => (wX5_every cI cJ cZ cS a_t a_s a_keptS a_statuses a_pile a_tape a_steps a_wish a_mark a_bitsOf a_sizeOf a_number a_moved v_isKept v_taped k.1 k.2.1 k.2.2.1 k.2.2.2.1 v_tape k.2.2.2.2)) kk')) args s 0 0 A) (F0 m 4 ls [])) : ∀ {v_at : Int32} {v_fault : Int32} {v_laid : Int32} {v_open : Int32} {v_steps : Nat → Int32} {H : Heap} {locs : List Loc} {ls : Array Slot}, q_H D A s (wX5_every cI cJ cZ cS a_t a_s a_keptS a_statuses a_pile a_tape a_steps a_wish a_mark a_bitsOf a_sizeOf a_number a_moved v_isKept v_taped v_at v_fault v_laid v_open v_tape v_steps) H locs → lv_has ls 1 [(0, .ref a_t)] → fX5_every_4 gX5_unit v_taped v_tape ag4 v_at v_fault v_laid v_open v_steps = some kk' → W p l e (rX5_every dd) s m args below meth c H locs 0 0 (MQ below (q_Rv D A ((fun k : Int32 × Int32 × Int32 × Int32 × (Nat → Int32) => (wX5_every cI cJ cZ cS a_t a_s a_keptS a_statuses a_pile a_tape a_steps a_wish a_mark a_bitsOf a_sizeOf a_number a_moved v_isKept v_taped k.1 k.2.1 k.2.2.1 k.2.2.2.1 v_tape k.2.2.2.2)) kk')) args s 0 0 A) (F0 m 4 ls []) := by
  intro v_at v_fault v_laid v_open v_steps H locs ls h hl hf
  have hx := fx.1
  have hb := fx.2.1
  unfold fX5_every_4 at hf
  refine lv_aload_n hx hb dX5_every_4 rfl (lv_at hl 0 rfl) ?_
  refine q_get (v := .int v_fault) fx inX5 h 0 rfl rfl 9 (by decide) k_645 rfl dX5_every_5 ?_
  refine lv_if_ge (tgt := 59) hx hb dX5_every_8 (by decide) (fun c1 => ?_) (fun c1 => ?_)
  · have hf := it_t c1 hf
    exact q_retv (fun k : Int32 × Int32 × Int32 × Int32 × (Nat → Int32) => (wX5_every cI cJ cZ cS a_t a_s a_keptS a_statuses a_pile a_tape a_steps a_wish a_mark a_bitsOf a_sizeOf a_number a_moved v_isKept v_taped k.1 k.2.1 k.2.2.1 k.2.2.2.1 v_tape k.2.2.2.2)) fx hf h dX5_every_59
  have hf := it_f c1 hf
  refine lv_aload_n hx hb dX5_every_11 rfl (lv_at hl 0 rfl) ?_
  obtain ⟨r2, k2, hg, hf⟩ := bR_inv hf
  refine q_ci (rest := []) (ws' := (wX5_every cI cJ cZ cS a_t a_s a_keptS a_statuses a_pile a_tape a_steps a_wish a_mark a_bitsOf a_sizeOf a_number a_moved v_isKept v_taped v_at v_fault v_laid v_open v_tape v_steps)) (w1 := (wX5_look cI cJ cZ cS a_t a_s a_keptS a_statuses a_pile a_tape a_steps a_wish a_mark a_bitsOf a_sizeOf a_number a_moved v_isKept v_taped v_at v_fault v_laid v_open v_tape)) fx h [0, 1] rfl rfl rfl rfl (q_runV fx h hl.1 [0, 1] rfl rfl (tX5_look l D cI cJ cZ cS tb a_t a_s a_keptS a_statuses a_pile a_tape a_steps a_wish a_mark a_bitsOf a_sizeOf a_number a_moved H.size v_isKept v_taped v_at v_fault v_laid v_open v_tape r2 k2 hg) mvX5_look k_769 ⟨rfl, rfl⟩ (room_X5_every_X5_look dd) rfl rfl rfl rfl (Nat.le_of_ble_eq_true rfl) dX5_every_12 ⟨Nat.le_of_ble_eq_true rfl, Nat.le_of_ble_eq_true rfl⟩) (fun H locs h => ?_)
  refine lv_bipush (v := 38) hx hb dX5_every_15 (by decide) ?_
  refine lv_icmp_ne (tgt := 59) hx hb dX5_every_17 (by decide) (fun c3 => ?_) (fun c3 => ?_)
  · have hf := it_f c3 hf
    exact q_retv (fun k : Int32 × Int32 × Int32 × Int32 × (Nat → Int32) => (wX5_every cI cJ cZ cS a_t a_s a_keptS a_statuses a_pile a_tape a_steps a_wish a_mark a_bitsOf a_sizeOf a_number a_moved v_isKept v_taped k.1 k.2.1 k.2.2.1 k.2.2.2.1 v_tape k.2.2.2.2)) fx hf h dX5_every_59
  have hf := it_t c3 hf
  refine lv_aload_n hx hb dX5_every_20 rfl (lv_at hl 0 rfl) ?_
  refine lv_dup hx hb dX5_every_21 rfl ?_
  refine q_get (v := .int v_at) fx inX5 h 0 rfl rfl 8 (by decide) k_644 rfl dX5_every_22 ?_
  refine lv_iconst (v := 1) hx hb dX5_every_25 (by decide) ?_
  refine lv_iadd hx hb dX5_every_26 ?_
  obtain ⟨u4, eu4, hf⟩ := nm_inv hf
  refine lv_eqi eu4 ?_
  refine q_put (v := .int u4) (ws' := (wX5_every cI cJ cZ cS a_t a_s a_keptS a_statuses a_pile a_tape a_steps a_wish a_mark a_bitsOf a_sizeOf a_number a_moved v_isKept v_taped u4 v_fault v_laid v_open v_tape v_steps)) fx inX5 tyX5 tyX5_ok nmX5 h 0 rfl rfl 8 (by decide) k_644 rfl rfl rfl (Nat.le_of_ble_eq_true rfl) rfl dX5_every_27 (fun H locs h => ?_)
  refine lv_aload_n hx hb dX5_every_30 rfl (lv_at hl 0 rfl) ?_
  obtain ⟨k5, hg, hf⟩ := bV_inv hf
  refine q_cv (rest := []) (ws' := (wX5_every cI cJ cZ cS a_t a_s a_keptS a_statuses a_pile a_tape a_steps a_wish a_mark a_bitsOf a_sizeOf a_number a_moved v_isKept v_taped k5.1 k5.2.1 k5.2.2.1 k5.2.2.2.1 v_tape k5.2.2.2.2)) (w1 := (wX5_unit cI cJ cZ cS a_t a_s a_keptS a_statuses a_pile a_tape a_steps a_wish a_mark a_bitsOf a_sizeOf a_number a_moved v_isKept v_taped k5.1 k5.2.1 k5.2.2.1 k5.2.2.2.1 v_tape k5.2.2.2.2)) fx h [0, 1, 2] rfl rfl rfl rfl (q_runV fx h hl.1 [0, 1, 2] rfl rfl (hgX5_unit D cI cJ cZ cS tb a_t a_s a_keptS a_statuses a_pile a_tape a_steps a_wish a_mark a_bitsOf a_sizeOf a_number a_moved H.size v_isKept v_taped u4 v_fault v_laid v_open v_tape v_steps k5 hg) mvX5_unit k_765 ⟨rfl, rfl⟩ (room_X5_every_X5_unit dd) rfl rfl rfl rfl (Nat.le_of_ble_eq_true rfl) dX5_every_31 ⟨Nat.le_of_ble_eq_true rfl, Nat.le_of_ble_eq_true rfl⟩) (fun H locs h => ?_)
  refine lv_aload_n hx hb dX5_every_34 rfl (lv_at hl 0 rfl) ?_
  refine q_get (v := .ref a_steps) fx inX5 h 0 rfl rfl 6 (by decide) k_642 rfl dX5_every_35 ?_
  refine lv_aload_n hx hb dX5_every_38 rfl (lv_at hl 0 rfl) ?_
  refine q_get (v := .int k5.2.2.1) fx inX5 h 0 rfl rfl 10 (by decide) k_646 rfl dX5_every_39 ?_
  refine lv_sipush (v := 141) hx hb dX5_every_42 (by decide) ?_
  obtain ⟨i6, hf⟩ := gIn_inv hf
  refine q_iast (ws' := (wX5_every cI cJ cZ cS a_t a_s a_keptS a_statuses a_pile a_tape a_steps a_wish a_mark a_bitsOf a_sizeOf a_number a_moved v_isKept v_taped k5.1 k5.2.1 k5.2.2.1 k5.2.2.2.1 v_tape (upd k5.2.2.2.2 k5.2.2.1.toNatClampNeg 141))) fx h 2 rfl i6 rfl dX5_every_45 (fun H locs h => ?_)
  refine lv_aload_n hx hb dX5_every_46 rfl (lv_at hl 0 rfl) ?_
  refine lv_dup hx hb dX5_every_47 rfl ?_
  refine q_get (v := .int k5.2.2.1) fx inX5 h 0 rfl rfl 10 (by decide) k_646 rfl dX5_every_48 ?_
  refine lv_iconst (v := 1) hx hb dX5_every_51 (by decide) ?_
  refine lv_iadd hx hb dX5_every_52 ?_
  obtain ⟨u7, eu7, hf⟩ := nm_inv hf
  refine lv_eqi eu7 ?_
  refine q_put (v := .int u7) (ws' := (wX5_every cI cJ cZ cS a_t a_s a_keptS a_statuses a_pile a_tape a_steps a_wish a_mark a_bitsOf a_sizeOf a_number a_moved v_isKept v_taped k5.1 k5.2.1 u7 k5.2.2.2.1 v_tape (upd k5.2.2.2.2 k5.2.2.1.toNatClampNeg 141))) fx inX5 tyX5 tyX5_ok nmX5 h 0 rfl rfl 10 (by decide) k_646 rfl rfl rfl (Nat.le_of_ble_eq_true rfl) rfl dX5_every_53 (fun H locs h => ?_)
  refine lv_goto (tgt := 4) hx hb dX5_every_56 (by decide) ?_
  exact hag4 h (lv_sub hl [0] rfl) hf
set_option maxRecDepth 100000 in
theorem EX5_every_4 {p : Program} {l : Launch} {e : Env} {s : State} {m : MethodId} {args : Array Value} {below : List Frame} {meth : Method} {c : Code} {D : va_G} {cI cJ cZ cS : ClassId} {tb : Nat} {A : Nat → Prop} {a_t a_s a_keptS a_statuses a_pile a_tape a_steps a_wish a_mark a_bitsOf a_sizeOf a_number a_moved : Nat} {v_isKept : Int32} {v_taped : Int32} {v_tape : Nat → Int32} {kk' : Int32 × Int32 × Int32 × Int32 × (Nat → Int32)} {dd : Nat} {gX5_unit : Int32 → Int32 → Int32 → Int32 → Int32 → (Nat → Int32) → (Nat → Int32) → Option (Int32 × Int32 × Int32 × Int32 × (Nat → Int32))} (hgX5_unit : ∀ (D : va_G) (cI cJ cZ cS : ClassId) (tb : Nat) (a_t a_s a_keptS a_statuses a_pile a_tape a_steps a_wish a_mark a_bitsOf a_sizeOf a_number a_moved : Nat) (sz : Nat) (v_isKept : Int32) (v_taped : Int32) (v_at : Int32) (v_fault : Int32) (v_laid : Int32) (v_open : Int32) (v_tape : Nat → Int32) (v_steps : Nat → Int32) (kk' : Int32 × Int32 × Int32 × Int32 × (Nat → Int32)) (hf : gX5_unit v_taped v_at v_fault v_laid v_open v_tape v_steps = some kk'), Met l yX5_unit (Cond.code yX5_unit cX5_unit 2 none :: wA) (rX5_unit dd) (q_Pre D cI cJ cZ cS tb [.ref a_t] sz (wX5_unit cI cJ cZ cS a_t a_s a_keptS a_statuses a_pile a_tape a_steps a_wish a_mark a_bitsOf a_sizeOf a_number a_moved v_isKept v_taped v_at v_fault v_laid v_open v_tape v_steps)) (q_Rv D (va_A (wX5_unit cI cJ cZ cS a_t a_s a_keptS a_statuses a_pile a_tape a_steps a_wish a_mark a_bitsOf a_sizeOf a_number a_moved v_isKept v_taped v_at v_fault v_laid v_open v_tape v_steps) sz) ((fun k : Int32 × Int32 × Int32 × Int32 × (Nat → Int32) => (wX5_unit cI cJ cZ cS a_t a_s a_keptS a_statuses a_pile a_tape a_steps a_wish a_mark a_bitsOf a_sizeOf a_number a_moved v_isKept v_taped k.1 k.2.1 k.2.2.1 k.2.2.2.1 v_tape k.2.2.2.2)) kk')) 0 0 (va_A (wX5_unit cI cJ cZ cS a_t a_s a_keptS a_statuses a_pile a_tape a_steps a_wish a_mark a_bitsOf a_sizeOf a_number a_moved v_isKept v_taped v_at v_fault v_laid v_open v_tape v_steps) sz)) (fx : q_Fx p s m args meth c cX5_every 1 RX5 none D cI cJ cZ cS tb A) : ∀ (n : Nat), ∀ {v_at : Int32} {v_fault : Int32} {v_laid : Int32} {v_open : Int32} {v_steps : Nat → Int32} {H : Heap} {locs : List Loc} {ls : Array Slot}, q_H D A s (wX5_every cI cJ cZ cS a_t a_s a_keptS a_statuses a_pile a_tape a_steps a_wish a_mark a_bitsOf a_sizeOf a_number a_moved v_isKept v_taped v_at v_fault v_laid v_open v_tape v_steps) H locs → lv_has ls 1 [(0, .ref a_t)] → ll5 (fX5_every_4 gX5_unit v_taped v_tape) n v_at v_fault v_laid v_open v_steps = some kk' → W p l e (rX5_every dd) s m args below meth c H locs 0 0 (MQ below (q_Rv D A ((fun k : Int32 × Int32 × Int32 × Int32 × (Nat → Int32) => (wX5_every cI cJ cZ cS a_t a_s a_keptS a_statuses a_pile a_tape a_steps a_wish a_mark a_bitsOf a_sizeOf a_number a_moved v_isKept v_taped k.1 k.2.1 k.2.2.1 k.2.2.2.1 v_tape k.2.2.2.2)) kk')) args s 0 0 A) (F0 m 4 ls []) := by
  intro n
  induction n with
  | zero => intro v_at v_fault v_laid v_open v_steps H locs ls h hl hf; exact (ll5_z hf).elim
  | succ n ih => intro v_at v_fault v_laid v_open v_steps H locs ls h hl hf; exact LX5_every_4 hgX5_unit fx ih h hl (ll5_s hf)
def fX5_every (gX5_unit : Int32 → Int32 → Int32 → Int32 → Int32 → (Nat → Int32) → (Nat → Int32) → Option (Int32 × Int32 × Int32 × Int32 × (Nat → Int32))) (v_taped : Int32) (v_at : Int32) (v_fault : Int32) (v_laid : Int32) (v_open : Int32) (v_tape : Nat → Int32) (v_steps : Nat → Int32) : Option (Int32 × Int32 × Int32 × Int32 × (Nat → Int32)) :=
  bV (gX5_unit v_taped v_at v_fault v_laid v_open v_tape v_steps) (fun k8 =>
  ll5 (fX5_every_4 gX5_unit v_taped v_tape) qF k8.1 k8.2.1 k8.2.2.1 k8.2.2.2.1 k8.2.2.2.2)
set_option maxRecDepth 100000 in
set_option maxHeartbeats 4000000 in
theorem uX5_every (dd : Nat) (l : Launch) {gX5_unit : Int32 → Int32 → Int32 → Int32 → Int32 → (Nat → Int32) → (Nat → Int32) → Option (Int32 × Int32 × Int32 × Int32 × (Nat → Int32))} (hgX5_unit : ∀ (D : va_G) (cI cJ cZ cS : ClassId) (tb : Nat) (a_t a_s a_keptS a_statuses a_pile a_tape a_steps a_wish a_mark a_bitsOf a_sizeOf a_number a_moved : Nat) (sz : Nat) (v_isKept : Int32) (v_taped : Int32) (v_at : Int32) (v_fault : Int32) (v_laid : Int32) (v_open : Int32) (v_tape : Nat → Int32) (v_steps : Nat → Int32) (kk' : Int32 × Int32 × Int32 × Int32 × (Nat → Int32)) (hf : gX5_unit v_taped v_at v_fault v_laid v_open v_tape v_steps = some kk'), Met l yX5_unit (Cond.code yX5_unit cX5_unit 2 none :: wA) (rX5_unit dd) (q_Pre D cI cJ cZ cS tb [.ref a_t] sz (wX5_unit cI cJ cZ cS a_t a_s a_keptS a_statuses a_pile a_tape a_steps a_wish a_mark a_bitsOf a_sizeOf a_number a_moved v_isKept v_taped v_at v_fault v_laid v_open v_tape v_steps)) (q_Rv D (va_A (wX5_unit cI cJ cZ cS a_t a_s a_keptS a_statuses a_pile a_tape a_steps a_wish a_mark a_bitsOf a_sizeOf a_number a_moved v_isKept v_taped v_at v_fault v_laid v_open v_tape v_steps) sz) ((fun k : Int32 × Int32 × Int32 × Int32 × (Nat → Int32) => (wX5_unit cI cJ cZ cS a_t a_s a_keptS a_statuses a_pile a_tape a_steps a_wish a_mark a_bitsOf a_sizeOf a_number a_moved v_isKept v_taped k.1 k.2.1 k.2.2.1 k.2.2.2.1 v_tape k.2.2.2.2)) kk')) 0 0 (va_A (wX5_unit cI cJ cZ cS a_t a_s a_keptS a_statuses a_pile a_tape a_steps a_wish a_mark a_bitsOf a_sizeOf a_number a_moved v_isKept v_taped v_at v_fault v_laid v_open v_tape v_steps) sz)) (D : va_G) (cI cJ cZ cS : ClassId) (tb : Nat) (a_t a_s a_keptS a_statuses a_pile a_tape a_steps a_wish a_mark a_bitsOf a_sizeOf a_number a_moved : Nat) (sz : Nat) (v_isKept : Int32) (v_taped : Int32) (v_at : Int32) (v_fault : Int32) (v_laid : Int32) (v_open : Int32) (v_tape : Nat → Int32) (v_steps : Nat → Int32) (kk' : Int32 × Int32 × Int32 × Int32 × (Nat → Int32)) (hf : fX5_every gX5_unit v_taped v_at v_fault v_laid v_open v_tape v_steps = some kk') : Met l yX5_every (Cond.code yX5_every cX5_every 1 none :: wA) (rX5_every dd) (q_Pre D cI cJ cZ cS tb [.ref a_t] sz (wX5_every cI cJ cZ cS a_t a_s a_keptS a_statuses a_pile a_tape a_steps a_wish a_mark a_bitsOf a_sizeOf a_number a_moved v_isKept v_taped v_at v_fault v_laid v_open v_tape v_steps)) (q_Rv D (va_A (wX5_every cI cJ cZ cS a_t a_s a_keptS a_statuses a_pile a_tape a_steps a_wish a_mark a_bitsOf a_sizeOf a_number a_moved v_isKept v_taped v_at v_fault v_laid v_open v_tape v_steps) sz) ((fun k : Int32 × Int32 × Int32 × Int32 × (Nat → Int32) => (wX5_every cI cJ cZ cS a_t a_s a_keptS a_statuses a_pile a_tape a_steps a_wish a_mark a_bitsOf a_sizeOf a_number a_moved v_isKept v_taped k.1 k.2.1 k.2.2.1 k.2.2.2.1 v_tape k.2.2.2.2)) kk')) 0 0 (va_A (wX5_every cI cJ cZ cS a_t a_s a_keptS a_statuses a_pile a_tape a_steps a_wish a_mark a_bitsOf a_sizeOf a_number a_moved v_isKept v_taped v_at v_fault v_laid v_open v_tape v_steps) sz) := by
  refine q_enter (Qf := fun A => (q_Rv D A ((fun k : Int32 × Int32 × Int32 × Int32 × (Nat → Int32) => (wX5_every cI cJ cZ cS a_t a_s a_keptS a_statuses a_pile a_tape a_steps a_wish a_mark a_bitsOf a_sizeOf a_number a_moved v_isKept v_taped k.1 k.2.1 k.2.2.1 k.2.2.2.1 v_tape k.2.2.2.2)) kk'))) (by decide) rfl (Nat.le_of_ble_eq_true rfl) ?_
  intro p e s m below meth c A ls fx hname h hl
  have hx := fx.1
  have hb := fx.2.1
  have hl : lv_has ls 1 [(0, .ref a_t)] := hl
  generalize h9 : s.heap = H at h ⊢
  clear h9
  generalize h9 : ([] : List Loc) = locs at h ⊢
  clear h9
  unfold fX5_every at hf
  refine lv_aload_n hx hb dX5_every_0 rfl (lv_at hl 0 rfl) ?_
  obtain ⟨k8, hg, hf⟩ := bV_inv hf
  refine q_cv (rest := []) (ws' := (wX5_every cI cJ cZ cS a_t a_s a_keptS a_statuses a_pile a_tape a_steps a_wish a_mark a_bitsOf a_sizeOf a_number a_moved v_isKept v_taped k8.1 k8.2.1 k8.2.2.1 k8.2.2.2.1 v_tape k8.2.2.2.2)) (w1 := (wX5_unit cI cJ cZ cS a_t a_s a_keptS a_statuses a_pile a_tape a_steps a_wish a_mark a_bitsOf a_sizeOf a_number a_moved v_isKept v_taped k8.1 k8.2.1 k8.2.2.1 k8.2.2.2.1 v_tape k8.2.2.2.2)) fx h [0, 1, 2] rfl rfl rfl rfl (q_runV fx h hl.1 [0, 1, 2] rfl rfl (hgX5_unit D cI cJ cZ cS tb a_t a_s a_keptS a_statuses a_pile a_tape a_steps a_wish a_mark a_bitsOf a_sizeOf a_number a_moved H.size v_isKept v_taped v_at v_fault v_laid v_open v_tape v_steps k8 hg) mvX5_unit k_765 ⟨rfl, rfl⟩ (room_X5_every_X5_unit dd) rfl rfl rfl rfl (Nat.le_of_ble_eq_true rfl) dX5_every_1 ⟨Nat.le_of_ble_eq_true rfl, Nat.le_of_ble_eq_true rfl⟩) (fun H locs h => ?_)
  exact EX5_every_4 hgX5_unit fx qF h (lv_sub hl [0] rfl) hf
/-! X5_any -/
def fX5_any_4 (gX5_every : Int32 → Int32 → Int32 → Int32 → Int32 → (Nat → Int32) → (Nat → Int32) → Option (Int32 × Int32 × Int32 × Int32 × (Nat → Int32))) (v_taped : Int32) (v_tape : Nat → Int32) (ag4 : Int32 → Int32 → Int32 → Int32 → (Nat → Int32) → Option (Int32 × Int32 × Int32 × Int32 × (Nat → Int32))) (v_at : Int32) (v_fault : Int32) (v_laid : Int32) (v_open : Int32) (v_steps : Nat → Int32) : Option (Int32 × Int32 × Int32 × Int32 × (Nat → Int32)) :=
  (if (0 : Int32) ≤ v_fault then (
  some (v_at, v_fault, v_laid, v_open, v_steps))
  else (
  bR (fX5_look v_taped v_at v_tape) (fun r2 k2 =>
  (if r2 = 124 then (
  nm (v_at + 1) (fun u4 =>
  bV (gX5_every v_taped u4 v_fault v_laid v_open v_tape v_steps) (fun k5 =>
  gIn k5.2.2.1 64 (
  nm (k5.2.2.1 + 1) (fun u7 =>
  ag4 k5.1 k5.2.1 u7 k5.2.2.2.1 (upd k5.2.2.2.2 k5.2.2.1.toNatClampNeg 142))))))
  else (
  some (v_at, v_fault, v_laid, v_open, v_steps))))))
set_option maxRecDepth 100000 in
set_option maxHeartbeats 4000000 in
theorem LX5_any_4 {p : Program} {l : Launch} {e : Env} {s : State} {m : MethodId} {args : Array Value} {below : List Frame} {meth : Method} {c : Code} {D : va_G} {cI cJ cZ cS : ClassId} {tb : Nat} {A : Nat → Prop} {a_t a_s a_keptS a_statuses a_pile a_tape a_steps a_wish a_mark a_bitsOf a_sizeOf a_number a_moved : Nat} {v_isKept : Int32} {v_taped : Int32} {v_tape : Nat → Int32} {kk' : Int32 × Int32 × Int32 × Int32 × (Nat → Int32)} {dd : Nat} {gX5_every : Int32 → Int32 → Int32 → Int32 → Int32 → (Nat → Int32) → (Nat → Int32) → Option (Int32 × Int32 × Int32 × Int32 × (Nat → Int32))} (hgX5_every : ∀ (D : va_G) (cI cJ cZ cS : ClassId) (tb : Nat) (a_t a_s a_keptS a_statuses a_pile a_tape a_steps a_wish a_mark a_bitsOf a_sizeOf a_number a_moved : Nat) (sz : Nat) (v_isKept : Int32) (v_taped : Int32) (v_at : Int32) (v_fault : Int32) (v_laid : Int32) (v_open : Int32) (v_tape : Nat → Int32) (v_steps : Nat → Int32) (kk' : Int32 × Int32 × Int32 × Int32 × (Nat → Int32)) (hf : gX5_every v_taped v_at v_fault v_laid v_open v_tape v_steps = some kk'), Met l yX5_every (Cond.code yX5_every cX5_every 1 none :: wA) (rX5_every dd) (q_Pre D cI cJ cZ cS tb [.ref a_t] sz (wX5_every cI cJ cZ cS a_t a_s a_keptS a_statuses a_pile a_tape a_steps a_wish a_mark a_bitsOf a_sizeOf a_number a_moved v_isKept v_taped v_at v_fault v_laid v_open v_tape v_steps)) (q_Rv D (va_A (wX5_every cI cJ cZ cS a_t a_s a_keptS a_statuses a_pile a_tape a_steps a_wish a_mark a_bitsOf a_sizeOf a_number a_moved v_isKept v_taped v_at v_fault v_laid v_open v_tape v_steps) sz) ((fun k : Int32 × Int32 × Int32 × Int32 × (Nat → Int32) => (wX5_every cI cJ cZ cS a_t a_s a_keptS a_statuses a_pile a_tape a_steps a_wish a_mark a_bitsOf a_sizeOf a_number a_moved v_isKept v_taped k.1 k.2.1 k.2.2.1 k.2.2.2.1 v_tape k.2.2.2.2)) kk')) 0 0 (va_A (wX5_every cI cJ cZ cS a_t a_s a_keptS a_statuses a_pile a_tape a_steps a_wish a_mark a_bitsOf a_sizeOf a_number a_moved v_isKept v_taped v_at v_fault v_laid v_open v_tape v_steps) sz)) (fx : q_Fx p s m args meth c cX5_any 1 RX5 none D cI cJ cZ cS tb A) {ag4 : Int32 → Int32 → Int32 → Int32 → (Nat → Int32) → Option (Int32 × Int32 × Int32 × Int32 × (Nat → Int32))} (hag4 : ∀ {v_at : Int32} {v_fault : Int32} {v_laid : Int32} {v_open : Int32} {v_steps : Nat → Int32} {H : Heap} {locs : List Loc} {ls : Array Slot}, q_H D A s (wX5_any cI cJ cZ cS a_t a_s a_keptS a_statuses a_pile a_tape a_steps a_wish a_mark a_bitsOf a_sizeOf a_number a_moved v_isKept v_taped v_at v_fault v_laid v_open v_tape v_steps) H locs → lv_has ls 1 [(0, .ref a_t)] → ag4 v_at v_fault v_laid v_open v_steps = some kk' → W p l e (rX5_any dd) s m args below meth c H locs 0 0 (MQ below (q_Rv D A ((fun k : Int32 × Int32 × Int32 × Int32 × (Nat → Int32) => (wX5_any cI cJ cZ cS a_t a_s a_keptS a_statuses a_pile a_tape a_steps a_wish a_mark a_bitsOf a_sizeOf a_number a_moved v_isKept v_taped k.1 k.2.1 k.2.2.1 k.2.2.2.1 v_tape k.2.2.2.2)) kk')) args s 0 0 A) (F0 m 4 ls [])) : ∀ {v_at : Int32} {v_fault : Int32} {v_laid : Int32} {v_open : Int32} {v_steps : Nat → Int32} {H : Heap} {locs : List Loc} {ls : Array Slot}, q_H D A s (wX5_any cI cJ cZ cS a_t a_s a_keptS a_statuses a_pile a_tape a_steps a_wish a_mark a_bitsOf a_sizeOf a_number a_moved v_isKept v_taped v_at v_fault v_laid v_open v_tape v_steps) H locs → lv_has ls 1 [(0, .ref a_t)] → fX5_any_4 gX5_every v_taped v_tape ag4 v_at v_fault v_laid v_open v_steps = some kk' → W p l e (rX5_any dd) s m args below meth c H locs 0 0 (MQ below (q_Rv D A ((fun k : Int32 × Int32 × Int32 × Int32 × (Nat → Int32) => (wX5_any cI cJ cZ cS a_t a_s a_keptS a_statuses a_pile a_tape a_steps a_wish a_mark a_bitsOf a_sizeOf a_number a_moved v_isKept v_taped k.1 k.2.1 k.2.2.1 k.2.2.2.1 v_tape k.2.2.2.2)) kk')) args s 0 0 A) (F0 m 4 ls []) := by
  intro v_at v_fault v_laid v_open v_steps H locs ls h hl hf
  have hx := fx.1
  have hb := fx.2.1
  unfold fX5_any_4 at hf
  refine lv_aload_n hx hb dX5_any_4 rfl (lv_at hl 0 rfl) ?_
  refine q_get (v := .int v_fault) fx inX5 h 0 rfl rfl 9 (by decide) k_645 rfl dX5_any_5 ?_
  refine lv_if_ge (tgt := 59) hx hb dX5_any_8 (by decide) (fun c1 => ?_) (fun c1 => ?_)
  · have hf := it_t c1 hf
    exact q_retv (fun k : Int32 × Int32 × Int32 × Int32 × (Nat → Int32) => (wX5_any cI cJ cZ cS a_t a_s a_keptS a_statuses a_pile a_tape a_steps a_wish a_mark a_bitsOf a_sizeOf a_number a_moved v_isKept v_taped k.1 k.2.1 k.2.2.1 k.2.2.2.1 v_tape k.2.2.2.2)) fx hf h dX5_any_59
  have hf := it_f c1 hf
  refine lv_aload_n hx hb dX5_any_11 rfl (lv_at hl 0 rfl) ?_
  obtain ⟨r2, k2, hg, hf⟩ := bR_inv hf
  refine q_ci (rest := []) (ws' := (wX5_any cI cJ cZ cS a_t a_s a_keptS a_statuses a_pile a_tape a_steps a_wish a_mark a_bitsOf a_sizeOf a_number a_moved v_isKept v_taped v_at v_fault v_laid v_open v_tape v_steps)) (w1 := (wX5_look cI cJ cZ cS a_t a_s a_keptS a_statuses a_pile a_tape a_steps a_wish a_mark a_bitsOf a_sizeOf a_number a_moved v_isKept v_taped v_at v_fault v_laid v_open v_tape)) fx h [0, 1] rfl rfl rfl rfl (q_runV fx h hl.1 [0, 1] rfl rfl (tX5_look l D cI cJ cZ cS tb a_t a_s a_keptS a_statuses a_pile a_tape a_steps a_wish a_mark a_bitsOf a_sizeOf a_number a_moved H.size v_isKept v_taped v_at v_fault v_laid v_open v_tape r2 k2 hg) mvX5_look k_769 ⟨rfl, rfl⟩ (room_X5_any_X5_look dd) rfl rfl rfl rfl (Nat.le_of_ble_eq_true rfl) dX5_any_12 ⟨Nat.le_of_ble_eq_true rfl, Nat.le_of_ble_eq_true rfl⟩) (fun H locs h => ?_)
  refine lv_bipush (v := 124) hx hb dX5_any_15 (by decide) ?_
  refine lv_icmp_ne (tgt := 59) hx hb dX5_any_17 (by decide) (fun c3 => ?_) (fun c3 => ?_)
  · have hf := it_f c3 hf
    exact q_retv (fun k : Int32 × Int32 × Int32 × Int32 × (Nat → Int32) => (wX5_any cI cJ cZ cS a_t a_s a_keptS a_statuses a_pile a_tape a_steps a_wish a_mark a_bitsOf a_sizeOf a_number a_moved v_isKept v_taped k.1 k.2.1 k.2.2.1 k.2.2.2.1 v_tape k.2.2.2.2)) fx hf h dX5_any_59
  have hf := it_t c3 hf
  refine lv_aload_n hx hb dX5_any_20 rfl (lv_at hl 0 rfl) ?_
  refine lv_dup hx hb dX5_any_21 rfl ?_
  refine q_get (v := .int v_at) fx inX5 h 0 rfl rfl 8 (by decide) k_644 rfl dX5_any_22 ?_
  refine lv_iconst (v := 1) hx hb dX5_any_25 (by decide) ?_
  refine lv_iadd hx hb dX5_any_26 ?_
  obtain ⟨u4, eu4, hf⟩ := nm_inv hf
  refine lv_eqi eu4 ?_
  refine q_put (v := .int u4) (ws' := (wX5_any cI cJ cZ cS a_t a_s a_keptS a_statuses a_pile a_tape a_steps a_wish a_mark a_bitsOf a_sizeOf a_number a_moved v_isKept v_taped u4 v_fault v_laid v_open v_tape v_steps)) fx inX5 tyX5 tyX5_ok nmX5 h 0 rfl rfl 8 (by decide) k_644 rfl rfl rfl (Nat.le_of_ble_eq_true rfl) rfl dX5_any_27 (fun H locs h => ?_)
  refine lv_aload_n hx hb dX5_any_30 rfl (lv_at hl 0 rfl) ?_
  obtain ⟨k5, hg, hf⟩ := bV_inv hf
  refine q_cv (rest := []) (ws' := (wX5_any cI cJ cZ cS a_t a_s a_keptS a_statuses a_pile a_tape a_steps a_wish a_mark a_bitsOf a_sizeOf a_number a_moved v_isKept v_taped k5.1 k5.2.1 k5.2.2.1 k5.2.2.2.1 v_tape k5.2.2.2.2)) (w1 := (wX5_every cI cJ cZ cS a_t a_s a_keptS a_statuses a_pile a_tape a_steps a_wish a_mark a_bitsOf a_sizeOf a_number a_moved v_isKept v_taped k5.1 k5.2.1 k5.2.2.1 k5.2.2.2.1 v_tape k5.2.2.2.2)) fx h [0, 1, 2] rfl rfl rfl rfl (q_runV fx h hl.1 [0, 1, 2] rfl rfl (hgX5_every D cI cJ cZ cS tb a_t a_s a_keptS a_statuses a_pile a_tape a_steps a_wish a_mark a_bitsOf a_sizeOf a_number a_moved H.size v_isKept v_taped u4 v_fault v_laid v_open v_tape v_steps k5 hg) mvX5_every k_761 ⟨rfl, rfl⟩ (room_X5_any_X5_every dd) rfl rfl rfl rfl (Nat.le_of_ble_eq_true rfl) dX5_any_31 ⟨Nat.le_of_ble_eq_true rfl, Nat.le_of_ble_eq_true rfl⟩) (fun H locs h => ?_)
  refine lv_aload_n hx hb dX5_any_34 rfl (lv_at hl 0 rfl) ?_
  refine q_get (v := .ref a_steps) fx inX5 h 0 rfl rfl 6 (by decide) k_642 rfl dX5_any_35 ?_
  refine lv_aload_n hx hb dX5_any_38 rfl (lv_at hl 0 rfl) ?_
  refine q_get (v := .int k5.2.2.1) fx inX5 h 0 rfl rfl 10 (by decide) k_646 rfl dX5_any_39 ?_
  refine lv_sipush (v := 142) hx hb dX5_any_42 (by decide) ?_
  obtain ⟨i6, hf⟩ := gIn_inv hf
  refine q_iast (ws' := (wX5_any cI cJ cZ cS a_t a_s a_keptS a_statuses a_pile a_tape a_steps a_wish a_mark a_bitsOf a_sizeOf a_number a_moved v_isKept v_taped k5.1 k5.2.1 k5.2.2.1 k5.2.2.2.1 v_tape (upd k5.2.2.2.2 k5.2.2.1.toNatClampNeg 142))) fx h 2 rfl i6 rfl dX5_any_45 (fun H locs h => ?_)
  refine lv_aload_n hx hb dX5_any_46 rfl (lv_at hl 0 rfl) ?_
  refine lv_dup hx hb dX5_any_47 rfl ?_
  refine q_get (v := .int k5.2.2.1) fx inX5 h 0 rfl rfl 10 (by decide) k_646 rfl dX5_any_48 ?_
  refine lv_iconst (v := 1) hx hb dX5_any_51 (by decide) ?_
  refine lv_iadd hx hb dX5_any_52 ?_
  obtain ⟨u7, eu7, hf⟩ := nm_inv hf
  refine lv_eqi eu7 ?_
  refine q_put (v := .int u7) (ws' := (wX5_any cI cJ cZ cS a_t a_s a_keptS a_statuses a_pile a_tape a_steps a_wish a_mark a_bitsOf a_sizeOf a_number a_moved v_isKept v_taped k5.1 k5.2.1 u7 k5.2.2.2.1 v_tape (upd k5.2.2.2.2 k5.2.2.1.toNatClampNeg 142))) fx inX5 tyX5 tyX5_ok nmX5 h 0 rfl rfl 10 (by decide) k_646 rfl rfl rfl (Nat.le_of_ble_eq_true rfl) rfl dX5_any_53 (fun H locs h => ?_)
  refine lv_goto (tgt := 4) hx hb dX5_any_56 (by decide) ?_
  exact hag4 h (lv_sub hl [0] rfl) hf
set_option maxRecDepth 100000 in
theorem EX5_any_4 {p : Program} {l : Launch} {e : Env} {s : State} {m : MethodId} {args : Array Value} {below : List Frame} {meth : Method} {c : Code} {D : va_G} {cI cJ cZ cS : ClassId} {tb : Nat} {A : Nat → Prop} {a_t a_s a_keptS a_statuses a_pile a_tape a_steps a_wish a_mark a_bitsOf a_sizeOf a_number a_moved : Nat} {v_isKept : Int32} {v_taped : Int32} {v_tape : Nat → Int32} {kk' : Int32 × Int32 × Int32 × Int32 × (Nat → Int32)} {dd : Nat} {gX5_every : Int32 → Int32 → Int32 → Int32 → Int32 → (Nat → Int32) → (Nat → Int32) → Option (Int32 × Int32 × Int32 × Int32 × (Nat → Int32))} (hgX5_every : ∀ (D : va_G) (cI cJ cZ cS : ClassId) (tb : Nat) (a_t a_s a_keptS a_statuses a_pile a_tape a_steps a_wish a_mark a_bitsOf a_sizeOf a_number a_moved : Nat) (sz : Nat) (v_isKept : Int32) (v_taped : Int32) (v_at : Int32) (v_fault : Int32) (v_laid : Int32) (v_open : Int32) (v_tape : Nat → Int32) (v_steps : Nat → Int32) (kk' : Int32 × Int32 × Int32 × Int32 × (Nat → Int32)) (hf : gX5_every v_taped v_at v_fault v_laid v_open v_tape v_steps = some kk'), Met l yX5_every (Cond.code yX5_every cX5_every 1 none :: wA) (rX5_every dd) (q_Pre D cI cJ cZ cS tb [.ref a_t] sz (wX5_every cI cJ cZ cS a_t a_s a_keptS a_statuses a_pile a_tape a_steps a_wish a_mark a_bitsOf a_sizeOf a_number a_moved v_isKept v_taped v_at v_fault v_laid v_open v_tape v_steps)) (q_Rv D (va_A (wX5_every cI cJ cZ cS a_t a_s a_keptS a_statuses a_pile a_tape a_steps a_wish a_mark a_bitsOf a_sizeOf a_number a_moved v_isKept v_taped v_at v_fault v_laid v_open v_tape v_steps) sz) ((fun k : Int32 × Int32 × Int32 × Int32 × (Nat → Int32) => (wX5_every cI cJ cZ cS a_t a_s a_keptS a_statuses a_pile a_tape a_steps a_wish a_mark a_bitsOf a_sizeOf a_number a_moved v_isKept v_taped k.1 k.2.1 k.2.2.1 k.2.2.2.1 v_tape k.2.2.2.2)) kk')) 0 0 (va_A (wX5_every cI cJ cZ cS a_t a_s a_keptS a_statuses a_pile a_tape a_steps a_wish a_mark a_bitsOf a_sizeOf a_number a_moved v_isKept v_taped v_at v_fault v_laid v_open v_tape v_steps) sz)) (fx : q_Fx p s m args meth c cX5_any 1 RX5 none D cI cJ cZ cS tb A) : ∀ (n : Nat), ∀ {v_at : Int32} {v_fault : Int32} {v_laid : Int32} {v_open : Int32} {v_steps : Nat → Int32} {H : Heap} {locs : List Loc} {ls : Array Slot}, q_H D A s (wX5_any cI cJ cZ cS a_t a_s a_keptS a_statuses a_pile a_tape a_steps a_wish a_mark a_bitsOf a_sizeOf a_number a_moved v_isKept v_taped v_at v_fault v_laid v_open v_tape v_steps) H locs → lv_has ls 1 [(0, .ref a_t)] → ll5 (fX5_any_4 gX5_every v_taped v_tape) n v_at v_fault v_laid v_open v_steps = some kk' → W p l e (rX5_any dd) s m args below meth c H locs 0 0 (MQ below (q_Rv D A ((fun k : Int32 × Int32 × Int32 × Int32 × (Nat → Int32) => (wX5_any cI cJ cZ cS a_t a_s a_keptS a_statuses a_pile a_tape a_steps a_wish a_mark a_bitsOf a_sizeOf a_number a_moved v_isKept v_taped k.1 k.2.1 k.2.2.1 k.2.2.2.1 v_tape k.2.2.2.2)) kk')) args s 0 0 A) (F0 m 4 ls []) := by
  intro n
  induction n with
  | zero => intro v_at v_fault v_laid v_open v_steps H locs ls h hl hf; exact (ll5_z hf).elim
  | succ n ih => intro v_at v_fault v_laid v_open v_steps H locs ls h hl hf; exact LX5_any_4 hgX5_every fx ih h hl (ll5_s hf)
def fX5_any (gX5_every : Int32 → Int32 → Int32 → Int32 → Int32 → (Nat → Int32) → (Nat → Int32) → Option (Int32 × Int32 × Int32 × Int32 × (Nat → Int32))) (v_taped : Int32) (v_at : Int32) (v_fault : Int32) (v_laid : Int32) (v_open : Int32) (v_tape : Nat → Int32) (v_steps : Nat → Int32) : Option (Int32 × Int32 × Int32 × Int32 × (Nat → Int32)) :=
  bV (gX5_every v_taped v_at v_fault v_laid v_open v_tape v_steps) (fun k8 =>
  ll5 (fX5_any_4 gX5_every v_taped v_tape) qF k8.1 k8.2.1 k8.2.2.1 k8.2.2.2.1 k8.2.2.2.2)
set_option maxRecDepth 100000 in
set_option maxHeartbeats 4000000 in
theorem uX5_any (dd : Nat) (l : Launch) {gX5_every : Int32 → Int32 → Int32 → Int32 → Int32 → (Nat → Int32) → (Nat → Int32) → Option (Int32 × Int32 × Int32 × Int32 × (Nat → Int32))} (hgX5_every : ∀ (D : va_G) (cI cJ cZ cS : ClassId) (tb : Nat) (a_t a_s a_keptS a_statuses a_pile a_tape a_steps a_wish a_mark a_bitsOf a_sizeOf a_number a_moved : Nat) (sz : Nat) (v_isKept : Int32) (v_taped : Int32) (v_at : Int32) (v_fault : Int32) (v_laid : Int32) (v_open : Int32) (v_tape : Nat → Int32) (v_steps : Nat → Int32) (kk' : Int32 × Int32 × Int32 × Int32 × (Nat → Int32)) (hf : gX5_every v_taped v_at v_fault v_laid v_open v_tape v_steps = some kk'), Met l yX5_every (Cond.code yX5_every cX5_every 1 none :: wA) (rX5_every dd) (q_Pre D cI cJ cZ cS tb [.ref a_t] sz (wX5_every cI cJ cZ cS a_t a_s a_keptS a_statuses a_pile a_tape a_steps a_wish a_mark a_bitsOf a_sizeOf a_number a_moved v_isKept v_taped v_at v_fault v_laid v_open v_tape v_steps)) (q_Rv D (va_A (wX5_every cI cJ cZ cS a_t a_s a_keptS a_statuses a_pile a_tape a_steps a_wish a_mark a_bitsOf a_sizeOf a_number a_moved v_isKept v_taped v_at v_fault v_laid v_open v_tape v_steps) sz) ((fun k : Int32 × Int32 × Int32 × Int32 × (Nat → Int32) => (wX5_every cI cJ cZ cS a_t a_s a_keptS a_statuses a_pile a_tape a_steps a_wish a_mark a_bitsOf a_sizeOf a_number a_moved v_isKept v_taped k.1 k.2.1 k.2.2.1 k.2.2.2.1 v_tape k.2.2.2.2)) kk')) 0 0 (va_A (wX5_every cI cJ cZ cS a_t a_s a_keptS a_statuses a_pile a_tape a_steps a_wish a_mark a_bitsOf a_sizeOf a_number a_moved v_isKept v_taped v_at v_fault v_laid v_open v_tape v_steps) sz)) (D : va_G) (cI cJ cZ cS : ClassId) (tb : Nat) (a_t a_s a_keptS a_statuses a_pile a_tape a_steps a_wish a_mark a_bitsOf a_sizeOf a_number a_moved : Nat) (sz : Nat) (v_isKept : Int32) (v_taped : Int32) (v_at : Int32) (v_fault : Int32) (v_laid : Int32) (v_open : Int32) (v_tape : Nat → Int32) (v_steps : Nat → Int32) (kk' : Int32 × Int32 × Int32 × Int32 × (Nat → Int32)) (hf : fX5_any gX5_every v_taped v_at v_fault v_laid v_open v_tape v_steps = some kk') : Met l yX5_any (Cond.code yX5_any cX5_any 1 none :: wA) (rX5_any dd) (q_Pre D cI cJ cZ cS tb [.ref a_t] sz (wX5_any cI cJ cZ cS a_t a_s a_keptS a_statuses a_pile a_tape a_steps a_wish a_mark a_bitsOf a_sizeOf a_number a_moved v_isKept v_taped v_at v_fault v_laid v_open v_tape v_steps)) (q_Rv D (va_A (wX5_any cI cJ cZ cS a_t a_s a_keptS a_statuses a_pile a_tape a_steps a_wish a_mark a_bitsOf a_sizeOf a_number a_moved v_isKept v_taped v_at v_fault v_laid v_open v_tape v_steps) sz) ((fun k : Int32 × Int32 × Int32 × Int32 × (Nat → Int32) => (wX5_any cI cJ cZ cS a_t a_s a_keptS a_statuses a_pile a_tape a_steps a_wish a_mark a_bitsOf a_sizeOf a_number a_moved v_isKept v_taped k.1 k.2.1 k.2.2.1 k.2.2.2.1 v_tape k.2.2.2.2)) kk')) 0 0 (va_A (wX5_any cI cJ cZ cS a_t a_s a_keptS a_statuses a_pile a_tape a_steps a_wish a_mark a_bitsOf a_sizeOf a_number a_moved v_isKept v_taped v_at v_fault v_laid v_open v_tape v_steps) sz) := by
  refine q_enter (Qf := fun A => (q_Rv D A ((fun k : Int32 × Int32 × Int32 × Int32 × (Nat → Int32) => (wX5_any cI cJ cZ cS a_t a_s a_keptS a_statuses a_pile a_tape a_steps a_wish a_mark a_bitsOf a_sizeOf a_number a_moved v_isKept v_taped k.1 k.2.1 k.2.2.1 k.2.2.2.1 v_tape k.2.2.2.2)) kk'))) (by decide) rfl (Nat.le_of_ble_eq_true rfl) ?_
  intro p e s m below meth c A ls fx hname h hl
  have hx := fx.1
  have hb := fx.2.1
  have hl : lv_has ls 1 [(0, .ref a_t)] := hl
  generalize h9 : s.heap = H at h ⊢
  clear h9
  generalize h9 : ([] : List Loc) = locs at h ⊢
  clear h9
  unfold fX5_any at hf
  refine lv_aload_n hx hb dX5_any_0 rfl (lv_at hl 0 rfl) ?_
  obtain ⟨k8, hg, hf⟩ := bV_inv hf
  refine q_cv (rest := []) (ws' := (wX5_any cI cJ cZ cS a_t a_s a_keptS a_statuses a_pile a_tape a_steps a_wish a_mark a_bitsOf a_sizeOf a_number a_moved v_isKept v_taped k8.1 k8.2.1 k8.2.2.1 k8.2.2.2.1 v_tape k8.2.2.2.2)) (w1 := (wX5_every cI cJ cZ cS a_t a_s a_keptS a_statuses a_pile a_tape a_steps a_wish a_mark a_bitsOf a_sizeOf a_number a_moved v_isKept v_taped k8.1 k8.2.1 k8.2.2.1 k8.2.2.2.1 v_tape k8.2.2.2.2)) fx h [0, 1, 2] rfl rfl rfl rfl (q_runV fx h hl.1 [0, 1, 2] rfl rfl (hgX5_every D cI cJ cZ cS tb a_t a_s a_keptS a_statuses a_pile a_tape a_steps a_wish a_mark a_bitsOf a_sizeOf a_number a_moved H.size v_isKept v_taped v_at v_fault v_laid v_open v_tape v_steps k8 hg) mvX5_every k_761 ⟨rfl, rfl⟩ (room_X5_any_X5_every dd) rfl rfl rfl rfl (Nat.le_of_ble_eq_true rfl) dX5_any_1 ⟨Nat.le_of_ble_eq_true rfl, Nat.le_of_ble_eq_true rfl⟩) (fun H locs h => ?_)
  exact EX5_any_4 hgX5_every fx qF h (lv_sub hl [0] rfl) hf
def dX5_unit : Nat → Int32 → Int32 → Int32 → Int32 → Int32 → (Nat → Int32) → (Nat → Int32) → Option (Int32 × Int32 × Int32 × Int32 × (Nat → Int32))
  | 0 => fun _ _ _ _ _ _ _ => none
  | d + 1 => fX5_unit (fX5_any (fX5_every (dX5_unit d))) (dX5_unit d)
def dX5_every (d : Nat) : Int32 → Int32 → Int32 → Int32 → Int32 → (Nat → Int32) → (Nat → Int32) → Option (Int32 × Int32 × Int32 × Int32 × (Nat → Int32)) := fX5_every (dX5_unit d)
def dX5_any (d : Nat) : Int32 → Int32 → Int32 → Int32 → Int32 → (Nat → Int32) → (Nat → Int32) → Option (Int32 × Int32 × Int32 × Int32 × (Nat → Int32)) := fX5_any (dX5_every d)
theorem tX5_unit (dd : Nat) (l : Launch) : ∀ (D : va_G) (cI cJ cZ cS : ClassId) (tb : Nat) (a_t a_s a_keptS a_statuses a_pile a_tape a_steps a_wish a_mark a_bitsOf a_sizeOf a_number a_moved : Nat) (sz : Nat) (v_isKept : Int32) (v_taped : Int32) (v_at : Int32) (v_fault : Int32) (v_laid : Int32) (v_open : Int32) (v_tape : Nat → Int32) (v_steps : Nat → Int32) (kk' : Int32 × Int32 × Int32 × Int32 × (Nat → Int32)) (hf : dX5_unit dd v_taped v_at v_fault v_laid v_open v_tape v_steps = some kk'), Met l yX5_unit (Cond.code yX5_unit cX5_unit 2 none :: wA) (rX5_unit dd) (q_Pre D cI cJ cZ cS tb [.ref a_t] sz (wX5_unit cI cJ cZ cS a_t a_s a_keptS a_statuses a_pile a_tape a_steps a_wish a_mark a_bitsOf a_sizeOf a_number a_moved v_isKept v_taped v_at v_fault v_laid v_open v_tape v_steps)) (q_Rv D (va_A (wX5_unit cI cJ cZ cS a_t a_s a_keptS a_statuses a_pile a_tape a_steps a_wish a_mark a_bitsOf a_sizeOf a_number a_moved v_isKept v_taped v_at v_fault v_laid v_open v_tape v_steps) sz) ((fun k : Int32 × Int32 × Int32 × Int32 × (Nat → Int32) => (wX5_unit cI cJ cZ cS a_t a_s a_keptS a_statuses a_pile a_tape a_steps a_wish a_mark a_bitsOf a_sizeOf a_number a_moved v_isKept v_taped k.1 k.2.1 k.2.2.1 k.2.2.2.1 v_tape k.2.2.2.2)) kk')) 0 0 (va_A (wX5_unit cI cJ cZ cS a_t a_s a_keptS a_statuses a_pile a_tape a_steps a_wish a_mark a_bitsOf a_sizeOf a_number a_moved v_isKept v_taped v_at v_fault v_laid v_open v_tape v_steps) sz) := by
  induction dd with
  | zero => intro D cI cJ cZ cS tb a_t a_s a_keptS a_statuses a_pile a_tape a_steps a_wish a_mark a_bitsOf a_sizeOf a_number a_moved sz v_isKept v_taped v_at v_fault v_laid v_open v_tape v_steps kk' hf; have h2 : (none : Option (Int32 × Int32 × Int32 × Int32 × (Nat → Int32))) = some kk' := hf; cases h2
  | succ dd ih => exact uX5_unit dd l (uX5_any dd l (uX5_every dd l ih)) ih
theorem tX5_every (dd : Nat) (l : Launch) : ∀ (D : va_G) (cI cJ cZ cS : ClassId) (tb : Nat) (a_t a_s a_keptS a_statuses a_pile a_tape a_steps a_wish a_mark a_bitsOf a_sizeOf a_number a_moved : Nat) (sz : Nat) (v_isKept : Int32) (v_taped : Int32) (v_at : Int32) (v_fault : Int32) (v_laid : Int32) (v_open : Int32) (v_tape : Nat → Int32) (v_steps : Nat → Int32) (kk' : Int32 × Int32 × Int32 × Int32 × (Nat → Int32)) (hf : dX5_every dd v_taped v_at v_fault v_laid v_open v_tape v_steps = some kk'), Met l yX5_every (Cond.code yX5_every cX5_every 1 none :: wA) (rX5_every dd) (q_Pre D cI cJ cZ cS tb [.ref a_t] sz (wX5_every cI cJ cZ cS a_t a_s a_keptS a_statuses a_pile a_tape a_steps a_wish a_mark a_bitsOf a_sizeOf a_number a_moved v_isKept v_taped v_at v_fault v_laid v_open v_tape v_steps)) (q_Rv D (va_A (wX5_every cI cJ cZ cS a_t a_s a_keptS a_statuses a_pile a_tape a_steps a_wish a_mark a_bitsOf a_sizeOf a_number a_moved v_isKept v_taped v_at v_fault v_laid v_open v_tape v_steps) sz) ((fun k : Int32 × Int32 × Int32 × Int32 × (Nat → Int32) => (wX5_every cI cJ cZ cS a_t a_s a_keptS a_statuses a_pile a_tape a_steps a_wish a_mark a_bitsOf a_sizeOf a_number a_moved v_isKept v_taped k.1 k.2.1 k.2.2.1 k.2.2.2.1 v_tape k.2.2.2.2)) kk')) 0 0 (va_A (wX5_every cI cJ cZ cS a_t a_s a_keptS a_statuses a_pile a_tape a_steps a_wish a_mark a_bitsOf a_sizeOf a_number a_moved v_isKept v_taped v_at v_fault v_laid v_open v_tape v_steps) sz) := uX5_every dd l (tX5_unit dd l)
theorem tX5_any (dd : Nat) (l : Launch) : ∀ (D : va_G) (cI cJ cZ cS : ClassId) (tb : Nat) (a_t a_s a_keptS a_statuses a_pile a_tape a_steps a_wish a_mark a_bitsOf a_sizeOf a_number a_moved : Nat) (sz : Nat) (v_isKept : Int32) (v_taped : Int32) (v_at : Int32) (v_fault : Int32) (v_laid : Int32) (v_open : Int32) (v_tape : Nat → Int32) (v_steps : Nat → Int32) (kk' : Int32 × Int32 × Int32 × Int32 × (Nat → Int32)) (hf : dX5_any dd v_taped v_at v_fault v_laid v_open v_tape v_steps = some kk'), Met l yX5_any (Cond.code yX5_any cX5_any 1 none :: wA) (rX5_any dd) (q_Pre D cI cJ cZ cS tb [.ref a_t] sz (wX5_any cI cJ cZ cS a_t a_s a_keptS a_statuses a_pile a_tape a_steps a_wish a_mark a_bitsOf a_sizeOf a_number a_moved v_isKept v_taped v_at v_fault v_laid v_open v_tape v_steps)) (q_Rv D (va_A (wX5_any cI cJ cZ cS a_t a_s a_keptS a_statuses a_pile a_tape a_steps a_wish a_mark a_bitsOf a_sizeOf a_number a_moved v_isKept v_taped v_at v_fault v_laid v_open v_tape v_steps) sz) ((fun k : Int32 × Int32 × Int32 × Int32 × (Nat → Int32) => (wX5_any cI cJ cZ cS a_t a_s a_keptS a_statuses a_pile a_tape a_steps a_wish a_mark a_bitsOf a_sizeOf a_number a_moved v_isKept v_taped k.1 k.2.1 k.2.2.1 k.2.2.2.1 v_tape k.2.2.2.2)) kk')) 0 0 (va_A (wX5_any cI cJ cZ cS a_t a_s a_keptS a_statuses a_pile a_tape a_steps a_wish a_mark a_bitsOf a_sizeOf a_number a_moved v_isKept v_taped v_at v_fault v_laid v_open v_tape v_steps) sz) := uX5_any dd l (tX5_every dd l)
/-! X5_term -/
abbrev wX5_term (cI cJ cZ cS : ClassId) (a_t a_s a_keptS a_statuses a_pile a_tape a_steps a_wish a_mark a_bitsOf a_sizeOf a_number a_moved : Nat) (v_isKept : Int32) (v_taped : Int32) (v_at : Int32) (v_fault : Int32) (v_laid : Int32) (v_open : Int32) (v_s : Nat → Int32) (v_statuses : Nat → Int32) (v_tape : Nat → Int32) (v_steps : Nat → Int32) : va_W := [(a_t, .inr (5, [.ref a_s, .ref a_keptS, .ref a_statuses, .int v_isKept, .ref a_pile, .ref a_tape, .ref a_steps, .int v_taped, .int v_at, .int v_fault, .int v_laid, .int v_open, .ref a_wish, .ref a_mark, .ref a_bitsOf, .ref a_sizeOf, .ref a_number, .ref a_moved])), (a_s, .inl (cI, 538, .inl v_s)), (a_statuses, .inl (cI, 7, .inl v_statuses)), (a_tape, .inl (cI, 60, .inl v_tape)), (a_steps, .inl (cI, 64, .inl v_steps))]
abbrev rX5_term : Room := { frames := 29, cells := 0, slots := 0, locals := 860 }
def fX5_term_82 (v_tape : Nat → Int32) (ag82 : Int32 → Int32 → Int32 → Int32 → Int32 → (Nat → Int32) → (Nat → Int32) → (Nat → Int32) → Int32 → Int32 → Option (Int32 × Int32 × Int32 × Int32 × Int32 × Int32 × (Nat → Int32) × (Nat → Int32) × (Nat → Int32))) (v_taped : Int32) (v_at : Int32) (v_fault : Int32) (v_laid : Int32) (v_open : Int32) (v_s : Nat → Int32) (v_statuses : Nat → Int32) (v_steps : Nat → Int32) (y1 : Int32) (y2 : Int32) : Option (Int32 × Int32 × Int32 × Int32 × Int32 × Int32 × (Nat → Int32) × (Nat → Int32) × (Nat → Int32)) :=
  (if v_laid ≤ y2 then (
  gIn ((2 + (3 * y1)) + 2) 538 (
  some (1, (v_taped, v_at, v_fault, v_laid, v_open, (upd v_s ((2 + (3 * y1)) + 2).toNatClampNeg v_laid), v_statuses, v_steps))))
  else (
  gIn y2 64 (
  gIn ((26 + (64 * y1)) + y2) 538 (
  nm (y2 + 1) (fun u5 =>
  ag82 v_taped v_at v_fault v_laid v_open (upd v_s ((26 + (64 * y1)) + y2).toNatClampNeg (v_steps y2.toNatClampNeg)) v_statuses v_steps y1 u5)))))
set_option maxRecDepth 100000 in
set_option maxHeartbeats 4000000 in
theorem LX5_term_82 {p : Program} {l : Launch} {e : Env} {s : State} {m : MethodId} {args : Array Value} {below : List Frame} {meth : Method} {c : Code} {D : va_G} {cI cJ cZ cS : ClassId} {tb : Nat} {A : Nat → Prop} {a_t a_s a_keptS a_statuses a_pile a_tape a_steps a_wish a_mark a_bitsOf a_sizeOf a_number a_moved : Nat} {v_isKept : Int32} {v_tape : Nat → Int32} {rr : Int32} {kk' : Int32 × Int32 × Int32 × Int32 × Int32 × (Nat → Int32) × (Nat → Int32) × (Nat → Int32)} (fx : q_Fx p s m args meth c cX5_term 3 RX5 (some .int) D cI cJ cZ cS tb A) {ag82 : Int32 → Int32 → Int32 → Int32 → Int32 → (Nat → Int32) → (Nat → Int32) → (Nat → Int32) → Int32 → Int32 → Option (Int32 × Int32 × Int32 × Int32 × Int32 × Int32 × (Nat → Int32) × (Nat → Int32) × (Nat → Int32))} (hag82 : ∀ {v_taped : Int32} {v_at : Int32} {v_fault : Int32} {v_laid : Int32} {v_open : Int32} {v_s : Nat → Int32} {v_statuses : Nat → Int32} {v_steps : Nat → Int32} {y1 : Int32} {y2 : Int32} {H : Heap} {locs : List Loc} {ls : Array Slot}, q_H D A s (wX5_term cI cJ cZ cS a_t a_s a_keptS a_statuses a_pile a_tape a_steps a_wish a_mark a_bitsOf a_sizeOf a_number a_moved v_isKept v_taped v_at v_fault v_laid v_open v_s v_statuses v_tape v_steps) H locs → lv_has ls 3 [(0, .ref a_t), (1, .int y1), (2, .int y2)] → ag82 v_taped v_at v_fault v_laid v_open v_s v_statuses v_steps y1 y2 = some (rr, kk') → W p l e rX5_term s m args below meth c H locs 0 0 (MQ below (q_Ri D rr A ((fun k : Int32 × Int32 × Int32 × Int32 × Int32 × (Nat → Int32) × (Nat → Int32) × (Nat → Int32) => (wX5_term cI cJ cZ cS a_t a_s a_keptS a_statuses a_pile a_tape a_steps a_wish a_mark a_bitsOf a_sizeOf a_number a_moved v_isKept k.1 k.2.1 k.2.2.1 k.2.2.2.1 k.2.2.2.2.1 k.2.2.2.2.2.1 k.2.2.2.2.2.2.1 v_tape k.2.2.2.2.2.2.2)) kk')) args s 0 0 A) (F0 m 82 ls [])) : ∀ {v_taped : Int32} {v_at : Int32} {v_fault : Int32} {v_laid : Int32} {v_open : Int32} {v_s : Nat → Int32} {v_statuses : Nat → Int32} {v_steps : Nat → Int32} {y1 : Int32} {y2 : Int32} {H : Heap} {locs : List Loc} {ls : Array Slot}, q_H D A s (wX5_term cI cJ cZ cS a_t a_s a_keptS a_statuses a_pile a_tape a_steps a_wish a_mark a_bitsOf a_sizeOf a_number a_moved v_isKept v_taped v_at v_fault v_laid v_open v_s v_statuses v_tape v_steps) H locs → lv_has ls 3 [(0, .ref a_t), (1, .int y1), (2, .int y2)] → fX5_term_82 v_tape ag82 v_taped v_at v_fault v_laid v_open v_s v_statuses v_steps y1 y2 = some (rr, kk') → W p l e rX5_term s m args below meth c H locs 0 0 (MQ below (q_Ri D rr A ((fun k : Int32 × Int32 × Int32 × Int32 × Int32 × (Nat → Int32) × (Nat → Int32) × (Nat → Int32) => (wX5_term cI cJ cZ cS a_t a_s a_keptS a_statuses a_pile a_tape a_steps a_wish a_mark a_bitsOf a_sizeOf a_number a_moved v_isKept k.1 k.2.1 k.2.2.1 k.2.2.2.1 k.2.2.2.2.1 k.2.2.2.2.2.1 k.2.2.2.2.2.2.1 v_tape k.2.2.2.2.2.2.2)) kk')) args s 0 0 A) (F0 m 82 ls []) := by
  intro v_taped v_at v_fault v_laid v_open v_s v_statuses v_steps y1 y2 H locs ls h hl hf
  have hx := fx.1
  have hb := fx.2.1
  unfold fX5_term_82 at hf
  refine lv_iload_n hx hb dX5_term_82 rfl (lv_at hl 2 rfl) ?_
  refine lv_aload_n hx hb dX5_term_83 rfl (lv_at hl 0 rfl) ?_
  refine q_get (v := .int v_laid) fx inX5 h 0 rfl rfl 10 (by decide) k_646 rfl dX5_term_84 ?_
  refine lv_icmp_ge (tgt := 116) hx hb dX5_term_87 (by decide) (fun c1 => ?_) (fun c1 => ?_)
  · have hf := it_t c1 hf
    refine lv_aload_n hx hb dX5_term_116 rfl (lv_at hl 0 rfl) ?_
    refine q_get (v := .ref a_s) fx inX5 h 0 rfl rfl 0 (by decide) k_636 rfl dX5_term_117 ?_
    refine lv_iconst (v := 2) hx hb dX5_term_120 (by decide) ?_
    refine lv_iconst (v := 3) hx hb dX5_term_121 (by decide) ?_
    refine lv_iload_n hx hb dX5_term_122 rfl (lv_at hl 1 rfl) ?_
    refine lv_imul hx hb dX5_term_123 ?_
    refine lv_iadd hx hb dX5_term_124 ?_
    refine lv_iconst (v := 2) hx hb dX5_term_125 (by decide) ?_
    refine lv_iadd hx hb dX5_term_126 ?_
    refine lv_aload_n hx hb dX5_term_127 rfl (lv_at hl 0 rfl) ?_
    refine q_get (v := .int v_laid) fx inX5 h 0 rfl rfl 10 (by decide) k_646 rfl dX5_term_128 ?_
    obtain ⟨i2, hf⟩ := gIn_inv hf
    refine q_iast (ws' := (wX5_term cI cJ cZ cS a_t a_s a_keptS a_statuses a_pile a_tape a_steps a_wish a_mark a_bitsOf a_sizeOf a_number a_moved v_isKept v_taped v_at v_fault v_laid v_open (upd v_s ((2 + (3 * y1)) + 2).toNatClampNeg v_laid) v_statuses v_tape v_steps)) fx h 1 rfl i2 rfl dX5_term_131 (fun H locs h => ?_)
    refine lv_iconst (v := 1) hx hb dX5_term_132 (by decide) ?_
    exact q_reti (fun k : Int32 × Int32 × Int32 × Int32 × Int32 × (Nat → Int32) × (Nat → Int32) × (Nat → Int32) => (wX5_term cI cJ cZ cS a_t a_s a_keptS a_statuses a_pile a_tape a_steps a_wish a_mark a_bitsOf a_sizeOf a_number a_moved v_isKept k.1 k.2.1 k.2.2.1 k.2.2.2.1 k.2.2.2.2.1 k.2.2.2.2.2.1 k.2.2.2.2.2.2.1 v_tape k.2.2.2.2.2.2.2)) fx hf h dX5_term_133
  have hf := it_f c1 hf
  refine lv_aload_n hx hb dX5_term_90 rfl (lv_at hl 0 rfl) ?_
  refine q_get (v := .ref a_s) fx inX5 h 0 rfl rfl 0 (by decide) k_636 rfl dX5_term_91 ?_
  refine lv_bipush (v := 26) hx hb dX5_term_94 (by decide) ?_
  refine lv_bipush (v := 64) hx hb dX5_term_96 (by decide) ?_
  refine lv_iload_n hx hb dX5_term_98 rfl (lv_at hl 1 rfl) ?_
  refine lv_imul hx hb dX5_term_99 ?_
  refine lv_iadd hx hb dX5_term_100 ?_
  refine lv_iload_n hx hb dX5_term_101 rfl (lv_at hl 2 rfl) ?_
  refine lv_iadd hx hb dX5_term_102 ?_
  refine lv_aload_n hx hb dX5_term_103 rfl (lv_at hl 0 rfl) ?_
  refine q_get (v := .ref a_steps) fx inX5 h 0 rfl rfl 6 (by decide) k_642 rfl dX5_term_104 ?_
  refine lv_iload_n hx hb dX5_term_107 rfl (lv_at hl 2 rfl) ?_
  obtain ⟨i3, hf⟩ := gIn_inv hf
  refine q_iald fx h 4 rfl i3 dX5_term_108 ?_
  obtain ⟨i4, hf⟩ := gIn_inv hf
  refine q_iast (ws' := (wX5_term cI cJ cZ cS a_t a_s a_keptS a_statuses a_pile a_tape a_steps a_wish a_mark a_bitsOf a_sizeOf a_number a_moved v_isKept v_taped v_at v_fault v_laid v_open (upd v_s ((26 + (64 * y1)) + y2).toNatClampNeg (v_steps y2.toNatClampNeg)) v_statuses v_tape v_steps)) fx h 1 rfl i4 rfl dX5_term_109 (fun H locs h => ?_)
  obtain ⟨u5, eu5, hf⟩ := nm_inv hf
  refine lv_iinc (v := u5) (lv' := [(2, .int u5), (0, .ref a_t), (1, .int y1)]) hx hb dX5_term_110 hl (k := 2) rfl (by rw [eu5]; rfl) (by decide) rfl (fun ls hl => ?_)
  refine lv_goto (tgt := 82) hx hb dX5_term_113 (by decide) ?_
  exact hag82 h (lv_sub hl [1, 2, 0] rfl) hf
set_option maxRecDepth 100000 in
theorem EX5_term_82 {p : Program} {l : Launch} {e : Env} {s : State} {m : MethodId} {args : Array Value} {below : List Frame} {meth : Method} {c : Code} {D : va_G} {cI cJ cZ cS : ClassId} {tb : Nat} {A : Nat → Prop} {a_t a_s a_keptS a_statuses a_pile a_tape a_steps a_wish a_mark a_bitsOf a_sizeOf a_number a_moved : Nat} {v_isKept : Int32} {v_tape : Nat → Int32} {rr : Int32} {kk' : Int32 × Int32 × Int32 × Int32 × Int32 × (Nat → Int32) × (Nat → Int32) × (Nat → Int32)} (fx : q_Fx p s m args meth c cX5_term 3 RX5 (some .int) D cI cJ cZ cS tb A) : ∀ (n : Nat), ∀ {v_taped : Int32} {v_at : Int32} {v_fault : Int32} {v_laid : Int32} {v_open : Int32} {v_s : Nat → Int32} {v_statuses : Nat → Int32} {v_steps : Nat → Int32} {y1 : Int32} {y2 : Int32} {H : Heap} {locs : List Loc} {ls : Array Slot}, q_H D A s (wX5_term cI cJ cZ cS a_t a_s a_keptS a_statuses a_pile a_tape a_steps a_wish a_mark a_bitsOf a_sizeOf a_number a_moved v_isKept v_taped v_at v_fault v_laid v_open v_s v_statuses v_tape v_steps) H locs → lv_has ls 3 [(0, .ref a_t), (1, .int y1), (2, .int y2)] → ll10 (fX5_term_82 v_tape) n v_taped v_at v_fault v_laid v_open v_s v_statuses v_steps y1 y2 = some (rr, kk') → W p l e rX5_term s m args below meth c H locs 0 0 (MQ below (q_Ri D rr A ((fun k : Int32 × Int32 × Int32 × Int32 × Int32 × (Nat → Int32) × (Nat → Int32) × (Nat → Int32) => (wX5_term cI cJ cZ cS a_t a_s a_keptS a_statuses a_pile a_tape a_steps a_wish a_mark a_bitsOf a_sizeOf a_number a_moved v_isKept k.1 k.2.1 k.2.2.1 k.2.2.2.1 k.2.2.2.2.1 k.2.2.2.2.2.1 k.2.2.2.2.2.2.1 v_tape k.2.2.2.2.2.2.2)) kk')) args s 0 0 A) (F0 m 82 ls []) := by
  intro n
  induction n with
  | zero => intro v_taped v_at v_fault v_laid v_open v_s v_statuses v_steps y1 y2 H locs ls h hl hf; exact (ll10_z hf).elim
  | succ n ih => intro v_taped v_at v_fault v_laid v_open v_s v_statuses v_steps y1 y2 H locs ls h hl hf; exact LX5_term_82 fx ih h hl (ll10_s hf)
def fX5_term_61 (v_tape : Nat → Int32) (v_taped : Int32) (v_at : Int32) (v_fault : Int32) (v_laid : Int32) (v_open : Int32) (v_s : Nat → Int32) (v_statuses : Nat → Int32) (v_steps : Nat → Int32) (y1 : Int32) : Option (Int32 × Int32 × Int32 × Int32 × Int32 × Int32 × (Nat → Int32) × (Nat → Int32) × (Nat → Int32)) :=
  (if v_fault < 0 then (
  ll10 (fX5_term_82 v_tape) qF 0 v_at v_fault v_laid v_open v_s v_statuses v_steps y1 0)
  else (
  some ((-1) - v_fault, (0, v_at, v_fault, v_laid, v_open, v_s, v_statuses, v_steps))))
set_option maxRecDepth 100000 in
set_option maxHeartbeats 4000000 in
theorem LX5_term_61 {p : Program} {l : Launch} {e : Env} {s : State} {m : MethodId} {args : Array Value} {below : List Frame} {meth : Method} {c : Code} {D : va_G} {cI cJ cZ cS : ClassId} {tb : Nat} {A : Nat → Prop} {a_t a_s a_keptS a_statuses a_pile a_tape a_steps a_wish a_mark a_bitsOf a_sizeOf a_number a_moved : Nat} {v_isKept : Int32} {v_tape : Nat → Int32} {rr : Int32} {kk' : Int32 × Int32 × Int32 × Int32 × Int32 × (Nat → Int32) × (Nat → Int32) × (Nat → Int32)} (fx : q_Fx p s m args meth c cX5_term 3 RX5 (some .int) D cI cJ cZ cS tb A) : ∀ {v_taped : Int32} {v_at : Int32} {v_fault : Int32} {v_laid : Int32} {v_open : Int32} {v_s : Nat → Int32} {v_statuses : Nat → Int32} {v_steps : Nat → Int32} {y1 : Int32} {H : Heap} {locs : List Loc} {ls : Array Slot}, q_H D A s (wX5_term cI cJ cZ cS a_t a_s a_keptS a_statuses a_pile a_tape a_steps a_wish a_mark a_bitsOf a_sizeOf a_number a_moved v_isKept v_taped v_at v_fault v_laid v_open v_s v_statuses v_tape v_steps) H locs → lv_has ls 3 [(0, .ref a_t), (1, .int y1)] → fX5_term_61 v_tape v_taped v_at v_fault v_laid v_open v_s v_statuses v_steps y1 = some (rr, kk') → W p l e rX5_term s m args below meth c H locs 0 0 (MQ below (q_Ri D rr A ((fun k : Int32 × Int32 × Int32 × Int32 × Int32 × (Nat → Int32) × (Nat → Int32) × (Nat → Int32) => (wX5_term cI cJ cZ cS a_t a_s a_keptS a_statuses a_pile a_tape a_steps a_wish a_mark a_bitsOf a_sizeOf a_number a_moved v_isKept k.1 k.2.1 k.2.2.1 k.2.2.2.1 k.2.2.2.2.1 k.2.2.2.2.2.1 k.2.2.2.2.2.2.1 v_tape k.2.2.2.2.2.2.2)) kk')) args s 0 0 A) (F0 m 61 ls []) := by
  intro v_taped v_at v_fault v_laid v_open v_s v_statuses v_steps y1 H locs ls h hl hf
  have hx := fx.1
  have hb := fx.2.1
  unfold fX5_term_61 at hf
  refine lv_aload_n hx hb dX5_term_61 rfl (lv_at hl 0 rfl) ?_
  refine lv_iconst (v := 0) hx hb dX5_term_62 (by decide) ?_
  refine q_put (v := .int 0) (ws' := (wX5_term cI cJ cZ cS a_t a_s a_keptS a_statuses a_pile a_tape a_steps a_wish a_mark a_bitsOf a_sizeOf a_number a_moved v_isKept 0 v_at v_fault v_laid v_open v_s v_statuses v_tape v_steps)) fx inX5 tyX5 tyX5_ok nmX5 h 0 rfl rfl 7 (by decide) k_643 rfl rfl rfl (Nat.le_of_ble_eq_true rfl) rfl dX5_term_63 (fun H locs h => ?_)
  refine lv_aload_n hx hb dX5_term_66 rfl (lv_at hl 0 rfl) ?_
  refine q_get (v := .int v_fault) fx inX5 h 0 rfl rfl 9 (by decide) k_645 rfl dX5_term_67 ?_
  refine lv_if_lt (tgt := 80) hx hb dX5_term_70 (by decide) (fun c6 => ?_) (fun c6 => ?_)
  · have hf := it_t c6 hf
    refine lv_iconst (v := 0) hx hb dX5_term_80 (by decide) ?_
    refine lv_istore_n (lv' := [(2, .int 0), (0, .ref a_t), (1, .int y1)]) hx hb dX5_term_81 rfl hl (by decide) rfl (fun ls hl => ?_)
    exact EX5_term_82 fx qF h (lv_sub hl [1, 2, 0] rfl) hf
  have hf := it_f c6 hf
  refine lv_iconst (v := -1) hx hb dX5_term_73 (by decide) ?_
  refine lv_aload_n hx hb dX5_term_74 rfl (lv_at hl 0 rfl) ?_
  refine q_get (v := .int v_fault) fx inX5 h 0 rfl rfl 9 (by decide) k_645 rfl dX5_term_75 ?_
  refine lv_isub hx hb dX5_term_78 ?_
  exact q_reti (fun k : Int32 × Int32 × Int32 × Int32 × Int32 × (Nat → Int32) × (Nat → Int32) × (Nat → Int32) => (wX5_term cI cJ cZ cS a_t a_s a_keptS a_statuses a_pile a_tape a_steps a_wish a_mark a_bitsOf a_sizeOf a_number a_moved v_isKept k.1 k.2.1 k.2.2.1 k.2.2.2.1 k.2.2.2.2.1 k.2.2.2.2.2.1 k.2.2.2.2.2.2.1 v_tape k.2.2.2.2.2.2.2)) fx hf h dX5_term_79
def fX5_term (v_taped : Int32) (v_at : Int32) (v_fault : Int32) (v_laid : Int32) (v_open : Int32) (v_s : Nat → Int32) (v_statuses : Nat → Int32) (v_tape : Nat → Int32) (v_steps : Nat → Int32) (x1 : Int32) : Option (Int32 × Int32 × Int32 × Int32 × Int32 × Int32 × (Nat → Int32) × (Nat → Int32) × (Nat → Int32)) :=
  bR (fX5_isGuest v_s x1) (fun r7 k7 =>
  (if r7 = 0 then (
  bR (fX5_finds v_statuses (-1000000001)) (fun r13 k13 =>
  some (r13, (v_taped, v_at, v_fault, v_laid, v_open, v_s, k13, v_steps))))
  else (
  bV (dX5_any 8 v_taped 0 (-1) 0 0 v_tape v_steps) (fun k9 =>
  (if (0 : Int32) ≤ k9.2.1 then (
  fX5_term_61 v_tape v_taped k9.1 k9.2.1 k9.2.2.1 k9.2.2.2.1 v_s v_statuses k9.2.2.2.2 x1)
  else (
  (if v_taped ≤ k9.1 then (
  fX5_term_61 v_tape v_taped k9.1 k9.2.1 k9.2.2.1 k9.2.2.2.1 v_s v_statuses k9.2.2.2.2 x1)
  else (
  bV (fX5_faulty k9.1 k9.2.1) (fun k12 =>
  fX5_term_61 v_tape v_taped k9.1 k12 k9.2.2.1 k9.2.2.2.1 v_s v_statuses k9.2.2.2.2 x1)))))))))
set_option maxRecDepth 100000 in
set_option maxHeartbeats 4000000 in
theorem tX5_term (l : Launch) (D : va_G) (cI cJ cZ cS : ClassId) (tb : Nat) (a_t a_s a_keptS a_statuses a_pile a_tape a_steps a_wish a_mark a_bitsOf a_sizeOf a_number a_moved : Nat) (sz : Nat) (v_isKept : Int32) (v_taped : Int32) (v_at : Int32) (v_fault : Int32) (v_laid : Int32) (v_open : Int32) (v_s : Nat → Int32) (v_statuses : Nat → Int32) (v_tape : Nat → Int32) (v_steps : Nat → Int32) (x1 : Int32) (rr : Int32) (kk' : Int32 × Int32 × Int32 × Int32 × Int32 × (Nat → Int32) × (Nat → Int32) × (Nat → Int32)) (hf : fX5_term v_taped v_at v_fault v_laid v_open v_s v_statuses v_tape v_steps x1 = some (rr, kk')) : Met l yX5_term (Cond.code yX5_term cX5_term 3 (some .int) :: wA) rX5_term (q_Pre D cI cJ cZ cS tb [.ref a_t, .int x1] sz (wX5_term cI cJ cZ cS a_t a_s a_keptS a_statuses a_pile a_tape a_steps a_wish a_mark a_bitsOf a_sizeOf a_number a_moved v_isKept v_taped v_at v_fault v_laid v_open v_s v_statuses v_tape v_steps)) (q_Ri D rr (va_A (wX5_term cI cJ cZ cS a_t a_s a_keptS a_statuses a_pile a_tape a_steps a_wish a_mark a_bitsOf a_sizeOf a_number a_moved v_isKept v_taped v_at v_fault v_laid v_open v_s v_statuses v_tape v_steps) sz) ((fun k : Int32 × Int32 × Int32 × Int32 × Int32 × (Nat → Int32) × (Nat → Int32) × (Nat → Int32) => (wX5_term cI cJ cZ cS a_t a_s a_keptS a_statuses a_pile a_tape a_steps a_wish a_mark a_bitsOf a_sizeOf a_number a_moved v_isKept k.1 k.2.1 k.2.2.1 k.2.2.2.1 k.2.2.2.2.1 k.2.2.2.2.2.1 k.2.2.2.2.2.2.1 v_tape k.2.2.2.2.2.2.2)) kk')) 0 0 (va_A (wX5_term cI cJ cZ cS a_t a_s a_keptS a_statuses a_pile a_tape a_steps a_wish a_mark a_bitsOf a_sizeOf a_number a_moved v_isKept v_taped v_at v_fault v_laid v_open v_s v_statuses v_tape v_steps) sz) := by
  refine q_enter (Qf := fun A => (q_Ri D rr A ((fun k : Int32 × Int32 × Int32 × Int32 × Int32 × (Nat → Int32) × (Nat → Int32) × (Nat → Int32) => (wX5_term cI cJ cZ cS a_t a_s a_keptS a_statuses a_pile a_tape a_steps a_wish a_mark a_bitsOf a_sizeOf a_number a_moved v_isKept k.1 k.2.1 k.2.2.1 k.2.2.2.1 k.2.2.2.2.1 k.2.2.2.2.2.1 k.2.2.2.2.2.2.1 v_tape k.2.2.2.2.2.2.2)) kk'))) (by decide) rfl (Nat.le_of_ble_eq_true rfl) ?_
  intro p e s m below meth c A ls fx hname h hl
  have hx := fx.1
  have hb := fx.2.1
  have hl : lv_has ls 3 [(0, .ref a_t), (1, .int x1)] := hl
  generalize h9 : s.heap = H at h ⊢
  clear h9
  generalize h9 : ([] : List Loc) = locs at h ⊢
  clear h9
  unfold fX5_term at hf
  refine lv_aload_n hx hb dX5_term_0 rfl (lv_at hl 0 rfl) ?_
  refine lv_iload_n hx hb dX5_term_1 rfl (lv_at hl 1 rfl) ?_
  obtain ⟨r7, k7, hg, hf⟩ := bR_inv hf
  refine q_ci (rest := []) (ws' := (wX5_term cI cJ cZ cS a_t a_s a_keptS a_statuses a_pile a_tape a_steps a_wish a_mark a_bitsOf a_sizeOf a_number a_moved v_isKept v_taped v_at v_fault v_laid v_open v_s v_statuses v_tape v_steps)) (w1 := (wX5_isGuest cI cJ cZ cS a_t a_s a_keptS a_statuses a_pile a_tape a_steps a_wish a_mark a_bitsOf a_sizeOf a_number a_moved v_isKept v_taped v_at v_fault v_laid v_open v_s)) fx h [0, 1] rfl rfl rfl rfl (q_runV fx h hl.1 [0, 1] rfl rfl (tX5_isGuest l D cI cJ cZ cS tb a_t a_s a_keptS a_statuses a_pile a_tape a_steps a_wish a_mark a_bitsOf a_sizeOf a_number a_moved H.size v_isKept v_taped v_at v_fault v_laid v_open v_s x1 r7 k7 hg) mvX5_isGuest k_711 ⟨rfl, rfl⟩ ⟨Nat.le_of_ble_eq_true rfl, Nat.le_of_ble_eq_true rfl⟩ rfl rfl rfl rfl (Nat.le_of_ble_eq_true rfl) dX5_term_2 ⟨Nat.le_of_ble_eq_true rfl, Nat.le_of_ble_eq_true rfl⟩) (fun H locs h => ?_)
  refine lv_if_ne (tgt := 15) hx hb dX5_term_5 (by decide) (fun c8 => ?_) (fun c8 => ?_)
  · have hf := it_f c8 hf
    refine lv_aload_n hx hb dX5_term_15 rfl (lv_at hl 0 rfl) ?_
    refine lv_iconst (v := 0) hx hb dX5_term_16 (by decide) ?_
    refine q_put (v := .int 0) (ws' := (wX5_term cI cJ cZ cS a_t a_s a_keptS a_statuses a_pile a_tape a_steps a_wish a_mark a_bitsOf a_sizeOf a_number a_moved v_isKept v_taped 0 v_fault v_laid v_open v_s v_statuses v_tape v_steps)) fx inX5 tyX5 tyX5_ok nmX5 h 0 rfl rfl 8 (by decide) k_644 rfl rfl rfl (Nat.le_of_ble_eq_true rfl) rfl dX5_term_17 (fun H locs h => ?_)
    refine lv_aload_n hx hb dX5_term_20 rfl (lv_at hl 0 rfl) ?_
    refine lv_iconst (v := -1) hx hb dX5_term_21 (by decide) ?_
    refine q_put (v := .int (-1)) (ws' := (wX5_term cI cJ cZ cS a_t a_s a_keptS a_statuses a_pile a_tape a_steps a_wish a_mark a_bitsOf a_sizeOf a_number a_moved v_isKept v_taped 0 (-1) v_laid v_open v_s v_statuses v_tape v_steps)) fx inX5 tyX5 tyX5_ok nmX5 h 0 rfl rfl 9 (by decide) k_645 rfl rfl rfl (Nat.le_of_ble_eq_true rfl) rfl dX5_term_22 (fun H locs h => ?_)
    refine lv_aload_n hx hb dX5_term_25 rfl (lv_at hl 0 rfl) ?_
    refine lv_iconst (v := 0) hx hb dX5_term_26 (by decide) ?_
    refine q_put (v := .int 0) (ws' := (wX5_term cI cJ cZ cS a_t a_s a_keptS a_statuses a_pile a_tape a_steps a_wish a_mark a_bitsOf a_sizeOf a_number a_moved v_isKept v_taped 0 (-1) 0 v_open v_s v_statuses v_tape v_steps)) fx inX5 tyX5 tyX5_ok nmX5 h 0 rfl rfl 10 (by decide) k_646 rfl rfl rfl (Nat.le_of_ble_eq_true rfl) rfl dX5_term_27 (fun H locs h => ?_)
    refine lv_aload_n hx hb dX5_term_30 rfl (lv_at hl 0 rfl) ?_
    refine lv_iconst (v := 0) hx hb dX5_term_31 (by decide) ?_
    refine q_put (v := .int 0) (ws' := (wX5_term cI cJ cZ cS a_t a_s a_keptS a_statuses a_pile a_tape a_steps a_wish a_mark a_bitsOf a_sizeOf a_number a_moved v_isKept v_taped 0 (-1) 0 0 v_s v_statuses v_tape v_steps)) fx inX5 tyX5 tyX5_ok nmX5 h 0 rfl rfl 11 (by decide) k_647 rfl rfl rfl (Nat.le_of_ble_eq_true rfl) rfl dX5_term_32 (fun H locs h => ?_)
    refine lv_aload_n hx hb dX5_term_35 rfl (lv_at hl 0 rfl) ?_
    obtain ⟨k9, hg, hf⟩ := bV_inv hf
    refine q_cv (rest := []) (ws' := (wX5_term cI cJ cZ cS a_t a_s a_keptS a_statuses a_pile a_tape a_steps a_wish a_mark a_bitsOf a_sizeOf a_number a_moved v_isKept v_taped k9.1 k9.2.1 k9.2.2.1 k9.2.2.2.1 v_s v_statuses v_tape k9.2.2.2.2)) (w1 := (wX5_any cI cJ cZ cS a_t a_s a_keptS a_statuses a_pile a_tape a_steps a_wish a_mark a_bitsOf a_sizeOf a_number a_moved v_isKept v_taped k9.1 k9.2.1 k9.2.2.1 k9.2.2.2.1 v_tape k9.2.2.2.2)) fx h [0, 3, 4] rfl rfl rfl rfl (q_runV fx h hl.1 [0, 3, 4] rfl rfl (tX5_any 8 l D cI cJ cZ cS tb a_t a_s a_keptS a_statuses a_pile a_tape a_steps a_wish a_mark a_bitsOf a_sizeOf a_number a_moved H.size v_isKept v_taped 0 (-1) 0 0 v_tape v_steps k9 hg) mvX5_any k_757 ⟨rfl, rfl⟩ ⟨Nat.le_of_ble_eq_true rfl, Nat.le_of_ble_eq_true rfl⟩ rfl rfl rfl rfl (Nat.le_of_ble_eq_true rfl) dX5_term_36 ⟨Nat.le_of_ble_eq_true rfl, Nat.le_of_ble_eq_true rfl⟩) (fun H locs h => ?_)
    refine lv_aload_n hx hb dX5_term_39 rfl (lv_at hl 0 rfl) ?_
    refine q_get (v := .int k9.2.1) fx inX5 h 0 rfl rfl 9 (by decide) k_645 rfl dX5_term_40 ?_
    refine lv_if_ge (tgt := 61) hx hb dX5_term_43 (by decide) (fun c10 => ?_) (fun c10 => ?_)
    · have hf := it_t c10 hf
      exact LX5_term_61 fx h (lv_sub hl [0, 1] rfl) hf
    have hf := it_f c10 hf
    refine lv_aload_n hx hb dX5_term_46 rfl (lv_at hl 0 rfl) ?_
    refine q_get (v := .int k9.1) fx inX5 h 0 rfl rfl 8 (by decide) k_644 rfl dX5_term_47 ?_
    refine lv_aload_n hx hb dX5_term_50 rfl (lv_at hl 0 rfl) ?_
    refine q_get (v := .int v_taped) fx inX5 h 0 rfl rfl 7 (by decide) k_643 rfl dX5_term_51 ?_
    refine lv_icmp_ge (tgt := 61) hx hb dX5_term_54 (by decide) (fun c11 => ?_) (fun c11 => ?_)
    · have hf := it_t c11 hf
      exact LX5_term_61 fx h (lv_sub hl [0, 1] rfl) hf
    have hf := it_f c11 hf
    refine lv_aload_n hx hb dX5_term_57 rfl (lv_at hl 0 rfl) ?_
    obtain ⟨k12, hg, hf⟩ := bV_inv hf
    refine q_cv (rest := []) (ws' := (wX5_term cI cJ cZ cS a_t a_s a_keptS a_statuses a_pile a_tape a_steps a_wish a_mark a_bitsOf a_sizeOf a_number a_moved v_isKept v_taped k9.1 k12 k9.2.2.1 k9.2.2.2.1 v_s v_statuses v_tape k9.2.2.2.2)) (w1 := (wX5_faulty cI cJ cZ cS a_t a_s a_keptS a_statuses a_pile a_tape a_steps a_wish a_mark a_bitsOf a_sizeOf a_number a_moved v_isKept v_taped k9.1 k12 k9.2.2.1 k9.2.2.2.1)) fx h [0] rfl rfl rfl rfl (q_runV fx h hl.1 [0] rfl rfl (tX5_faulty l D cI cJ cZ cS tb a_t a_s a_keptS a_statuses a_pile a_tape a_steps a_wish a_mark a_bitsOf a_sizeOf a_number a_moved H.size v_isKept v_taped k9.1 k9.2.1 k9.2.2.1 k9.2.2.2.1 k12 hg) mvX5_faulty k_783 ⟨rfl, rfl⟩ ⟨Nat.le_of_ble_eq_true rfl, Nat.le_of_ble_eq_true rfl⟩ rfl rfl rfl rfl (Nat.le_of_ble_eq_true rfl) dX5_term_58 ⟨Nat.le_of_ble_eq_true rfl, Nat.le_of_ble_eq_true rfl⟩) (fun H locs h => ?_)
    exact LX5_term_61 fx h (lv_sub hl [0, 1] rfl) hf
  have hf := it_t c8 hf
  refine lv_aload_n hx hb dX5_term_8 rfl (lv_at hl 0 rfl) ?_
  refine q_ldc fx k_701 dX5_term_9 ?_
  obtain ⟨r13, k13, hg, hf⟩ := bR_inv hf
  refine q_ci (rest := []) (ws' := (wX5_term cI cJ cZ cS a_t a_s a_keptS a_statuses a_pile a_tape a_steps a_wish a_mark a_bitsOf a_sizeOf a_number a_moved v_isKept v_taped v_at v_fault v_laid v_open v_s k13 v_tape v_steps)) (w1 := (wX5_finds cI cJ cZ cS a_t a_s a_keptS a_statuses a_pile a_tape a_steps a_wish a_mark a_bitsOf a_sizeOf a_number a_moved v_isKept v_taped v_at v_fault v_laid v_open k13)) fx h [0, 2] rfl rfl rfl rfl (q_runV fx h hl.1 [0, 2] rfl rfl (tX5_finds l D cI cJ cZ cS tb a_t a_s a_keptS a_statuses a_pile a_tape a_steps a_wish a_mark a_bitsOf a_sizeOf a_number a_moved H.size v_isKept v_taped v_at v_fault v_laid v_open v_statuses (-1000000001) r13 k13 hg) mvX5_finds k_702 ⟨rfl, rfl⟩ ⟨Nat.le_of_ble_eq_true rfl, Nat.le_of_ble_eq_true rfl⟩ rfl rfl rfl rfl (Nat.le_of_ble_eq_true rfl) dX5_term_11 ⟨Nat.le_of_ble_eq_true rfl, Nat.le_of_ble_eq_true rfl⟩) (fun H locs h => ?_)
  exact q_reti (fun k : Int32 × Int32 × Int32 × Int32 × Int32 × (Nat → Int32) × (Nat → Int32) × (Nat → Int32) => (wX5_term cI cJ cZ cS a_t a_s a_keptS a_statuses a_pile a_tape a_steps a_wish a_mark a_bitsOf a_sizeOf a_number a_moved v_isKept k.1 k.2.1 k.2.2.1 k.2.2.2.1 k.2.2.2.2.1 k.2.2.2.2.2.1 k.2.2.2.2.2.2.1 v_tape k.2.2.2.2.2.2.2)) fx hf h dX5_term_14
/-! X5_feed -/
abbrev wX5_feed (cI cJ cZ cS : ClassId) (a_t a_s a_keptS a_statuses a_pile a_tape a_steps a_wish a_mark a_bitsOf a_sizeOf a_number a_moved : Nat) (v_isKept : Int32) (v_taped : Int32) (v_at : Int32) (v_fault : Int32) (v_laid : Int32) (v_open : Int32) (v_statuses : Nat → Int32) (v_tape : Nat → Int32) : va_W := [(a_t, .inr (5, [.ref a_s, .ref a_keptS, .ref a_statuses, .int v_isKept, .ref a_pile, .ref a_tape, .ref a_steps, .int v_taped, .int v_at, .int v_fault, .int v_laid, .int v_open, .ref a_wish, .ref a_mark, .ref a_bitsOf, .ref a_sizeOf, .ref a_number, .ref a_moved])), (a_statuses, .inl (cI, 7, .inl v_statuses)), (a_tape, .inl (cI, 60, .inl v_tape))]
abbrev rX5_feed : Room := { frames := 1, cells := 0, slots := 0, locals := 25 }
def fX5_feed_41 (ag41 : Int32 → (Nat → Int32) → (Nat → Int32) → Int32 → Int32 → Option (Int32 × Int32 × (Nat → Int32) × (Nat → Int32))) (v_taped : Int32) (v_statuses : Nat → Int32) (v_tape : Nat → Int32) (y1 : Int32) (y3 : Int32) : Option (Int32 × Int32 × (Nat → Int32) × (Nat → Int32)) :=
  (if y3 < 0 then (
  some (v_taped, (v_taped, v_statuses, v_tape)))
  else (
  gIn v_taped 60 (
  nm (v_taped + 1) (fun u3 =>
  nm (y3 + (-1)) (fun u4 =>
  ag41 u3 v_statuses (upd v_tape v_taped.toNatClampNeg ((jshr y1 (8 * y3)) &&& 255)) y1 u4)))))
set_option maxRecDepth 100000 in
set_option maxHeartbeats 4000000 in
theorem LX5_feed_41 {p : Program} {l : Launch} {e : Env} {s : State} {m : MethodId} {args : Array Value} {below : List Frame} {meth : Method} {c : Code} {D : va_G} {cI cJ cZ cS : ClassId} {tb : Nat} {A : Nat → Prop} {a_t a_s a_keptS a_statuses a_pile a_tape a_steps a_wish a_mark a_bitsOf a_sizeOf a_number a_moved : Nat} {v_isKept : Int32} {v_at : Int32} {v_fault : Int32} {v_laid : Int32} {v_open : Int32} {rr : Int32} {kk' : Int32 × (Nat → Int32) × (Nat → Int32)} (fx : q_Fx p s m args meth c cX5_feed 4 RX5 (some .int) D cI cJ cZ cS tb A) {ag41 : Int32 → (Nat → Int32) → (Nat → Int32) → Int32 → Int32 → Option (Int32 × Int32 × (Nat → Int32) × (Nat → Int32))} (hag41 : ∀ {v_taped : Int32} {v_statuses : Nat → Int32} {v_tape : Nat → Int32} {y1 : Int32} {y3 : Int32} {H : Heap} {locs : List Loc} {ls : Array Slot}, q_H D A s (wX5_feed cI cJ cZ cS a_t a_s a_keptS a_statuses a_pile a_tape a_steps a_wish a_mark a_bitsOf a_sizeOf a_number a_moved v_isKept v_taped v_at v_fault v_laid v_open v_statuses v_tape) H locs → lv_has ls 4 [(0, .ref a_t), (1, .int y1), (3, .int y3)] → ag41 v_taped v_statuses v_tape y1 y3 = some (rr, kk') → W p l e rX5_feed s m args below meth c H locs 0 0 (MQ below (q_Ri D rr A ((fun k : Int32 × (Nat → Int32) × (Nat → Int32) => (wX5_feed cI cJ cZ cS a_t a_s a_keptS a_statuses a_pile a_tape a_steps a_wish a_mark a_bitsOf a_sizeOf a_number a_moved v_isKept k.1 v_at v_fault v_laid v_open k.2.1 k.2.2)) kk')) args s 0 0 A) (F0 m 41 ls [])) : ∀ {v_taped : Int32} {v_statuses : Nat → Int32} {v_tape : Nat → Int32} {y1 : Int32} {y3 : Int32} {H : Heap} {locs : List Loc} {ls : Array Slot}, q_H D A s (wX5_feed cI cJ cZ cS a_t a_s a_keptS a_statuses a_pile a_tape a_steps a_wish a_mark a_bitsOf a_sizeOf a_number a_moved v_isKept v_taped v_at v_fault v_laid v_open v_statuses v_tape) H locs → lv_has ls 4 [(0, .ref a_t), (1, .int y1), (3, .int y3)] → fX5_feed_41 ag41 v_taped v_statuses v_tape y1 y3 = some (rr, kk') → W p l e rX5_feed s m args below meth c H locs 0 0 (MQ below (q_Ri D rr A ((fun k : Int32 × (Nat → Int32) × (Nat → Int32) => (wX5_feed cI cJ cZ cS a_t a_s a_keptS a_statuses a_pile a_tape a_steps a_wish a_mark a_bitsOf a_sizeOf a_number a_moved v_isKept k.1 v_at v_fault v_laid v_open k.2.1 k.2.2)) kk')) args s 0 0 A) (F0 m 41 ls []) := by
  intro v_taped v_statuses v_tape y1 y3 H locs ls h hl hf
  have hx := fx.1
  have hb := fx.2.1
  unfold fX5_feed_41 at hf
  refine lv_iload_n hx hb dX5_feed_41 rfl (lv_at hl 2 rfl) ?_
  refine lv_if_lt (tgt := 80) hx hb dX5_feed_42 (by decide) (fun c1 => ?_) (fun c1 => ?_)
  · have hf := it_t c1 hf
    refine lv_aload_n hx hb dX5_feed_80 rfl (lv_at hl 0 rfl) ?_
    refine q_get (v := .int v_taped) fx inX5 h 0 rfl rfl 7 (by decide) k_643 rfl dX5_feed_81 ?_
    exact q_reti (fun k : Int32 × (Nat → Int32) × (Nat → Int32) => (wX5_feed cI cJ cZ cS a_t a_s a_keptS a_statuses a_pile a_tape a_steps a_wish a_mark a_bitsOf a_sizeOf a_number a_moved v_isKept k.1 v_at v_fault v_laid v_open k.2.1 k.2.2)) fx hf h dX5_feed_84
  have hf := it_f c1 hf
  refine lv_aload_n hx hb dX5_feed_45 rfl (lv_at hl 0 rfl) ?_
  refine q_get (v := .ref a_tape) fx inX5 h 0 rfl rfl 5 (by decide) k_641 rfl dX5_feed_46 ?_
  refine lv_aload_n hx hb dX5_feed_49 rfl (lv_at hl 0 rfl) ?_
  refine q_get (v := .int v_taped) fx inX5 h 0 rfl rfl 7 (by decide) k_643 rfl dX5_feed_50 ?_
  refine lv_iload_n hx hb dX5_feed_53 rfl (lv_at hl 1 rfl) ?_
  refine lv_bipush (v := 8) hx hb dX5_feed_54 (by decide) ?_
  refine lv_iload_n hx hb dX5_feed_56 rfl (lv_at hl 2 rfl) ?_
  refine lv_imul hx hb dX5_feed_57 ?_
  refine lv_ishr hx hb dX5_feed_58 ?_
  refine lv_sipush (v := 255) hx hb dX5_feed_59 (by decide) ?_
  refine lv_iand hx hb dX5_feed_62 ?_
  obtain ⟨i2, hf⟩ := gIn_inv hf
  refine q_iast (ws' := (wX5_feed cI cJ cZ cS a_t a_s a_keptS a_statuses a_pile a_tape a_steps a_wish a_mark a_bitsOf a_sizeOf a_number a_moved v_isKept v_taped v_at v_fault v_laid v_open v_statuses (upd v_tape v_taped.toNatClampNeg ((jshr y1 (8 * y3)) &&& 255)))) fx h 2 rfl i2 rfl dX5_feed_63 (fun H locs h => ?_)
  refine lv_aload_n hx hb dX5_feed_64 rfl (lv_at hl 0 rfl) ?_
  refine lv_dup hx hb dX5_feed_65 rfl ?_
  refine q_get (v := .int v_taped) fx inX5 h 0 rfl rfl 7 (by decide) k_643 rfl dX5_feed_66 ?_
  refine lv_iconst (v := 1) hx hb dX5_feed_69 (by decide) ?_
  refine lv_iadd hx hb dX5_feed_70 ?_
  obtain ⟨u3, eu3, hf⟩ := nm_inv hf
  refine lv_eqi eu3 ?_
  refine q_put (v := .int u3) (ws' := (wX5_feed cI cJ cZ cS a_t a_s a_keptS a_statuses a_pile a_tape a_steps a_wish a_mark a_bitsOf a_sizeOf a_number a_moved v_isKept u3 v_at v_fault v_laid v_open v_statuses (upd v_tape v_taped.toNatClampNeg ((jshr y1 (8 * y3)) &&& 255)))) fx inX5 tyX5 tyX5_ok nmX5 h 0 rfl rfl 7 (by decide) k_643 rfl rfl rfl (Nat.le_of_ble_eq_true rfl) rfl dX5_feed_71 (fun H locs h => ?_)
  obtain ⟨u4, eu4, hf⟩ := nm_inv hf
  refine lv_iinc (v := u4) (lv' := [(3, .int u4), (0, .ref a_t), (1, .int y1)]) hx hb dX5_feed_74 hl (k := 2) rfl (by rw [eu4]; rfl) (by decide) rfl (fun ls hl => ?_)
  refine lv_goto (tgt := 41) hx hb dX5_feed_77 (by decide) ?_
  exact hag41 h (lv_sub hl [1, 2, 0] rfl) hf
set_option maxRecDepth 100000 in
theorem EX5_feed_41 {p : Program} {l : Launch} {e : Env} {s : State} {m : MethodId} {args : Array Value} {below : List Frame} {meth : Method} {c : Code} {D : va_G} {cI cJ cZ cS : ClassId} {tb : Nat} {A : Nat → Prop} {a_t a_s a_keptS a_statuses a_pile a_tape a_steps a_wish a_mark a_bitsOf a_sizeOf a_number a_moved : Nat} {v_isKept : Int32} {v_at : Int32} {v_fault : Int32} {v_laid : Int32} {v_open : Int32} {rr : Int32} {kk' : Int32 × (Nat → Int32) × (Nat → Int32)} (fx : q_Fx p s m args meth c cX5_feed 4 RX5 (some .int) D cI cJ cZ cS tb A) : ∀ (n : Nat), ∀ {v_taped : Int32} {v_statuses : Nat → Int32} {v_tape : Nat → Int32} {y1 : Int32} {y3 : Int32} {H : Heap} {locs : List Loc} {ls : Array Slot}, q_H D A s (wX5_feed cI cJ cZ cS a_t a_s a_keptS a_statuses a_pile a_tape a_steps a_wish a_mark a_bitsOf a_sizeOf a_number a_moved v_isKept v_taped v_at v_fault v_laid v_open v_statuses v_tape) H locs → lv_has ls 4 [(0, .ref a_t), (1, .int y1), (3, .int y3)] → ll5 (fX5_feed_41 ) n v_taped v_statuses v_tape y1 y3 = some (rr, kk') → W p l e rX5_feed s m args below meth c H locs 0 0 (MQ below (q_Ri D rr A ((fun k : Int32 × (Nat → Int32) × (Nat → Int32) => (wX5_feed cI cJ cZ cS a_t a_s a_keptS a_statuses a_pile a_tape a_steps a_wish a_mark a_bitsOf a_sizeOf a_number a_moved v_isKept k.1 v_at v_fault v_laid v_open k.2.1 k.2.2)) kk')) args s 0 0 A) (F0 m 41 ls []) := by
  intro n
  induction n with
  | zero => intro v_taped v_statuses v_tape y1 y3 H locs ls h hl hf; exact (ll5_z hf).elim
  | succ n ih => intro v_taped v_statuses v_tape y1 y3 H locs ls h hl hf; exact LX5_feed_41 fx ih h hl (ll5_s hf)
def fX5_feed (v_taped : Int32) (v_statuses : Nat → Int32) (v_tape : Nat → Int32) (x1 : Int32) (x2 : Int32) : Option (Int32 × Int32 × (Nat → Int32) × (Nat → Int32)) :=
  bR (fX5_in (x2.toInt64) 1 4) (fun r5 k5 =>
  (if r5 = 0 then (
  bR (fX5_finds v_statuses (-1000000001)) (fun r10 k10 =>
  some (r10, (v_taped, k10, v_tape))))
  else (
  (if (v_taped + x2) ≤ 60 then (
  nm (x2 - 1) (fun u8 =>
  ll5 (fX5_feed_41 ) qF v_taped v_statuses v_tape x1 u8))
  else (
  bR (fX5_finds v_statuses (-1000000002)) (fun r9 k9 =>
  some (r9, (v_taped, k9, v_tape))))))))
set_option maxRecDepth 100000 in
set_option maxHeartbeats 4000000 in
theorem tX5_feed (l : Launch) (D : va_G) (cI cJ cZ cS : ClassId) (tb : Nat) (a_t a_s a_keptS a_statuses a_pile a_tape a_steps a_wish a_mark a_bitsOf a_sizeOf a_number a_moved : Nat) (sz : Nat) (v_isKept : Int32) (v_taped : Int32) (v_at : Int32) (v_fault : Int32) (v_laid : Int32) (v_open : Int32) (v_statuses : Nat → Int32) (v_tape : Nat → Int32) (x1 : Int32) (x2 : Int32) (rr : Int32) (kk' : Int32 × (Nat → Int32) × (Nat → Int32)) (hf : fX5_feed v_taped v_statuses v_tape x1 x2 = some (rr, kk')) : Met l yX5_feed (Cond.code yX5_feed cX5_feed 4 (some .int) :: wA) rX5_feed (q_Pre D cI cJ cZ cS tb [.ref a_t, .int x1, .int x2] sz (wX5_feed cI cJ cZ cS a_t a_s a_keptS a_statuses a_pile a_tape a_steps a_wish a_mark a_bitsOf a_sizeOf a_number a_moved v_isKept v_taped v_at v_fault v_laid v_open v_statuses v_tape)) (q_Ri D rr (va_A (wX5_feed cI cJ cZ cS a_t a_s a_keptS a_statuses a_pile a_tape a_steps a_wish a_mark a_bitsOf a_sizeOf a_number a_moved v_isKept v_taped v_at v_fault v_laid v_open v_statuses v_tape) sz) ((fun k : Int32 × (Nat → Int32) × (Nat → Int32) => (wX5_feed cI cJ cZ cS a_t a_s a_keptS a_statuses a_pile a_tape a_steps a_wish a_mark a_bitsOf a_sizeOf a_number a_moved v_isKept k.1 v_at v_fault v_laid v_open k.2.1 k.2.2)) kk')) 0 0 (va_A (wX5_feed cI cJ cZ cS a_t a_s a_keptS a_statuses a_pile a_tape a_steps a_wish a_mark a_bitsOf a_sizeOf a_number a_moved v_isKept v_taped v_at v_fault v_laid v_open v_statuses v_tape) sz) := by
  refine q_enter (Qf := fun A => (q_Ri D rr A ((fun k : Int32 × (Nat → Int32) × (Nat → Int32) => (wX5_feed cI cJ cZ cS a_t a_s a_keptS a_statuses a_pile a_tape a_steps a_wish a_mark a_bitsOf a_sizeOf a_number a_moved v_isKept k.1 v_at v_fault v_laid v_open k.2.1 k.2.2)) kk'))) (by decide) rfl (Nat.le_of_ble_eq_true rfl) ?_
  intro p e s m below meth c A ls fx hname h hl
  have hx := fx.1
  have hb := fx.2.1
  have hl : lv_has ls 4 [(0, .ref a_t), (1, .int x1), (2, .int x2)] := hl
  generalize h9 : s.heap = H at h ⊢
  clear h9
  generalize h9 : ([] : List Loc) = locs at h ⊢
  clear h9
  unfold fX5_feed at hf
  refine lv_iload_n hx hb dX5_feed_0 rfl (lv_at hl 2 rfl) ?_
  refine lv_i2l hx hb dX5_feed_1 rfl ?_
  refine lv_lconst (v := 1) hx hb dX5_feed_2 (by decide) ?_
  refine q_ldc2 fx k_797 dX5_feed_3 ?_
  obtain ⟨r5, k5, hg, hf⟩ := bR_inv hf
  refine q_ci (rest := []) (ws' := (wX5_feed cI cJ cZ cS a_t a_s a_keptS a_statuses a_pile a_tape a_steps a_wish a_mark a_bitsOf a_sizeOf a_number a_moved v_isKept v_taped v_at v_fault v_laid v_open v_statuses v_tape)) (w1 := (wX5_in cI cJ cZ cS)) fx h [] rfl rfl rfl rfl (q_runS fx h hl.1 [] rfl rfl (tX5_in l D cI cJ cZ cS tb H.size (x2.toInt64) 1 4 r5 k5 hg) msX5_in k_697 ⟨rfl, rfl⟩ ⟨Nat.le_of_ble_eq_true rfl, Nat.le_of_ble_eq_true rfl⟩ rfl rfl (Nat.le_of_ble_eq_true rfl) dX5_feed_6 ⟨Nat.le_of_ble_eq_true rfl, Nat.le_of_ble_eq_true rfl⟩) (fun H locs h => ?_)
  refine lv_if_ne (tgt := 19) hx hb dX5_feed_9 (by decide) (fun c6 => ?_) (fun c6 => ?_)
  · have hf := it_f c6 hf
    refine lv_aload_n hx hb dX5_feed_19 rfl (lv_at hl 0 rfl) ?_
    refine q_get (v := .int v_taped) fx inX5 h 0 rfl rfl 7 (by decide) k_643 rfl dX5_feed_20 ?_
    refine lv_iload_n hx hb dX5_feed_23 rfl (lv_at hl 2 rfl) ?_
    refine lv_iadd hx hb dX5_feed_24 ?_
    refine lv_bipush (v := 60) hx hb dX5_feed_25 (by decide) ?_
    refine lv_icmp_le (tgt := 37) hx hb dX5_feed_27 (by decide) (fun c7 => ?_) (fun c7 => ?_)
    · have hf := it_t c7 hf
      refine lv_iload_n hx hb dX5_feed_37 rfl (lv_at hl 2 rfl) ?_
      refine lv_iconst (v := 1) hx hb dX5_feed_38 (by decide) ?_
      refine lv_isub hx hb dX5_feed_39 ?_
      obtain ⟨u8, eu8, hf⟩ := nm_inv hf
      refine lv_eqi eu8 ?_
      refine lv_istore_n (lv' := [(3, .int u8), (0, .ref a_t), (1, .int x1), (2, .int x2)]) hx hb dX5_feed_40 rfl hl (by decide) rfl (fun ls hl => ?_)
      exact EX5_feed_41 fx qF h (lv_sub hl [1, 2, 0] rfl) hf
    have hf := it_f c7 hf
    refine lv_aload_n hx hb dX5_feed_30 rfl (lv_at hl 0 rfl) ?_
    refine q_ldc fx k_706 dX5_feed_31 ?_
    obtain ⟨r9, k9, hg, hf⟩ := bR_inv hf
    refine q_ci (rest := []) (ws' := (wX5_feed cI cJ cZ cS a_t a_s a_keptS a_statuses a_pile a_tape a_steps a_wish a_mark a_bitsOf a_sizeOf a_number a_moved v_isKept v_taped v_at v_fault v_laid v_open k9 v_tape)) (w1 := (wX5_finds cI cJ cZ cS a_t a_s a_keptS a_statuses a_pile a_tape a_steps a_wish a_mark a_bitsOf a_sizeOf a_number a_moved v_isKept v_taped v_at v_fault v_laid v_open k9)) fx h [0, 1] rfl rfl rfl rfl (q_runV fx h hl.1 [0, 1] rfl rfl (tX5_finds l D cI cJ cZ cS tb a_t a_s a_keptS a_statuses a_pile a_tape a_steps a_wish a_mark a_bitsOf a_sizeOf a_number a_moved H.size v_isKept v_taped v_at v_fault v_laid v_open v_statuses (-1000000002) r9 k9 hg) mvX5_finds k_702 ⟨rfl, rfl⟩ ⟨Nat.le_of_ble_eq_true rfl, Nat.le_of_ble_eq_true rfl⟩ rfl rfl rfl rfl (Nat.le_of_ble_eq_true rfl) dX5_feed_33 ⟨Nat.le_of_ble_eq_true rfl, Nat.le_of_ble_eq_true rfl⟩) (fun H locs h => ?_)
    exact q_reti (fun k : Int32 × (Nat → Int32) × (Nat → Int32) => (wX5_feed cI cJ cZ cS a_t a_s a_keptS a_statuses a_pile a_tape a_steps a_wish a_mark a_bitsOf a_sizeOf a_number a_moved v_isKept k.1 v_at v_fault v_laid v_open k.2.1 k.2.2)) fx hf h dX5_feed_36
  have hf := it_t c6 hf
  refine lv_aload_n hx hb dX5_feed_12 rfl (lv_at hl 0 rfl) ?_
  refine q_ldc fx k_701 dX5_feed_13 ?_
  obtain ⟨r10, k10, hg, hf⟩ := bR_inv hf
  refine q_ci (rest := []) (ws' := (wX5_feed cI cJ cZ cS a_t a_s a_keptS a_statuses a_pile a_tape a_steps a_wish a_mark a_bitsOf a_sizeOf a_number a_moved v_isKept v_taped v_at v_fault v_laid v_open k10 v_tape)) (w1 := (wX5_finds cI cJ cZ cS a_t a_s a_keptS a_statuses a_pile a_tape a_steps a_wish a_mark a_bitsOf a_sizeOf a_number a_moved v_isKept v_taped v_at v_fault v_laid v_open k10)) fx h [0, 1] rfl rfl rfl rfl (q_runV fx h hl.1 [0, 1] rfl rfl (tX5_finds l D cI cJ cZ cS tb a_t a_s a_keptS a_statuses a_pile a_tape a_steps a_wish a_mark a_bitsOf a_sizeOf a_number a_moved H.size v_isKept v_taped v_at v_fault v_laid v_open v_statuses (-1000000001) r10 k10 hg) mvX5_finds k_702 ⟨rfl, rfl⟩ ⟨Nat.le_of_ble_eq_true rfl, Nat.le_of_ble_eq_true rfl⟩ rfl rfl rfl rfl (Nat.le_of_ble_eq_true rfl) dX5_feed_15 ⟨Nat.le_of_ble_eq_true rfl, Nat.le_of_ble_eq_true rfl⟩) (fun H locs h => ?_)
  exact q_reti (fun k : Int32 × (Nat → Int32) × (Nat → Int32) => (wX5_feed cI cJ cZ cS a_t a_s a_keptS a_statuses a_pile a_tape a_steps a_wish a_mark a_bitsOf a_sizeOf a_number a_moved v_isKept k.1 v_at v_fault v_laid v_open k.2.1 k.2.2)) fx hf h dX5_feed_18
/-! X5_wipe -/
abbrev wX5_wipe (cI cJ cZ cS : ClassId) (a_t a_s a_keptS a_statuses a_pile a_tape a_steps a_wish a_mark a_bitsOf a_sizeOf a_number a_moved : Nat) (v_isKept : Int32) (v_taped : Int32) (v_at : Int32) (v_fault : Int32) (v_laid : Int32) (v_open : Int32) : va_W := [(a_t, .inr (5, [.ref a_s, .ref a_keptS, .ref a_statuses, .int v_isKept, .ref a_pile, .ref a_tape, .ref a_steps, .int v_taped, .int v_at, .int v_fault, .int v_laid, .int v_open, .ref a_wish, .ref a_mark, .ref a_bitsOf, .ref a_sizeOf, .ref a_number, .ref a_moved]))]
abbrev rX5_wipe : Room := { frames := 0, cells := 0, slots := 0, locals := 0 }
def fX5_wipe (v_taped : Int32) : Option (Int32 × Int32) :=
  some (v_taped, 0)
set_option maxRecDepth 100000 in
set_option maxHeartbeats 4000000 in
theorem tX5_wipe (l : Launch) (D : va_G) (cI cJ cZ cS : ClassId) (tb : Nat) (a_t a_s a_keptS a_statuses a_pile a_tape a_steps a_wish a_mark a_bitsOf a_sizeOf a_number a_moved : Nat) (sz : Nat) (v_isKept : Int32) (v_taped : Int32) (v_at : Int32) (v_fault : Int32) (v_laid : Int32) (v_open : Int32) (rr : Int32) (kk' : Int32) (hf : fX5_wipe v_taped = some (rr, kk')) : Met l yX5_wipe (Cond.code yX5_wipe cX5_wipe 2 (some .int) :: wA) rX5_wipe (q_Pre D cI cJ cZ cS tb [.ref a_t] sz (wX5_wipe cI cJ cZ cS a_t a_s a_keptS a_statuses a_pile a_tape a_steps a_wish a_mark a_bitsOf a_sizeOf a_number a_moved v_isKept v_taped v_at v_fault v_laid v_open)) (q_Ri D rr (va_A (wX5_wipe cI cJ cZ cS a_t a_s a_keptS a_statuses a_pile a_tape a_steps a_wish a_mark a_bitsOf a_sizeOf a_number a_moved v_isKept v_taped v_at v_fault v_laid v_open) sz) ((fun k : Int32 => (wX5_wipe cI cJ cZ cS a_t a_s a_keptS a_statuses a_pile a_tape a_steps a_wish a_mark a_bitsOf a_sizeOf a_number a_moved v_isKept k v_at v_fault v_laid v_open)) kk')) 0 0 (va_A (wX5_wipe cI cJ cZ cS a_t a_s a_keptS a_statuses a_pile a_tape a_steps a_wish a_mark a_bitsOf a_sizeOf a_number a_moved v_isKept v_taped v_at v_fault v_laid v_open) sz) := by
  refine q_enter (Qf := fun A => (q_Ri D rr A ((fun k : Int32 => (wX5_wipe cI cJ cZ cS a_t a_s a_keptS a_statuses a_pile a_tape a_steps a_wish a_mark a_bitsOf a_sizeOf a_number a_moved v_isKept k v_at v_fault v_laid v_open)) kk'))) (by decide) rfl (Nat.le_of_ble_eq_true rfl) ?_
  intro p e s m below meth c A ls fx hname h hl
  have hx := fx.1
  have hb := fx.2.1
  have hl : lv_has ls 2 [(0, .ref a_t)] := hl
  generalize h9 : s.heap = H at h ⊢
  clear h9
  generalize h9 : ([] : List Loc) = locs at h ⊢
  clear h9
  unfold fX5_wipe at hf
  refine lv_aload_n hx hb dX5_wipe_0 rfl (lv_at hl 0 rfl) ?_
  refine q_get (v := .int v_taped) fx inX5 h 0 rfl rfl 7 (by decide) k_643 rfl dX5_wipe_1 ?_
  refine lv_istore_n (lv' := [(1, .int v_taped), (0, .ref a_t)]) hx hb dX5_wipe_4 rfl hl (by decide) rfl (fun ls hl => ?_)
  refine lv_aload_n hx hb dX5_wipe_5 rfl (lv_at hl 1 rfl) ?_
  refine lv_iconst (v := 0) hx hb dX5_wipe_6 (by decide) ?_
  refine q_put (v := .int 0) (ws' := (wX5_wipe cI cJ cZ cS a_t a_s a_keptS a_statuses a_pile a_tape a_steps a_wish a_mark a_bitsOf a_sizeOf a_number a_moved v_isKept 0 v_at v_fault v_laid v_open)) fx inX5 tyX5 tyX5_ok nmX5 h 0 rfl rfl 7 (by decide) k_643 rfl rfl rfl (Nat.le_of_ble_eq_true rfl) rfl dX5_wipe_7 (fun H locs h => ?_)
  refine lv_iload_n hx hb dX5_wipe_10 rfl (lv_at hl 0 rfl) ?_
  exact q_reti (fun k : Int32 => (wX5_wipe cI cJ cZ cS a_t a_s a_keptS a_statuses a_pile a_tape a_steps a_wish a_mark a_bitsOf a_sizeOf a_number a_moved v_isKept k v_at v_fault v_laid v_open)) fx hf h dX5_wipe_11
