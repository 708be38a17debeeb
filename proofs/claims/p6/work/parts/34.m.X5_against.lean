/-! X5_against -/
abbrev wX5_against (cI cJ cZ cS : ClassId) (a_t a_s a_keptS a_statuses a_pile a_tape a_steps a_wish a_mark a_bitsOf a_sizeOf a_number a_moved : Nat) (v_isKept : Int32) (v_taped : Int32) (v_at : Int32) (v_fault : Int32) (v_laid : Int32) (v_open : Int32) (v_s : Nat → Int32) (v_statuses : Nat → Int32) (v_pile : Nat → Int32) (v_wish : Nat → Int32) : va_W := [(a_t, .inr (5, [.ref a_s, .ref a_keptS, .ref a_statuses, .int v_isKept, .ref a_pile, .ref a_tape, .ref a_steps, .int v_taped, .int v_at, .int v_fault, .int v_laid, .int v_open, .ref a_wish, .ref a_mark, .ref a_bitsOf, .ref a_sizeOf, .ref a_number, .ref a_moved])), (a_s, .inl (cI, 538, .inl v_s)), (a_statuses, .inl (cI, 7, .inl v_statuses)), (a_pile, .inl (cZ, 64, .inl v_pile)), (a_wish, .inl (cI, 256, .inl v_wish))]
abbrev rX5_against : Room := { frames := 6, cells := 0, slots := 0, locals := 137 }
def fX5_against_154 (v_s : Nat → Int32) (ag43 : (Nat → Int32) → (Nat → Int32) → (Nat → Int32) → Int32 → Int32 → Int32 → Int32 → Int32 → Int32 → Option (Int32 × (Nat → Int32) × (Nat → Int32) × (Nat → Int32))) (v_statuses : Nat → Int32) (v_pile : Nat → Int32) (v_wish : Nat → Int32) (s0 : Int32) (y1 : Int32) (y2 : Int32) (y3 : Int32) (y4 : Int32) (y6 : Int32) : Option (Int32 × (Nat → Int32) × (Nat → Int32) × (Nat → Int32)) :=
  nm (y6 + 1) (fun u1 =>
  ag43 v_statuses v_pile v_wish y1 y2 y3 y4 s0 u1)
set_option maxRecDepth 100000 in
set_option maxHeartbeats 4000000 in
theorem LX5_against_154 {p : Program} {l : Launch} {e : Env} {s : State} {m : MethodId} {args : Array Value} {below : List Frame} {meth : Method} {c : Code} {D : va_G} {cI cJ cZ cS : ClassId} {tb : Nat} {A : Nat → Prop} {a_t a_s a_keptS a_statuses a_pile a_tape a_steps a_wish a_mark a_bitsOf a_sizeOf a_number a_moved : Nat} {v_isKept : Int32} {v_taped : Int32} {v_at : Int32} {v_fault : Int32} {v_laid : Int32} {v_open : Int32} {v_s : Nat → Int32} {rr : Int32} {kk' : (Nat → Int32) × (Nat → Int32) × (Nat → Int32)} (fx : q_Fx p s m args meth c cX5_against 8 RX5 (some .int) D cI cJ cZ cS tb A) {ag43 : (Nat → Int32) → (Nat → Int32) → (Nat → Int32) → Int32 → Int32 → Int32 → Int32 → Int32 → Int32 → Option (Int32 × (Nat → Int32) × (Nat → Int32) × (Nat → Int32))} (hag43 : ∀ {v_statuses : Nat → Int32} {v_pile : Nat → Int32} {v_wish : Nat → Int32} {y1 : Int32} {y2 : Int32} {y3 : Int32} {y4 : Int32} {y5 : Int32} {y6 : Int32} {H : Heap} {locs : List Loc} {ls : Array Slot}, q_H D A s (wX5_against cI cJ cZ cS a_t a_s a_keptS a_statuses a_pile a_tape a_steps a_wish a_mark a_bitsOf a_sizeOf a_number a_moved v_isKept v_taped v_at v_fault v_laid v_open v_s v_statuses v_pile v_wish) H locs → lv_has ls 8 [(0, .ref a_t), (1, .int y1), (2, .int y2), (3, .int y3), (4, .int y4), (5, .int y5), (6, .int y6)] → ag43 v_statuses v_pile v_wish y1 y2 y3 y4 y5 y6 = some (rr, kk') → W p l e rX5_against s m args below meth c H locs 0 0 (MQ below (q_Ri D rr A ((fun k : (Nat → Int32) × (Nat → Int32) × (Nat → Int32) => (wX5_against cI cJ cZ cS a_t a_s a_keptS a_statuses a_pile a_tape a_steps a_wish a_mark a_bitsOf a_sizeOf a_number a_moved v_isKept v_taped v_at v_fault v_laid v_open v_s k.1 k.2.1 k.2.2)) kk')) args s 0 0 A) (F0 m 43 ls [])) : ∀ {v_statuses : Nat → Int32} {v_pile : Nat → Int32} {v_wish : Nat → Int32} {s0 : Int32} {y1 : Int32} {y2 : Int32} {y3 : Int32} {y4 : Int32} {y6 : Int32} {H : Heap} {locs : List Loc} {ls : Array Slot}, q_H D A s (wX5_against cI cJ cZ cS a_t a_s a_keptS a_statuses a_pile a_tape a_steps a_wish a_mark a_bitsOf a_sizeOf a_number a_moved v_isKept v_taped v_at v_fault v_laid v_open v_s v_statuses v_pile v_wish) H locs → lv_has ls 8 [(0, .ref a_t), (1, .int y1), (2, .int y2), (3, .int y3), (4, .int y4), (6, .int y6)] → fX5_against_154 v_s ag43 v_statuses v_pile v_wish s0 y1 y2 y3 y4 y6 = some (rr, kk') → W p l e rX5_against s m args below meth c H locs 0 0 (MQ below (q_Ri D rr A ((fun k : (Nat → Int32) × (Nat → Int32) × (Nat → Int32) => (wX5_against cI cJ cZ cS a_t a_s a_keptS a_statuses a_pile a_tape a_steps a_wish a_mark a_bitsOf a_sizeOf a_number a_moved v_isKept v_taped v_at v_fault v_laid v_open v_s k.1 k.2.1 k.2.2)) kk')) args s 0 0 A) (F0 m 154 ls [.int s0]) := by
  intro v_statuses v_pile v_wish s0 y1 y2 y3 y4 y6 H locs ls h hl hf
  have hx := fx.1
  have hb := fx.2.1
  unfold fX5_against_154 at hf
  refine lv_istore (lv' := [(5, .int s0), (0, .ref a_t), (1, .int y1), (2, .int y2), (3, .int y3), (4, .int y4), (6, .int y6)]) hx hb dX5_against_154 hl (by decide) rfl (fun ls hl => ?_)
  obtain ⟨u1, eu1, hf⟩ := nm_inv hf
  refine lv_iinc (v := u1) (lv' := [(6, .int u1), (5, .int s0), (0, .ref a_t), (1, .int y1), (2, .int y2), (3, .int y3), (4, .int y4)]) hx hb dX5_against_156 hl (k := 6) rfl (by rw [eu1]; rfl) (by decide) rfl (fun ls hl => ?_)
  refine lv_goto (tgt := 43) hx hb dX5_against_159 (by decide) ?_
  exact hag43 h (lv_sub hl [2, 3, 4, 5, 6, 1, 0] rfl) hf
def fX5_against_153 (v_s : Nat → Int32) (ag43 : (Nat → Int32) → (Nat → Int32) → (Nat → Int32) → Int32 → Int32 → Int32 → Int32 → Int32 → Int32 → Option (Int32 × (Nat → Int32) × (Nat → Int32) × (Nat → Int32))) (v_statuses : Nat → Int32) (v_pile : Nat → Int32) (v_wish : Nat → Int32) (y1 : Int32) (y2 : Int32) (y3 : Int32) (y4 : Int32) (y6 : Int32) : Option (Int32 × (Nat → Int32) × (Nat → Int32) × (Nat → Int32)) :=
  fX5_against_154 v_s ag43 v_statuses v_pile v_wish 0 y1 y2 y3 y4 y6
set_option maxRecDepth 100000 in
set_option maxHeartbeats 4000000 in
theorem LX5_against_153 {p : Program} {l : Launch} {e : Env} {s : State} {m : MethodId} {args : Array Value} {below : List Frame} {meth : Method} {c : Code} {D : va_G} {cI cJ cZ cS : ClassId} {tb : Nat} {A : Nat → Prop} {a_t a_s a_keptS a_statuses a_pile a_tape a_steps a_wish a_mark a_bitsOf a_sizeOf a_number a_moved : Nat} {v_isKept : Int32} {v_taped : Int32} {v_at : Int32} {v_fault : Int32} {v_laid : Int32} {v_open : Int32} {v_s : Nat → Int32} {rr : Int32} {kk' : (Nat → Int32) × (Nat → Int32) × (Nat → Int32)} (fx : q_Fx p s m args meth c cX5_against 8 RX5 (some .int) D cI cJ cZ cS tb A) {ag43 : (Nat → Int32) → (Nat → Int32) → (Nat → Int32) → Int32 → Int32 → Int32 → Int32 → Int32 → Int32 → Option (Int32 × (Nat → Int32) × (Nat → Int32) × (Nat → Int32))} (hag43 : ∀ {v_statuses : Nat → Int32} {v_pile : Nat → Int32} {v_wish : Nat → Int32} {y1 : Int32} {y2 : Int32} {y3 : Int32} {y4 : Int32} {y5 : Int32} {y6 : Int32} {H : Heap} {locs : List Loc} {ls : Array Slot}, q_H D A s (wX5_against cI cJ cZ cS a_t a_s a_keptS a_statuses a_pile a_tape a_steps a_wish a_mark a_bitsOf a_sizeOf a_number a_moved v_isKept v_taped v_at v_fault v_laid v_open v_s v_statuses v_pile v_wish) H locs → lv_has ls 8 [(0, .ref a_t), (1, .int y1), (2, .int y2), (3, .int y3), (4, .int y4), (5, .int y5), (6, .int y6)] → ag43 v_statuses v_pile v_wish y1 y2 y3 y4 y5 y6 = some (rr, kk') → W p l e rX5_against s m args below meth c H locs 0 0 (MQ below (q_Ri D rr A ((fun k : (Nat → Int32) × (Nat → Int32) × (Nat → Int32) => (wX5_against cI cJ cZ cS a_t a_s a_keptS a_statuses a_pile a_tape a_steps a_wish a_mark a_bitsOf a_sizeOf a_number a_moved v_isKept v_taped v_at v_fault v_laid v_open v_s k.1 k.2.1 k.2.2)) kk')) args s 0 0 A) (F0 m 43 ls [])) : ∀ {v_statuses : Nat → Int32} {v_pile : Nat → Int32} {v_wish : Nat → Int32} {y1 : Int32} {y2 : Int32} {y3 : Int32} {y4 : Int32} {y6 : Int32} {H : Heap} {locs : List Loc} {ls : Array Slot}, q_H D A s (wX5_against cI cJ cZ cS a_t a_s a_keptS a_statuses a_pile a_tape a_steps a_wish a_mark a_bitsOf a_sizeOf a_number a_moved v_isKept v_taped v_at v_fault v_laid v_open v_s v_statuses v_pile v_wish) H locs → lv_has ls 8 [(0, .ref a_t), (1, .int y1), (2, .int y2), (3, .int y3), (4, .int y4), (6, .int y6)] → fX5_against_153 v_s ag43 v_statuses v_pile v_wish y1 y2 y3 y4 y6 = some (rr, kk') → W p l e rX5_against s m args below meth c H locs 0 0 (MQ below (q_Ri D rr A ((fun k : (Nat → Int32) × (Nat → Int32) × (Nat → Int32) => (wX5_against cI cJ cZ cS a_t a_s a_keptS a_statuses a_pile a_tape a_steps a_wish a_mark a_bitsOf a_sizeOf a_number a_moved v_isKept v_taped v_at v_fault v_laid v_open v_s k.1 k.2.1 k.2.2)) kk')) args s 0 0 A) (F0 m 153 ls []) := by
  intro v_statuses v_pile v_wish y1 y2 y3 y4 y6 H locs ls h hl hf
  have hx := fx.1
  have hb := fx.2.1
  unfold fX5_against_153 at hf
  refine lv_iconst (v := 0) hx hb dX5_against_153 (by decide) ?_
  exact LX5_against_154 fx hag43 h (lv_sub hl [0, 1, 2, 3, 4, 5] rfl) hf
def fX5_against_149 (v_s : Nat → Int32) (ag43 : (Nat → Int32) → (Nat → Int32) → (Nat → Int32) → Int32 → Int32 → Int32 → Int32 → Int32 → Int32 → Option (Int32 × (Nat → Int32) × (Nat → Int32) × (Nat → Int32))) (v_statuses : Nat → Int32) (v_pile : Nat → Int32) (v_wish : Nat → Int32) (y1 : Int32) (y2 : Int32) (y3 : Int32) (y4 : Int32) (y6 : Int32) : Option (Int32 × (Nat → Int32) × (Nat → Int32) × (Nat → Int32)) :=
  fX5_against_154 v_s ag43 v_statuses v_pile v_wish 1 y1 y2 y3 y4 y6
set_option maxRecDepth 100000 in
set_option maxHeartbeats 4000000 in
theorem LX5_against_149 {p : Program} {l : Launch} {e : Env} {s : State} {m : MethodId} {args : Array Value} {below : List Frame} {meth : Method} {c : Code} {D : va_G} {cI cJ cZ cS : ClassId} {tb : Nat} {A : Nat → Prop} {a_t a_s a_keptS a_statuses a_pile a_tape a_steps a_wish a_mark a_bitsOf a_sizeOf a_number a_moved : Nat} {v_isKept : Int32} {v_taped : Int32} {v_at : Int32} {v_fault : Int32} {v_laid : Int32} {v_open : Int32} {v_s : Nat → Int32} {rr : Int32} {kk' : (Nat → Int32) × (Nat → Int32) × (Nat → Int32)} (fx : q_Fx p s m args meth c cX5_against 8 RX5 (some .int) D cI cJ cZ cS tb A) {ag43 : (Nat → Int32) → (Nat → Int32) → (Nat → Int32) → Int32 → Int32 → Int32 → Int32 → Int32 → Int32 → Option (Int32 × (Nat → Int32) × (Nat → Int32) × (Nat → Int32))} (hag43 : ∀ {v_statuses : Nat → Int32} {v_pile : Nat → Int32} {v_wish : Nat → Int32} {y1 : Int32} {y2 : Int32} {y3 : Int32} {y4 : Int32} {y5 : Int32} {y6 : Int32} {H : Heap} {locs : List Loc} {ls : Array Slot}, q_H D A s (wX5_against cI cJ cZ cS a_t a_s a_keptS a_statuses a_pile a_tape a_steps a_wish a_mark a_bitsOf a_sizeOf a_number a_moved v_isKept v_taped v_at v_fault v_laid v_open v_s v_statuses v_pile v_wish) H locs → lv_has ls 8 [(0, .ref a_t), (1, .int y1), (2, .int y2), (3, .int y3), (4, .int y4), (5, .int y5), (6, .int y6)] → ag43 v_statuses v_pile v_wish y1 y2 y3 y4 y5 y6 = some (rr, kk') → W p l e rX5_against s m args below meth c H locs 0 0 (MQ below (q_Ri D rr A ((fun k : (Nat → Int32) × (Nat → Int32) × (Nat → Int32) => (wX5_against cI cJ cZ cS a_t a_s a_keptS a_statuses a_pile a_tape a_steps a_wish a_mark a_bitsOf a_sizeOf a_number a_moved v_isKept v_taped v_at v_fault v_laid v_open v_s k.1 k.2.1 k.2.2)) kk')) args s 0 0 A) (F0 m 43 ls [])) : ∀ {v_statuses : Nat → Int32} {v_pile : Nat → Int32} {v_wish : Nat → Int32} {y1 : Int32} {y2 : Int32} {y3 : Int32} {y4 : Int32} {y6 : Int32} {H : Heap} {locs : List Loc} {ls : Array Slot}, q_H D A s (wX5_against cI cJ cZ cS a_t a_s a_keptS a_statuses a_pile a_tape a_steps a_wish a_mark a_bitsOf a_sizeOf a_number a_moved v_isKept v_taped v_at v_fault v_laid v_open v_s v_statuses v_pile v_wish) H locs → lv_has ls 8 [(0, .ref a_t), (1, .int y1), (2, .int y2), (3, .int y3), (4, .int y4), (6, .int y6)] → fX5_against_149 v_s ag43 v_statuses v_pile v_wish y1 y2 y3 y4 y6 = some (rr, kk') → W p l e rX5_against s m args below meth c H locs 0 0 (MQ below (q_Ri D rr A ((fun k : (Nat → Int32) × (Nat → Int32) × (Nat → Int32) => (wX5_against cI cJ cZ cS a_t a_s a_keptS a_statuses a_pile a_tape a_steps a_wish a_mark a_bitsOf a_sizeOf a_number a_moved v_isKept v_taped v_at v_fault v_laid v_open v_s k.1 k.2.1 k.2.2)) kk')) args s 0 0 A) (F0 m 149 ls []) := by
  intro v_statuses v_pile v_wish y1 y2 y3 y4 y6 H locs ls h hl hf
  have hx := fx.1
  have hb := fx.2.1
  unfold fX5_against_149 at hf
  refine lv_iconst (v := 1) hx hb dX5_against_149 (by decide) ?_
  refine lv_goto (tgt := 154) hx hb dX5_against_150 (by decide) ?_
  exact LX5_against_154 fx hag43 h (lv_sub hl [0, 1, 2, 3, 4, 5] rfl) hf
def fX5_against_119 (v_s : Nat → Int32) (ag43 : (Nat → Int32) → (Nat → Int32) → (Nat → Int32) → Int32 → Int32 → Int32 → Int32 → Int32 → Int32 → Option (Int32 × (Nat → Int32) × (Nat → Int32) × (Nat → Int32))) (v_statuses : Nat → Int32) (v_pile : Nat → Int32) (v_wish : Nat → Int32) (s0 : Int32) (y1 : Int32) (y2 : Int32) (y3 : Int32) (y5 : Int32) (y6 : Int32) (y7 : Int32) : Option (Int32 × (Nat → Int32) × (Nat → Int32) × (Nat → Int32)) :=
  (if y5 = 0 then (
  (if y7 = 0 then (
  fX5_against_153 v_s ag43 v_statuses v_pile v_wish y1 y2 y3 s0 y6)
  else (
  bR (fX5_has y6 y1) (fun r4 k4 =>
  (if r4 = 0 then (
  fX5_against_153 v_s ag43 v_statuses v_pile v_wish y1 y2 y3 s0 y6)
  else (
  bR (fX5_has y6 y2) (fun r6 k6 =>
  (if r6 = 0 then (
  fX5_against_153 v_s ag43 v_statuses v_pile v_wish y1 y2 y3 s0 y6)
  else (
  fX5_against_149 v_s ag43 v_statuses v_pile v_wish y1 y2 y3 s0 y6)))))))))
  else (
  fX5_against_149 v_s ag43 v_statuses v_pile v_wish y1 y2 y3 s0 y6))
set_option maxRecDepth 100000 in
set_option maxHeartbeats 4000000 in
theorem LX5_against_119 {p : Program} {l : Launch} {e : Env} {s : State} {m : MethodId} {args : Array Value} {below : List Frame} {meth : Method} {c : Code} {D : va_G} {cI cJ cZ cS : ClassId} {tb : Nat} {A : Nat → Prop} {a_t a_s a_keptS a_statuses a_pile a_tape a_steps a_wish a_mark a_bitsOf a_sizeOf a_number a_moved : Nat} {v_isKept : Int32} {v_taped : Int32} {v_at : Int32} {v_fault : Int32} {v_laid : Int32} {v_open : Int32} {v_s : Nat → Int32} {rr : Int32} {kk' : (Nat → Int32) × (Nat → Int32) × (Nat → Int32)} (fx : q_Fx p s m args meth c cX5_against 8 RX5 (some .int) D cI cJ cZ cS tb A) {ag43 : (Nat → Int32) → (Nat → Int32) → (Nat → Int32) → Int32 → Int32 → Int32 → Int32 → Int32 → Int32 → Option (Int32 × (Nat → Int32) × (Nat → Int32) × (Nat → Int32))} (hag43 : ∀ {v_statuses : Nat → Int32} {v_pile : Nat → Int32} {v_wish : Nat → Int32} {y1 : Int32} {y2 : Int32} {y3 : Int32} {y4 : Int32} {y5 : Int32} {y6 : Int32} {H : Heap} {locs : List Loc} {ls : Array Slot}, q_H D A s (wX5_against cI cJ cZ cS a_t a_s a_keptS a_statuses a_pile a_tape a_steps a_wish a_mark a_bitsOf a_sizeOf a_number a_moved v_isKept v_taped v_at v_fault v_laid v_open v_s v_statuses v_pile v_wish) H locs → lv_has ls 8 [(0, .ref a_t), (1, .int y1), (2, .int y2), (3, .int y3), (4, .int y4), (5, .int y5), (6, .int y6)] → ag43 v_statuses v_pile v_wish y1 y2 y3 y4 y5 y6 = some (rr, kk') → W p l e rX5_against s m args below meth c H locs 0 0 (MQ below (q_Ri D rr A ((fun k : (Nat → Int32) × (Nat → Int32) × (Nat → Int32) => (wX5_against cI cJ cZ cS a_t a_s a_keptS a_statuses a_pile a_tape a_steps a_wish a_mark a_bitsOf a_sizeOf a_number a_moved v_isKept v_taped v_at v_fault v_laid v_open v_s k.1 k.2.1 k.2.2)) kk')) args s 0 0 A) (F0 m 43 ls [])) : ∀ {v_statuses : Nat → Int32} {v_pile : Nat → Int32} {v_wish : Nat → Int32} {s0 : Int32} {y1 : Int32} {y2 : Int32} {y3 : Int32} {y5 : Int32} {y6 : Int32} {y7 : Int32} {H : Heap} {locs : List Loc} {ls : Array Slot}, q_H D A s (wX5_against cI cJ cZ cS a_t a_s a_keptS a_statuses a_pile a_tape a_steps a_wish a_mark a_bitsOf a_sizeOf a_number a_moved v_isKept v_taped v_at v_fault v_laid v_open v_s v_statuses v_pile v_wish) H locs → lv_has ls 8 [(0, .ref a_t), (1, .int y1), (2, .int y2), (3, .int y3), (5, .int y5), (6, .int y6), (7, .int y7)] → fX5_against_119 v_s ag43 v_statuses v_pile v_wish s0 y1 y2 y3 y5 y6 y7 = some (rr, kk') → W p l e rX5_against s m args below meth c H locs 0 0 (MQ below (q_Ri D rr A ((fun k : (Nat → Int32) × (Nat → Int32) × (Nat → Int32) => (wX5_against cI cJ cZ cS a_t a_s a_keptS a_statuses a_pile a_tape a_steps a_wish a_mark a_bitsOf a_sizeOf a_number a_moved v_isKept v_taped v_at v_fault v_laid v_open v_s k.1 k.2.1 k.2.2)) kk')) args s 0 0 A) (F0 m 119 ls [.int s0]) := by
  intro v_statuses v_pile v_wish s0 y1 y2 y3 y5 y6 y7 H locs ls h hl hf
  have hx := fx.1
  have hb := fx.2.1
  unfold fX5_against_119 at hf
  refine lv_istore (lv' := [(4, .int s0), (0, .ref a_t), (1, .int y1), (2, .int y2), (3, .int y3), (5, .int y5), (6, .int y6), (7, .int y7)]) hx hb dX5_against_119 hl (by decide) rfl (fun ls hl => ?_)
  refine lv_iload hx hb dX5_against_121 (lv_at hl 5 rfl) ?_
  refine lv_if_ne (tgt := 149) hx hb dX5_against_123 (by decide) (fun c2 => ?_) (fun c2 => ?_)
  · have hf := it_f c2 hf
    exact LX5_against_149 fx hag43 h (lv_sub hl [1, 2, 3, 4, 0, 6] rfl) hf
  have hf := it_t c2 hf
  refine lv_iload hx hb dX5_against_126 (lv_at hl 7 rfl) ?_
  refine lv_if_eq (tgt := 153) hx hb dX5_against_128 (by decide) (fun c3 => ?_) (fun c3 => ?_)
  · have hf := it_t c3 hf
    exact LX5_against_153 fx hag43 h (lv_sub hl [1, 2, 3, 4, 0, 6] rfl) hf
  have hf := it_f c3 hf
  refine lv_iload hx hb dX5_against_131 (lv_at hl 6 rfl) ?_
  refine lv_iload_n hx hb dX5_against_133 rfl (lv_at hl 2 rfl) ?_
  obtain ⟨r4, k4, hg, hf⟩ := bR_inv hf
  refine q_ci (rest := []) (ws' := (wX5_against cI cJ cZ cS a_t a_s a_keptS a_statuses a_pile a_tape a_steps a_wish a_mark a_bitsOf a_sizeOf a_number a_moved v_isKept v_taped v_at v_fault v_laid v_open v_s v_statuses v_pile v_wish)) (w1 := (wX5_has cI cJ cZ cS)) fx h [] rfl rfl rfl rfl (q_runS fx h hl.1 [] rfl rfl (tX5_has l D cI cJ cZ cS tb H.size y6 y1 r4 k4 hg) msX5_has k_733 ⟨rfl, rfl⟩ ⟨Nat.le_of_ble_eq_true rfl, Nat.le_of_ble_eq_true rfl⟩ rfl rfl (Nat.le_of_ble_eq_true rfl) dX5_against_134 ⟨Nat.le_of_ble_eq_true rfl, Nat.le_of_ble_eq_true rfl⟩) (fun H locs h => ?_)
  refine lv_if_eq (tgt := 153) hx hb dX5_against_137 (by decide) (fun c5 => ?_) (fun c5 => ?_)
  · have hf := it_t c5 hf
    exact LX5_against_153 fx hag43 h (lv_sub hl [1, 2, 3, 4, 0, 6] rfl) hf
  have hf := it_f c5 hf
  refine lv_iload hx hb dX5_against_140 (lv_at hl 6 rfl) ?_
  refine lv_iload_n hx hb dX5_against_142 rfl (lv_at hl 3 rfl) ?_
  obtain ⟨r6, k6, hg, hf⟩ := bR_inv hf
  refine q_ci (rest := []) (ws' := (wX5_against cI cJ cZ cS a_t a_s a_keptS a_statuses a_pile a_tape a_steps a_wish a_mark a_bitsOf a_sizeOf a_number a_moved v_isKept v_taped v_at v_fault v_laid v_open v_s v_statuses v_pile v_wish)) (w1 := (wX5_has cI cJ cZ cS)) fx h [] rfl rfl rfl rfl (q_runS fx h hl.1 [] rfl rfl (tX5_has l D cI cJ cZ cS tb H.size y6 y2 r6 k6 hg) msX5_has k_733 ⟨rfl, rfl⟩ ⟨Nat.le_of_ble_eq_true rfl, Nat.le_of_ble_eq_true rfl⟩ rfl rfl (Nat.le_of_ble_eq_true rfl) dX5_against_143 ⟨Nat.le_of_ble_eq_true rfl, Nat.le_of_ble_eq_true rfl⟩) (fun H locs h => ?_)
  refine lv_if_eq (tgt := 153) hx hb dX5_against_146 (by decide) (fun c7 => ?_) (fun c7 => ?_)
  · have hf := it_t c7 hf
    exact LX5_against_153 fx hag43 h (lv_sub hl [1, 2, 3, 4, 0, 6] rfl) hf
  have hf := it_f c7 hf
  exact LX5_against_149 fx hag43 h (lv_sub hl [1, 2, 3, 4, 0, 6] rfl) hf
def fX5_against_118 (v_s : Nat → Int32) (ag43 : (Nat → Int32) → (Nat → Int32) → (Nat → Int32) → Int32 → Int32 → Int32 → Int32 → Int32 → Int32 → Option (Int32 × (Nat → Int32) × (Nat → Int32) × (Nat → Int32))) (v_statuses : Nat → Int32) (v_pile : Nat → Int32) (v_wish : Nat → Int32) (y1 : Int32) (y2 : Int32) (y3 : Int32) (y5 : Int32) (y6 : Int32) (y7 : Int32) : Option (Int32 × (Nat → Int32) × (Nat → Int32) × (Nat → Int32)) :=
  fX5_against_119 v_s ag43 v_statuses v_pile v_wish 0 y1 y2 y3 y5 y6 y7
set_option maxRecDepth 100000 in
set_option maxHeartbeats 4000000 in
theorem LX5_against_118 {p : Program} {l : Launch} {e : Env} {s : State} {m : MethodId} {args : Array Value} {below : List Frame} {meth : Method} {c : Code} {D : va_G} {cI cJ cZ cS : ClassId} {tb : Nat} {A : Nat → Prop} {a_t a_s a_keptS a_statuses a_pile a_tape a_steps a_wish a_mark a_bitsOf a_sizeOf a_number a_moved : Nat} {v_isKept : Int32} {v_taped : Int32} {v_at : Int32} {v_fault : Int32} {v_laid : Int32} {v_open : Int32} {v_s : Nat → Int32} {rr : Int32} {kk' : (Nat → Int32) × (Nat → Int32) × (Nat → Int32)} (fx : q_Fx p s m args meth c cX5_against 8 RX5 (some .int) D cI cJ cZ cS tb A) {ag43 : (Nat → Int32) → (Nat → Int32) → (Nat → Int32) → Int32 → Int32 → Int32 → Int32 → Int32 → Int32 → Option (Int32 × (Nat → Int32) × (Nat → Int32) × (Nat → Int32))} (hag43 : ∀ {v_statuses : Nat → Int32} {v_pile : Nat → Int32} {v_wish : Nat → Int32} {y1 : Int32} {y2 : Int32} {y3 : Int32} {y4 : Int32} {y5 : Int32} {y6 : Int32} {H : Heap} {locs : List Loc} {ls : Array Slot}, q_H D A s (wX5_against cI cJ cZ cS a_t a_s a_keptS a_statuses a_pile a_tape a_steps a_wish a_mark a_bitsOf a_sizeOf a_number a_moved v_isKept v_taped v_at v_fault v_laid v_open v_s v_statuses v_pile v_wish) H locs → lv_has ls 8 [(0, .ref a_t), (1, .int y1), (2, .int y2), (3, .int y3), (4, .int y4), (5, .int y5), (6, .int y6)] → ag43 v_statuses v_pile v_wish y1 y2 y3 y4 y5 y6 = some (rr, kk') → W p l e rX5_against s m args below meth c H locs 0 0 (MQ below (q_Ri D rr A ((fun k : (Nat → Int32) × (Nat → Int32) × (Nat → Int32) => (wX5_against cI cJ cZ cS a_t a_s a_keptS a_statuses a_pile a_tape a_steps a_wish a_mark a_bitsOf a_sizeOf a_number a_moved v_isKept v_taped v_at v_fault v_laid v_open v_s k.1 k.2.1 k.2.2)) kk')) args s 0 0 A) (F0 m 43 ls [])) : ∀ {v_statuses : Nat → Int32} {v_pile : Nat → Int32} {v_wish : Nat → Int32} {y1 : Int32} {y2 : Int32} {y3 : Int32} {y5 : Int32} {y6 : Int32} {y7 : Int32} {H : Heap} {locs : List Loc} {ls : Array Slot}, q_H D A s (wX5_against cI cJ cZ cS a_t a_s a_keptS a_statuses a_pile a_tape a_steps a_wish a_mark a_bitsOf a_sizeOf a_number a_moved v_isKept v_taped v_at v_fault v_laid v_open v_s v_statuses v_pile v_wish) H locs → lv_has ls 8 [(0, .ref a_t), (1, .int y1), (2, .int y2), (3, .int y3), (5, .int y5), (6, .int y6), (7, .int y7)] → fX5_against_118 v_s ag43 v_statuses v_pile v_wish y1 y2 y3 y5 y6 y7 = some (rr, kk') → W p l e rX5_against s m args below meth c H locs 0 0 (MQ below (q_Ri D rr A ((fun k : (Nat → Int32) × (Nat → Int32) × (Nat → Int32) => (wX5_against cI cJ cZ cS a_t a_s a_keptS a_statuses a_pile a_tape a_steps a_wish a_mark a_bitsOf a_sizeOf a_number a_moved v_isKept v_taped v_at v_fault v_laid v_open v_s k.1 k.2.1 k.2.2)) kk')) args s 0 0 A) (F0 m 118 ls []) := by
  intro v_statuses v_pile v_wish y1 y2 y3 y5 y6 y7 H locs ls h hl hf
  have hx := fx.1
  have hb := fx.2.1
  unfold fX5_against_118 at hf
  refine lv_iconst (v := 0) hx hb dX5_against_118 (by decide) ?_
  exact LX5_against_119 fx hag43 h (lv_sub hl [0, 1, 2, 3, 4, 5, 6] rfl) hf
def fX5_against_114 (v_s : Nat → Int32) (ag43 : (Nat → Int32) → (Nat → Int32) → (Nat → Int32) → Int32 → Int32 → Int32 → Int32 → Int32 → Int32 → Option (Int32 × (Nat → Int32) × (Nat → Int32) × (Nat → Int32))) (v_statuses : Nat → Int32) (v_pile : Nat → Int32) (v_wish : Nat → Int32) (y1 : Int32) (y2 : Int32) (y3 : Int32) (y5 : Int32) (y6 : Int32) (y7 : Int32) : Option (Int32 × (Nat → Int32) × (Nat → Int32) × (Nat → Int32)) :=
  fX5_against_119 v_s ag43 v_statuses v_pile v_wish 1 y1 y2 y3 y5 y6 y7
set_option maxRecDepth 100000 in
set_option maxHeartbeats 4000000 in
theorem LX5_against_114 {p : Program} {l : Launch} {e : Env} {s : State} {m : MethodId} {args : Array Value} {below : List Frame} {meth : Method} {c : Code} {D : va_G} {cI cJ cZ cS : ClassId} {tb : Nat} {A : Nat → Prop} {a_t a_s a_keptS a_statuses a_pile a_tape a_steps a_wish a_mark a_bitsOf a_sizeOf a_number a_moved : Nat} {v_isKept : Int32} {v_taped : Int32} {v_at : Int32} {v_fault : Int32} {v_laid : Int32} {v_open : Int32} {v_s : Nat → Int32} {rr : Int32} {kk' : (Nat → Int32) × (Nat → Int32) × (Nat → Int32)} (fx : q_Fx p s m args meth c cX5_against 8 RX5 (some .int) D cI cJ cZ cS tb A) {ag43 : (Nat → Int32) → (Nat → Int32) → (Nat → Int32) → Int32 → Int32 → Int32 → Int32 → Int32 → Int32 → Option (Int32 × (Nat → Int32) × (Nat → Int32) × (Nat → Int32))} (hag43 : ∀ {v_statuses : Nat → Int32} {v_pile : Nat → Int32} {v_wish : Nat → Int32} {y1 : Int32} {y2 : Int32} {y3 : Int32} {y4 : Int32} {y5 : Int32} {y6 : Int32} {H : Heap} {locs : List Loc} {ls : Array Slot}, q_H D A s (wX5_against cI cJ cZ cS a_t a_s a_keptS a_statuses a_pile a_tape a_steps a_wish a_mark a_bitsOf a_sizeOf a_number a_moved v_isKept v_taped v_at v_fault v_laid v_open v_s v_statuses v_pile v_wish) H locs → lv_has ls 8 [(0, .ref a_t), (1, .int y1), (2, .int y2), (3, .int y3), (4, .int y4), (5, .int y5), (6, .int y6)] → ag43 v_statuses v_pile v_wish y1 y2 y3 y4 y5 y6 = some (rr, kk') → W p l e rX5_against s m args below meth c H locs 0 0 (MQ below (q_Ri D rr A ((fun k : (Nat → Int32) × (Nat → Int32) × (Nat → Int32) => (wX5_against cI cJ cZ cS a_t a_s a_keptS a_statuses a_pile a_tape a_steps a_wish a_mark a_bitsOf a_sizeOf a_number a_moved v_isKept v_taped v_at v_fault v_laid v_open v_s k.1 k.2.1 k.2.2)) kk')) args s 0 0 A) (F0 m 43 ls [])) : ∀ {v_statuses : Nat → Int32} {v_pile : Nat → Int32} {v_wish : Nat → Int32} {y1 : Int32} {y2 : Int32} {y3 : Int32} {y5 : Int32} {y6 : Int32} {y7 : Int32} {H : Heap} {locs : List Loc} {ls : Array Slot}, q_H D A s (wX5_against cI cJ cZ cS a_t a_s a_keptS a_statuses a_pile a_tape a_steps a_wish a_mark a_bitsOf a_sizeOf a_number a_moved v_isKept v_taped v_at v_fault v_laid v_open v_s v_statuses v_pile v_wish) H locs → lv_has ls 8 [(0, .ref a_t), (1, .int y1), (2, .int y2), (3, .int y3), (5, .int y5), (6, .int y6), (7, .int y7)] → fX5_against_114 v_s ag43 v_statuses v_pile v_wish y1 y2 y3 y5 y6 y7 = some (rr, kk') → W p l e rX5_against s m args below meth c H locs 0 0 (MQ below (q_Ri D rr A ((fun k : (Nat → Int32) × (Nat → Int32) × (Nat → Int32) => (wX5_against cI cJ cZ cS a_t a_s a_keptS a_statuses a_pile a_tape a_steps a_wish a_mark a_bitsOf a_sizeOf a_number a_moved v_isKept v_taped v_at v_fault v_laid v_open v_s k.1 k.2.1 k.2.2)) kk')) args s 0 0 A) (F0 m 114 ls []) := by
  intro v_statuses v_pile v_wish y1 y2 y3 y5 y6 y7 H locs ls h hl hf
  have hx := fx.1
  have hb := fx.2.1
  unfold fX5_against_114 at hf
  refine lv_iconst (v := 1) hx hb dX5_against_114 (by decide) ?_
  refine lv_goto (tgt := 119) hx hb dX5_against_115 (by decide) ?_
  exact LX5_against_119 fx hag43 h (lv_sub hl [0, 1, 2, 3, 4, 5, 6] rfl) hf
def fX5_against_94 (v_s : Nat → Int32) (ag43 : (Nat → Int32) → (Nat → Int32) → (Nat → Int32) → Int32 → Int32 → Int32 → Int32 → Int32 → Int32 → Option (Int32 × (Nat → Int32) × (Nat → Int32) × (Nat → Int32))) (v_statuses : Nat → Int32) (v_pile : Nat → Int32) (v_wish : Nat → Int32) (s0 : Int32) (y1 : Int32) (y2 : Int32) (y4 : Int32) (y5 : Int32) (y6 : Int32) (y7 : Int32) : Option (Int32 × (Nat → Int32) × (Nat → Int32) × (Nat → Int32)) :=
  (if y4 = 0 then (
  (if y7 = 0 then (
  fX5_against_118 v_s ag43 v_statuses v_pile v_wish y1 y2 s0 y5 y6 y7)
  else (
  bR (fX5_has y6 y2) (fun r10 k10 =>
  (if r10 = 0 then (
  fX5_against_118 v_s ag43 v_statuses v_pile v_wish y1 y2 s0 y5 y6 y7)
  else (
  fX5_against_114 v_s ag43 v_statuses v_pile v_wish y1 y2 s0 y5 y6 y7))))))
  else (
  fX5_against_114 v_s ag43 v_statuses v_pile v_wish y1 y2 s0 y5 y6 y7))
set_option maxRecDepth 100000 in
set_option maxHeartbeats 4000000 in
theorem LX5_against_94 {p : Program} {l : Launch} {e : Env} {s : State} {m : MethodId} {args : Array Value} {below : List Frame} {meth : Method} {c : Code} {D : va_G} {cI cJ cZ cS : ClassId} {tb : Nat} {A : Nat → Prop} {a_t a_s a_keptS a_statuses a_pile a_tape a_steps a_wish a_mark a_bitsOf a_sizeOf a_number a_moved : Nat} {v_isKept : Int32} {v_taped : Int32} {v_at : Int32} {v_fault : Int32} {v_laid : Int32} {v_open : Int32} {v_s : Nat → Int32} {rr : Int32} {kk' : (Nat → Int32) × (Nat → Int32) × (Nat → Int32)} (fx : q_Fx p s m args meth c cX5_against 8 RX5 (some .int) D cI cJ cZ cS tb A) {ag43 : (Nat → Int32) → (Nat → Int32) → (Nat → Int32) → Int32 → Int32 → Int32 → Int32 → Int32 → Int32 → Option (Int32 × (Nat → Int32) × (Nat → Int32) × (Nat → Int32))} (hag43 : ∀ {v_statuses : Nat → Int32} {v_pile : Nat → Int32} {v_wish : Nat → Int32} {y1 : Int32} {y2 : Int32} {y3 : Int32} {y4 : Int32} {y5 : Int32} {y6 : Int32} {H : Heap} {locs : List Loc} {ls : Array Slot}, q_H D A s (wX5_against cI cJ cZ cS a_t a_s a_keptS a_statuses a_pile a_tape a_steps a_wish a_mark a_bitsOf a_sizeOf a_number a_moved v_isKept v_taped v_at v_fault v_laid v_open v_s v_statuses v_pile v_wish) H locs → lv_has ls 8 [(0, .ref a_t), (1, .int y1), (2, .int y2), (3, .int y3), (4, .int y4), (5, .int y5), (6, .int y6)] → ag43 v_statuses v_pile v_wish y1 y2 y3 y4 y5 y6 = some (rr, kk') → W p l e rX5_against s m args below meth c H locs 0 0 (MQ below (q_Ri D rr A ((fun k : (Nat → Int32) × (Nat → Int32) × (Nat → Int32) => (wX5_against cI cJ cZ cS a_t a_s a_keptS a_statuses a_pile a_tape a_steps a_wish a_mark a_bitsOf a_sizeOf a_number a_moved v_isKept v_taped v_at v_fault v_laid v_open v_s k.1 k.2.1 k.2.2)) kk')) args s 0 0 A) (F0 m 43 ls [])) : ∀ {v_statuses : Nat → Int32} {v_pile : Nat → Int32} {v_wish : Nat → Int32} {s0 : Int32} {y1 : Int32} {y2 : Int32} {y4 : Int32} {y5 : Int32} {y6 : Int32} {y7 : Int32} {H : Heap} {locs : List Loc} {ls : Array Slot}, q_H D A s (wX5_against cI cJ cZ cS a_t a_s a_keptS a_statuses a_pile a_tape a_steps a_wish a_mark a_bitsOf a_sizeOf a_number a_moved v_isKept v_taped v_at v_fault v_laid v_open v_s v_statuses v_pile v_wish) H locs → lv_has ls 8 [(0, .ref a_t), (1, .int y1), (2, .int y2), (4, .int y4), (5, .int y5), (6, .int y6), (7, .int y7)] → fX5_against_94 v_s ag43 v_statuses v_pile v_wish s0 y1 y2 y4 y5 y6 y7 = some (rr, kk') → W p l e rX5_against s m args below meth c H locs 0 0 (MQ below (q_Ri D rr A ((fun k : (Nat → Int32) × (Nat → Int32) × (Nat → Int32) => (wX5_against cI cJ cZ cS a_t a_s a_keptS a_statuses a_pile a_tape a_steps a_wish a_mark a_bitsOf a_sizeOf a_number a_moved v_isKept v_taped v_at v_fault v_laid v_open v_s k.1 k.2.1 k.2.2)) kk')) args s 0 0 A) (F0 m 94 ls [.int s0]) := by
  intro v_statuses v_pile v_wish s0 y1 y2 y4 y5 y6 y7 H locs ls h hl hf
  have hx := fx.1
  have hb := fx.2.1
  unfold fX5_against_94 at hf
  refine lv_istore_n (lv' := [(3, .int s0), (0, .ref a_t), (1, .int y1), (2, .int y2), (4, .int y4), (5, .int y5), (6, .int y6), (7, .int y7)]) hx hb dX5_against_94 rfl hl (by decide) rfl (fun ls hl => ?_)
  refine lv_iload hx hb dX5_against_95 (lv_at hl 4 rfl) ?_
  refine lv_if_ne (tgt := 114) hx hb dX5_against_97 (by decide) (fun c8 => ?_) (fun c8 => ?_)
  · have hf := it_f c8 hf
    exact LX5_against_114 fx hag43 h (lv_sub hl [1, 2, 3, 0, 5, 6, 7] rfl) hf
  have hf := it_t c8 hf
  refine lv_iload hx hb dX5_against_100 (lv_at hl 7 rfl) ?_
  refine lv_if_eq (tgt := 118) hx hb dX5_against_102 (by decide) (fun c9 => ?_) (fun c9 => ?_)
  · have hf := it_t c9 hf
    exact LX5_against_118 fx hag43 h (lv_sub hl [1, 2, 3, 0, 5, 6, 7] rfl) hf
  have hf := it_f c9 hf
  refine lv_iload hx hb dX5_against_105 (lv_at hl 6 rfl) ?_
  refine lv_iload_n hx hb dX5_against_107 rfl (lv_at hl 3 rfl) ?_
  obtain ⟨r10, k10, hg, hf⟩ := bR_inv hf
  refine q_ci (rest := []) (ws' := (wX5_against cI cJ cZ cS a_t a_s a_keptS a_statuses a_pile a_tape a_steps a_wish a_mark a_bitsOf a_sizeOf a_number a_moved v_isKept v_taped v_at v_fault v_laid v_open v_s v_statuses v_pile v_wish)) (w1 := (wX5_has cI cJ cZ cS)) fx h [] rfl rfl rfl rfl (q_runS fx h hl.1 [] rfl rfl (tX5_has l D cI cJ cZ cS tb H.size y6 y2 r10 k10 hg) msX5_has k_733 ⟨rfl, rfl⟩ ⟨Nat.le_of_ble_eq_true rfl, Nat.le_of_ble_eq_true rfl⟩ rfl rfl (Nat.le_of_ble_eq_true rfl) dX5_against_108 ⟨Nat.le_of_ble_eq_true rfl, Nat.le_of_ble_eq_true rfl⟩) (fun H locs h => ?_)
  refine lv_if_eq (tgt := 118) hx hb dX5_against_111 (by decide) (fun c11 => ?_) (fun c11 => ?_)
  · have hf := it_t c11 hf
    exact LX5_against_118 fx hag43 h (lv_sub hl [1, 2, 3, 0, 5, 6, 7] rfl) hf
  have hf := it_f c11 hf
  exact LX5_against_114 fx hag43 h (lv_sub hl [1, 2, 3, 0, 5, 6, 7] rfl) hf
def fX5_against_93 (v_s : Nat → Int32) (ag43 : (Nat → Int32) → (Nat → Int32) → (Nat → Int32) → Int32 → Int32 → Int32 → Int32 → Int32 → Int32 → Option (Int32 × (Nat → Int32) × (Nat → Int32) × (Nat → Int32))) (v_statuses : Nat → Int32) (v_pile : Nat → Int32) (v_wish : Nat → Int32) (y1 : Int32) (y2 : Int32) (y4 : Int32) (y5 : Int32) (y6 : Int32) (y7 : Int32) : Option (Int32 × (Nat → Int32) × (Nat → Int32) × (Nat → Int32)) :=
  fX5_against_94 v_s ag43 v_statuses v_pile v_wish 0 y1 y2 y4 y5 y6 y7
set_option maxRecDepth 100000 in
set_option maxHeartbeats 4000000 in
theorem LX5_against_93 {p : Program} {l : Launch} {e : Env} {s : State} {m : MethodId} {args : Array Value} {below : List Frame} {meth : Method} {c : Code} {D : va_G} {cI cJ cZ cS : ClassId} {tb : Nat} {A : Nat → Prop} {a_t a_s a_keptS a_statuses a_pile a_tape a_steps a_wish a_mark a_bitsOf a_sizeOf a_number a_moved : Nat} {v_isKept : Int32} {v_taped : Int32} {v_at : Int32} {v_fault : Int32} {v_laid : Int32} {v_open : Int32} {v_s : Nat → Int32} {rr : Int32} {kk' : (Nat → Int32) × (Nat → Int32) × (Nat → Int32)} (fx : q_Fx p s m args meth c cX5_against 8 RX5 (some .int) D cI cJ cZ cS tb A) {ag43 : (Nat → Int32) → (Nat → Int32) → (Nat → Int32) → Int32 → Int32 → Int32 → Int32 → Int32 → Int32 → Option (Int32 × (Nat → Int32) × (Nat → Int32) × (Nat → Int32))} (hag43 : ∀ {v_statuses : Nat → Int32} {v_pile : Nat → Int32} {v_wish : Nat → Int32} {y1 : Int32} {y2 : Int32} {y3 : Int32} {y4 : Int32} {y5 : Int32} {y6 : Int32} {H : Heap} {locs : List Loc} {ls : Array Slot}, q_H D A s (wX5_against cI cJ cZ cS a_t a_s a_keptS a_statuses a_pile a_tape a_steps a_wish a_mark a_bitsOf a_sizeOf a_number a_moved v_isKept v_taped v_at v_fault v_laid v_open v_s v_statuses v_pile v_wish) H locs → lv_has ls 8 [(0, .ref a_t), (1, .int y1), (2, .int y2), (3, .int y3), (4, .int y4), (5, .int y5), (6, .int y6)] → ag43 v_statuses v_pile v_wish y1 y2 y3 y4 y5 y6 = some (rr, kk') → W p l e rX5_against s m args below meth c H locs 0 0 (MQ below (q_Ri D rr A ((fun k : (Nat → Int32) × (Nat → Int32) × (Nat → Int32) => (wX5_against cI cJ cZ cS a_t a_s a_keptS a_statuses a_pile a_tape a_steps a_wish a_mark a_bitsOf a_sizeOf a_number a_moved v_isKept v_taped v_at v_fault v_laid v_open v_s k.1 k.2.1 k.2.2)) kk')) args s 0 0 A) (F0 m 43 ls [])) : ∀ {v_statuses : Nat → Int32} {v_pile : Nat → Int32} {v_wish : Nat → Int32} {y1 : Int32} {y2 : Int32} {y4 : Int32} {y5 : Int32} {y6 : Int32} {y7 : Int32} {H : Heap} {locs : List Loc} {ls : Array Slot}, q_H D A s (wX5_against cI cJ cZ cS a_t a_s a_keptS a_statuses a_pile a_tape a_steps a_wish a_mark a_bitsOf a_sizeOf a_number a_moved v_isKept v_taped v_at v_fault v_laid v_open v_s v_statuses v_pile v_wish) H locs → lv_has ls 8 [(0, .ref a_t), (1, .int y1), (2, .int y2), (4, .int y4), (5, .int y5), (6, .int y6), (7, .int y7)] → fX5_against_93 v_s ag43 v_statuses v_pile v_wish y1 y2 y4 y5 y6 y7 = some (rr, kk') → W p l e rX5_against s m args below meth c H locs 0 0 (MQ below (q_Ri D rr A ((fun k : (Nat → Int32) × (Nat → Int32) × (Nat → Int32) => (wX5_against cI cJ cZ cS a_t a_s a_keptS a_statuses a_pile a_tape a_steps a_wish a_mark a_bitsOf a_sizeOf a_number a_moved v_isKept v_taped v_at v_fault v_laid v_open v_s k.1 k.2.1 k.2.2)) kk')) args s 0 0 A) (F0 m 93 ls []) := by
  intro v_statuses v_pile v_wish y1 y2 y4 y5 y6 y7 H locs ls h hl hf
  have hx := fx.1
  have hb := fx.2.1
  unfold fX5_against_93 at hf
  refine lv_iconst (v := 0) hx hb dX5_against_93 (by decide) ?_
  exact LX5_against_94 fx hag43 h (lv_sub hl [0, 1, 2, 3, 4, 5, 6] rfl) hf
def fX5_against_89 (v_s : Nat → Int32) (ag43 : (Nat → Int32) → (Nat → Int32) → (Nat → Int32) → Int32 → Int32 → Int32 → Int32 → Int32 → Int32 → Option (Int32 × (Nat → Int32) × (Nat → Int32) × (Nat → Int32))) (v_statuses : Nat → Int32) (v_pile : Nat → Int32) (v_wish : Nat → Int32) (y1 : Int32) (y2 : Int32) (y4 : Int32) (y5 : Int32) (y6 : Int32) (y7 : Int32) : Option (Int32 × (Nat → Int32) × (Nat → Int32) × (Nat → Int32)) :=
  fX5_against_94 v_s ag43 v_statuses v_pile v_wish 1 y1 y2 y4 y5 y6 y7
set_option maxRecDepth 100000 in
set_option maxHeartbeats 4000000 in
theorem LX5_against_89 {p : Program} {l : Launch} {e : Env} {s : State} {m : MethodId} {args : Array Value} {below : List Frame} {meth : Method} {c : Code} {D : va_G} {cI cJ cZ cS : ClassId} {tb : Nat} {A : Nat → Prop} {a_t a_s a_keptS a_statuses a_pile a_tape a_steps a_wish a_mark a_bitsOf a_sizeOf a_number a_moved : Nat} {v_isKept : Int32} {v_taped : Int32} {v_at : Int32} {v_fault : Int32} {v_laid : Int32} {v_open : Int32} {v_s : Nat → Int32} {rr : Int32} {kk' : (Nat → Int32) × (Nat → Int32) × (Nat → Int32)} (fx : q_Fx p s m args meth c cX5_against 8 RX5 (some .int) D cI cJ cZ cS tb A) {ag43 : (Nat → Int32) → (Nat → Int32) → (Nat → Int32) → Int32 → Int32 → Int32 → Int32 → Int32 → Int32 → Option (Int32 × (Nat → Int32) × (Nat → Int32) × (Nat → Int32))} (hag43 : ∀ {v_statuses : Nat → Int32} {v_pile : Nat → Int32} {v_wish : Nat → Int32} {y1 : Int32} {y2 : Int32} {y3 : Int32} {y4 : Int32} {y5 : Int32} {y6 : Int32} {H : Heap} {locs : List Loc} {ls : Array Slot}, q_H D A s (wX5_against cI cJ cZ cS a_t a_s a_keptS a_statuses a_pile a_tape a_steps a_wish a_mark a_bitsOf a_sizeOf a_number a_moved v_isKept v_taped v_at v_fault v_laid v_open v_s v_statuses v_pile v_wish) H locs → lv_has ls 8 [(0, .ref a_t), (1, .int y1), (2, .int y2), (3, .int y3), (4, .int y4), (5, .int y5), (6, .int y6)] → ag43 v_statuses v_pile v_wish y1 y2 y3 y4 y5 y6 = some (rr, kk') → W p l e rX5_against s m args below meth c H locs 0 0 (MQ below (q_Ri D rr A ((fun k : (Nat → Int32) × (Nat → Int32) × (Nat → Int32) => (wX5_against cI cJ cZ cS a_t a_s a_keptS a_statuses a_pile a_tape a_steps a_wish a_mark a_bitsOf a_sizeOf a_number a_moved v_isKept v_taped v_at v_fault v_laid v_open v_s k.1 k.2.1 k.2.2)) kk')) args s 0 0 A) (F0 m 43 ls [])) : ∀ {v_statuses : Nat → Int32} {v_pile : Nat → Int32} {v_wish : Nat → Int32} {y1 : Int32} {y2 : Int32} {y4 : Int32} {y5 : Int32} {y6 : Int32} {y7 : Int32} {H : Heap} {locs : List Loc} {ls : Array Slot}, q_H D A s (wX5_against cI cJ cZ cS a_t a_s a_keptS a_statuses a_pile a_tape a_steps a_wish a_mark a_bitsOf a_sizeOf a_number a_moved v_isKept v_taped v_at v_fault v_laid v_open v_s v_statuses v_pile v_wish) H locs → lv_has ls 8 [(0, .ref a_t), (1, .int y1), (2, .int y2), (4, .int y4), (5, .int y5), (6, .int y6), (7, .int y7)] → fX5_against_89 v_s ag43 v_statuses v_pile v_wish y1 y2 y4 y5 y6 y7 = some (rr, kk') → W p l e rX5_against s m args below meth c H locs 0 0 (MQ below (q_Ri D rr A ((fun k : (Nat → Int32) × (Nat → Int32) × (Nat → Int32) => (wX5_against cI cJ cZ cS a_t a_s a_keptS a_statuses a_pile a_tape a_steps a_wish a_mark a_bitsOf a_sizeOf a_number a_moved v_isKept v_taped v_at v_fault v_laid v_open v_s k.1 k.2.1 k.2.2)) kk')) args s 0 0 A) (F0 m 89 ls []) := by
  intro v_statuses v_pile v_wish y1 y2 y4 y5 y6 y7 H locs ls h hl hf
  have hx := fx.1
  have hb := fx.2.1
  unfold fX5_against_89 at hf
  refine lv_iconst (v := 1) hx hb dX5_against_89 (by decide) ?_
  refine lv_goto (tgt := 94) hx hb dX5_against_90 (by decide) ?_
  exact LX5_against_94 fx hag43 h (lv_sub hl [0, 1, 2, 3, 4, 5, 6] rfl) hf
def fX5_against_69 (v_s : Nat → Int32) (ag43 : (Nat → Int32) → (Nat → Int32) → (Nat → Int32) → Int32 → Int32 → Int32 → Int32 → Int32 → Int32 → Option (Int32 × (Nat → Int32) × (Nat → Int32) × (Nat → Int32))) (v_statuses : Nat → Int32) (v_pile : Nat → Int32) (v_wish : Nat → Int32) (s0 : Int32) (y1 : Int32) (y2 : Int32) (y3 : Int32) (y4 : Int32) (y5 : Int32) (y6 : Int32) : Option (Int32 × (Nat → Int32) × (Nat → Int32) × (Nat → Int32)) :=
  (if y3 = 0 then (
  (if s0 = 0 then (
  fX5_against_93 v_s ag43 v_statuses v_pile v_wish y1 y2 y4 y5 y6 s0)
  else (
  bR (fX5_has y6 y1) (fun r14 k14 =>
  (if r14 = 0 then (
  fX5_against_93 v_s ag43 v_statuses v_pile v_wish y1 y2 y4 y5 y6 s0)
  else (
  fX5_against_89 v_s ag43 v_statuses v_pile v_wish y1 y2 y4 y5 y6 s0))))))
  else (
  fX5_against_89 v_s ag43 v_statuses v_pile v_wish y1 y2 y4 y5 y6 s0))
set_option maxRecDepth 100000 in
set_option maxHeartbeats 4000000 in
theorem LX5_against_69 {p : Program} {l : Launch} {e : Env} {s : State} {m : MethodId} {args : Array Value} {below : List Frame} {meth : Method} {c : Code} {D : va_G} {cI cJ cZ cS : ClassId} {tb : Nat} {A : Nat → Prop} {a_t a_s a_keptS a_statuses a_pile a_tape a_steps a_wish a_mark a_bitsOf a_sizeOf a_number a_moved : Nat} {v_isKept : Int32} {v_taped : Int32} {v_at : Int32} {v_fault : Int32} {v_laid : Int32} {v_open : Int32} {v_s : Nat → Int32} {rr : Int32} {kk' : (Nat → Int32) × (Nat → Int32) × (Nat → Int32)} (fx : q_Fx p s m args meth c cX5_against 8 RX5 (some .int) D cI cJ cZ cS tb A) {ag43 : (Nat → Int32) → (Nat → Int32) → (Nat → Int32) → Int32 → Int32 → Int32 → Int32 → Int32 → Int32 → Option (Int32 × (Nat → Int32) × (Nat → Int32) × (Nat → Int32))} (hag43 : ∀ {v_statuses : Nat → Int32} {v_pile : Nat → Int32} {v_wish : Nat → Int32} {y1 : Int32} {y2 : Int32} {y3 : Int32} {y4 : Int32} {y5 : Int32} {y6 : Int32} {H : Heap} {locs : List Loc} {ls : Array Slot}, q_H D A s (wX5_against cI cJ cZ cS a_t a_s a_keptS a_statuses a_pile a_tape a_steps a_wish a_mark a_bitsOf a_sizeOf a_number a_moved v_isKept v_taped v_at v_fault v_laid v_open v_s v_statuses v_pile v_wish) H locs → lv_has ls 8 [(0, .ref a_t), (1, .int y1), (2, .int y2), (3, .int y3), (4, .int y4), (5, .int y5), (6, .int y6)] → ag43 v_statuses v_pile v_wish y1 y2 y3 y4 y5 y6 = some (rr, kk') → W p l e rX5_against s m args below meth c H locs 0 0 (MQ below (q_Ri D rr A ((fun k : (Nat → Int32) × (Nat → Int32) × (Nat → Int32) => (wX5_against cI cJ cZ cS a_t a_s a_keptS a_statuses a_pile a_tape a_steps a_wish a_mark a_bitsOf a_sizeOf a_number a_moved v_isKept v_taped v_at v_fault v_laid v_open v_s k.1 k.2.1 k.2.2)) kk')) args s 0 0 A) (F0 m 43 ls [])) : ∀ {v_statuses : Nat → Int32} {v_pile : Nat → Int32} {v_wish : Nat → Int32} {s0 : Int32} {y1 : Int32} {y2 : Int32} {y3 : Int32} {y4 : Int32} {y5 : Int32} {y6 : Int32} {H : Heap} {locs : List Loc} {ls : Array Slot}, q_H D A s (wX5_against cI cJ cZ cS a_t a_s a_keptS a_statuses a_pile a_tape a_steps a_wish a_mark a_bitsOf a_sizeOf a_number a_moved v_isKept v_taped v_at v_fault v_laid v_open v_s v_statuses v_pile v_wish) H locs → lv_has ls 8 [(0, .ref a_t), (1, .int y1), (2, .int y2), (3, .int y3), (4, .int y4), (5, .int y5), (6, .int y6)] → fX5_against_69 v_s ag43 v_statuses v_pile v_wish s0 y1 y2 y3 y4 y5 y6 = some (rr, kk') → W p l e rX5_against s m args below meth c H locs 0 0 (MQ below (q_Ri D rr A ((fun k : (Nat → Int32) × (Nat → Int32) × (Nat → Int32) => (wX5_against cI cJ cZ cS a_t a_s a_keptS a_statuses a_pile a_tape a_steps a_wish a_mark a_bitsOf a_sizeOf a_number a_moved v_isKept v_taped v_at v_fault v_laid v_open v_s k.1 k.2.1 k.2.2)) kk')) args s 0 0 A) (F0 m 69 ls [.int s0]) := by
  intro v_statuses v_pile v_wish s0 y1 y2 y3 y4 y5 y6 H locs ls h hl hf
  have hx := fx.1
  have hb := fx.2.1
  unfold fX5_against_69 at hf
  refine lv_istore (lv' := [(7, .int s0), (0, .ref a_t), (1, .int y1), (2, .int y2), (3, .int y3), (4, .int y4), (5, .int y5), (6, .int y6)]) hx hb dX5_against_69 hl (by decide) rfl (fun ls hl => ?_)
  refine lv_iload_n hx hb dX5_against_71 rfl (lv_at hl 4 rfl) ?_
  refine lv_if_ne (tgt := 89) hx hb dX5_against_72 (by decide) (fun c12 => ?_) (fun c12 => ?_)
  · have hf := it_f c12 hf
    exact LX5_against_89 fx hag43 h (lv_sub hl [1, 2, 3, 5, 6, 7, 0] rfl) hf
  have hf := it_t c12 hf
  refine lv_iload hx hb dX5_against_75 (lv_at hl 0 rfl) ?_
  refine lv_if_eq (tgt := 93) hx hb dX5_against_77 (by decide) (fun c13 => ?_) (fun c13 => ?_)
  · have hf := it_t c13 hf
    exact LX5_against_93 fx hag43 h (lv_sub hl [1, 2, 3, 5, 6, 7, 0] rfl) hf
  have hf := it_f c13 hf
  refine lv_iload hx hb dX5_against_80 (lv_at hl 7 rfl) ?_
  refine lv_iload_n hx hb dX5_against_82 rfl (lv_at hl 2 rfl) ?_
  obtain ⟨r14, k14, hg, hf⟩ := bR_inv hf
  refine q_ci (rest := []) (ws' := (wX5_against cI cJ cZ cS a_t a_s a_keptS a_statuses a_pile a_tape a_steps a_wish a_mark a_bitsOf a_sizeOf a_number a_moved v_isKept v_taped v_at v_fault v_laid v_open v_s v_statuses v_pile v_wish)) (w1 := (wX5_has cI cJ cZ cS)) fx h [] rfl rfl rfl rfl (q_runS fx h hl.1 [] rfl rfl (tX5_has l D cI cJ cZ cS tb H.size y6 y1 r14 k14 hg) msX5_has k_733 ⟨rfl, rfl⟩ ⟨Nat.le_of_ble_eq_true rfl, Nat.le_of_ble_eq_true rfl⟩ rfl rfl (Nat.le_of_ble_eq_true rfl) dX5_against_83 ⟨Nat.le_of_ble_eq_true rfl, Nat.le_of_ble_eq_true rfl⟩) (fun H locs h => ?_)
  refine lv_if_eq (tgt := 93) hx hb dX5_against_86 (by decide) (fun c15 => ?_) (fun c15 => ?_)
  · have hf := it_t c15 hf
    exact LX5_against_93 fx hag43 h (lv_sub hl [1, 2, 3, 5, 6, 7, 0] rfl) hf
  have hf := it_f c15 hf
  exact LX5_against_89 fx hag43 h (lv_sub hl [1, 2, 3, 5, 6, 7, 0] rfl) hf
def fX5_against_43 (v_s : Nat → Int32) (ag43 : (Nat → Int32) → (Nat → Int32) → (Nat → Int32) → Int32 → Int32 → Int32 → Int32 → Int32 → Int32 → Option (Int32 × (Nat → Int32) × (Nat → Int32) × (Nat → Int32))) (v_statuses : Nat → Int32) (v_pile : Nat → Int32) (v_wish : Nat → Int32) (y1 : Int32) (y2 : Int32) (y3 : Int32) (y4 : Int32) (y5 : Int32) (y6 : Int32) : Option (Int32 × (Nat → Int32) × (Nat → Int32) × (Nat → Int32)) :=
  bR (fX5_lists v_s) (fun r16 k16 =>
  (if r16 ≤ y6 then (
  (if y3 = 0 then (
  some (0, (v_statuses, v_pile, v_wish)))
  else (
  (if y4 = 0 then (
  some (0, (v_statuses, v_pile, v_wish)))
  else (
  (if y5 = 0 then (
  some (1, (v_statuses, v_pile, v_wish)))
  else (
  some (0, (v_statuses, v_pile, v_wish)))))))))
  else (
  gIn y6 256 (
  (if (v_wish y6.toNatClampNeg) = y6 then (
  fX5_against_69 v_s ag43 v_statuses v_pile v_wish 1 y1 y2 y3 y4 y5 y6)
  else (
  fX5_against_69 v_s ag43 v_statuses v_pile v_wish 0 y1 y2 y3 y4 y5 y6))))))
set_option maxRecDepth 100000 in
set_option maxHeartbeats 4000000 in
theorem LX5_against_43 {p : Program} {l : Launch} {e : Env} {s : State} {m : MethodId} {args : Array Value} {below : List Frame} {meth : Method} {c : Code} {D : va_G} {cI cJ cZ cS : ClassId} {tb : Nat} {A : Nat → Prop} {a_t a_s a_keptS a_statuses a_pile a_tape a_steps a_wish a_mark a_bitsOf a_sizeOf a_number a_moved : Nat} {v_isKept : Int32} {v_taped : Int32} {v_at : Int32} {v_fault : Int32} {v_laid : Int32} {v_open : Int32} {v_s : Nat → Int32} {rr : Int32} {kk' : (Nat → Int32) × (Nat → Int32) × (Nat → Int32)} (fx : q_Fx p s m args meth c cX5_against 8 RX5 (some .int) D cI cJ cZ cS tb A) {ag43 : (Nat → Int32) → (Nat → Int32) → (Nat → Int32) → Int32 → Int32 → Int32 → Int32 → Int32 → Int32 → Option (Int32 × (Nat → Int32) × (Nat → Int32) × (Nat → Int32))} (hag43 : ∀ {v_statuses : Nat → Int32} {v_pile : Nat → Int32} {v_wish : Nat → Int32} {y1 : Int32} {y2 : Int32} {y3 : Int32} {y4 : Int32} {y5 : Int32} {y6 : Int32} {H : Heap} {locs : List Loc} {ls : Array Slot}, q_H D A s (wX5_against cI cJ cZ cS a_t a_s a_keptS a_statuses a_pile a_tape a_steps a_wish a_mark a_bitsOf a_sizeOf a_number a_moved v_isKept v_taped v_at v_fault v_laid v_open v_s v_statuses v_pile v_wish) H locs → lv_has ls 8 [(0, .ref a_t), (1, .int y1), (2, .int y2), (3, .int y3), (4, .int y4), (5, .int y5), (6, .int y6)] → ag43 v_statuses v_pile v_wish y1 y2 y3 y4 y5 y6 = some (rr, kk') → W p l e rX5_against s m args below meth c H locs 0 0 (MQ below (q_Ri D rr A ((fun k : (Nat → Int32) × (Nat → Int32) × (Nat → Int32) => (wX5_against cI cJ cZ cS a_t a_s a_keptS a_statuses a_pile a_tape a_steps a_wish a_mark a_bitsOf a_sizeOf a_number a_moved v_isKept v_taped v_at v_fault v_laid v_open v_s k.1 k.2.1 k.2.2)) kk')) args s 0 0 A) (F0 m 43 ls [])) : ∀ {v_statuses : Nat → Int32} {v_pile : Nat → Int32} {v_wish : Nat → Int32} {y1 : Int32} {y2 : Int32} {y3 : Int32} {y4 : Int32} {y5 : Int32} {y6 : Int32} {H : Heap} {locs : List Loc} {ls : Array Slot}, q_H D A s (wX5_against cI cJ cZ cS a_t a_s a_keptS a_statuses a_pile a_tape a_steps a_wish a_mark a_bitsOf a_sizeOf a_number a_moved v_isKept v_taped v_at v_fault v_laid v_open v_s v_statuses v_pile v_wish) H locs → lv_has ls 8 [(0, .ref a_t), (1, .int y1), (2, .int y2), (3, .int y3), (4, .int y4), (5, .int y5), (6, .int y6)] → fX5_against_43 v_s ag43 v_statuses v_pile v_wish y1 y2 y3 y4 y5 y6 = some (rr, kk') → W p l e rX5_against s m args below meth c H locs 0 0 (MQ below (q_Ri D rr A ((fun k : (Nat → Int32) × (Nat → Int32) × (Nat → Int32) => (wX5_against cI cJ cZ cS a_t a_s a_keptS a_statuses a_pile a_tape a_steps a_wish a_mark a_bitsOf a_sizeOf a_number a_moved v_isKept v_taped v_at v_fault v_laid v_open v_s k.1 k.2.1 k.2.2)) kk')) args s 0 0 A) (F0 m 43 ls []) := by
  intro v_statuses v_pile v_wish y1 y2 y3 y4 y5 y6 H locs ls h hl hf
  have hx := fx.1
  have hb := fx.2.1
  unfold fX5_against_43 at hf
  refine lv_iload hx hb dX5_against_43 (lv_at hl 6 rfl) ?_
  refine lv_aload_n hx hb dX5_against_45 rfl (lv_at hl 0 rfl) ?_
  obtain ⟨r16, k16, hg, hf⟩ := bR_inv hf
  refine q_ci (rest := [.int y6]) (ws' := (wX5_against cI cJ cZ cS a_t a_s a_keptS a_statuses a_pile a_tape a_steps a_wish a_mark a_bitsOf a_sizeOf a_number a_moved v_isKept v_taped v_at v_fault v_laid v_open v_s v_statuses v_pile v_wish)) (w1 := (wX5_lists cI cJ cZ cS a_t a_s a_keptS a_statuses a_pile a_tape a_steps a_wish a_mark a_bitsOf a_sizeOf a_number a_moved v_isKept v_taped v_at v_fault v_laid v_open v_s)) fx h [0, 1] rfl rfl rfl rfl (q_runV fx h hl.1 [0, 1] rfl rfl (tX5_lists l D cI cJ cZ cS tb a_t a_s a_keptS a_statuses a_pile a_tape a_steps a_wish a_mark a_bitsOf a_sizeOf a_number a_moved H.size v_isKept v_taped v_at v_fault v_laid v_open v_s r16 k16 hg) mvX5_lists k_810 ⟨rfl, rfl⟩ ⟨Nat.le_of_ble_eq_true rfl, Nat.le_of_ble_eq_true rfl⟩ rfl rfl rfl rfl (Nat.le_of_ble_eq_true rfl) dX5_against_46 ⟨Nat.le_of_ble_eq_true rfl, Nat.le_of_ble_eq_true rfl⟩) (fun H locs h => ?_)
  refine lv_icmp_ge (tgt := 162) hx hb dX5_against_49 (by decide) (fun c17 => ?_) (fun c17 => ?_)
  · have hf := it_t c17 hf
    refine lv_iload_n hx hb dX5_against_162 rfl (lv_at hl 3 rfl) ?_
    refine lv_if_eq (tgt := 180) hx hb dX5_against_163 (by decide) (fun c18 => ?_) (fun c18 => ?_)
    · have hf := it_t c18 hf
      refine lv_iconst (v := 0) hx hb dX5_against_180 (by decide) ?_
      exact q_reti (fun k : (Nat → Int32) × (Nat → Int32) × (Nat → Int32) => (wX5_against cI cJ cZ cS a_t a_s a_keptS a_statuses a_pile a_tape a_steps a_wish a_mark a_bitsOf a_sizeOf a_number a_moved v_isKept v_taped v_at v_fault v_laid v_open v_s k.1 k.2.1 k.2.2)) fx hf h dX5_against_181
    have hf := it_f c18 hf
    refine lv_iload hx hb dX5_against_166 (lv_at hl 4 rfl) ?_
    refine lv_if_eq (tgt := 180) hx hb dX5_against_168 (by decide) (fun c19 => ?_) (fun c19 => ?_)
    · have hf := it_t c19 hf
      refine lv_iconst (v := 0) hx hb dX5_against_180 (by decide) ?_
      exact q_reti (fun k : (Nat → Int32) × (Nat → Int32) × (Nat → Int32) => (wX5_against cI cJ cZ cS a_t a_s a_keptS a_statuses a_pile a_tape a_steps a_wish a_mark a_bitsOf a_sizeOf a_number a_moved v_isKept v_taped v_at v_fault v_laid v_open v_s k.1 k.2.1 k.2.2)) fx hf h dX5_against_181
    have hf := it_f c19 hf
    refine lv_iload hx hb dX5_against_171 (lv_at hl 5 rfl) ?_
    refine lv_if_ne (tgt := 180) hx hb dX5_against_173 (by decide) (fun c20 => ?_) (fun c20 => ?_)
    · have hf := it_f c20 hf
      refine lv_iconst (v := 0) hx hb dX5_against_180 (by decide) ?_
      exact q_reti (fun k : (Nat → Int32) × (Nat → Int32) × (Nat → Int32) => (wX5_against cI cJ cZ cS a_t a_s a_keptS a_statuses a_pile a_tape a_steps a_wish a_mark a_bitsOf a_sizeOf a_number a_moved v_isKept v_taped v_at v_fault v_laid v_open v_s k.1 k.2.1 k.2.2)) fx hf h dX5_against_181
    have hf := it_t c20 hf
    refine lv_iconst (v := 1) hx hb dX5_against_176 (by decide) ?_
    refine lv_goto (tgt := 181) hx hb dX5_against_177 (by decide) ?_
    exact q_reti (fun k : (Nat → Int32) × (Nat → Int32) × (Nat → Int32) => (wX5_against cI cJ cZ cS a_t a_s a_keptS a_statuses a_pile a_tape a_steps a_wish a_mark a_bitsOf a_sizeOf a_number a_moved v_isKept v_taped v_at v_fault v_laid v_open v_s k.1 k.2.1 k.2.2)) fx hf h dX5_against_181
  have hf := it_f c17 hf
  refine lv_aload_n hx hb dX5_against_52 rfl (lv_at hl 0 rfl) ?_
  refine q_get (v := .ref a_wish) fx inX5 h 0 rfl rfl 12 (by decide) k_648 rfl dX5_against_53 ?_
  refine lv_iload hx hb dX5_against_56 (lv_at hl 6 rfl) ?_
  obtain ⟨i21, hf⟩ := gIn_inv hf
  refine q_iald fx h 4 rfl i21 dX5_against_58 ?_
  refine lv_iload hx hb dX5_against_59 (lv_at hl 6 rfl) ?_
  refine lv_icmp_ne (tgt := 68) hx hb dX5_against_61 (by decide) (fun c22 => ?_) (fun c22 => ?_)
  · have hf := it_f c22 hf
    refine lv_iconst (v := 0) hx hb dX5_against_68 (by decide) ?_
    exact LX5_against_69 fx hag43 h (lv_sub hl [0, 1, 2, 3, 4, 5, 6] rfl) hf
  have hf := it_t c22 hf
  refine lv_iconst (v := 1) hx hb dX5_against_64 (by decide) ?_
  refine lv_goto (tgt := 69) hx hb dX5_against_65 (by decide) ?_
  exact LX5_against_69 fx hag43 h (lv_sub hl [0, 1, 2, 3, 4, 5, 6] rfl) hf
set_option maxRecDepth 100000 in
theorem EX5_against_43 {p : Program} {l : Launch} {e : Env} {s : State} {m : MethodId} {args : Array Value} {below : List Frame} {meth : Method} {c : Code} {D : va_G} {cI cJ cZ cS : ClassId} {tb : Nat} {A : Nat → Prop} {a_t a_s a_keptS a_statuses a_pile a_tape a_steps a_wish a_mark a_bitsOf a_sizeOf a_number a_moved : Nat} {v_isKept : Int32} {v_taped : Int32} {v_at : Int32} {v_fault : Int32} {v_laid : Int32} {v_open : Int32} {v_s : Nat → Int32} {rr : Int32} {kk' : (Nat → Int32) × (Nat → Int32) × (Nat → Int32)} (fx : q_Fx p s m args meth c cX5_against 8 RX5 (some .int) D cI cJ cZ cS tb A) : ∀ (n : Nat), ∀ {v_statuses : Nat → Int32} {v_pile : Nat → Int32} {v_wish : Nat → Int32} {y1 : Int32} {y2 : Int32} {y3 : Int32} {y4 : Int32} {y5 : Int32} {y6 : Int32} {H : Heap} {locs : List Loc} {ls : Array Slot}, q_H D A s (wX5_against cI cJ cZ cS a_t a_s a_keptS a_statuses a_pile a_tape a_steps a_wish a_mark a_bitsOf a_sizeOf a_number a_moved v_isKept v_taped v_at v_fault v_laid v_open v_s v_statuses v_pile v_wish) H locs → lv_has ls 8 [(0, .ref a_t), (1, .int y1), (2, .int y2), (3, .int y3), (4, .int y4), (5, .int y5), (6, .int y6)] → ll9 (fX5_against_43 v_s) n v_statuses v_pile v_wish y1 y2 y3 y4 y5 y6 = some (rr, kk') → W p l e rX5_against s m args below meth c H locs 0 0 (MQ below (q_Ri D rr A ((fun k : (Nat → Int32) × (Nat → Int32) × (Nat → Int32) => (wX5_against cI cJ cZ cS a_t a_s a_keptS a_statuses a_pile a_tape a_steps a_wish a_mark a_bitsOf a_sizeOf a_number a_moved v_isKept v_taped v_at v_fault v_laid v_open v_s k.1 k.2.1 k.2.2)) kk')) args s 0 0 A) (F0 m 43 ls []) := by
  intro n
  induction n with
  | zero => intro v_statuses v_pile v_wish y1 y2 y3 y4 y5 y6 H locs ls h hl hf; exact (ll9_z hf).elim
  | succ n ih => intro v_statuses v_pile v_wish y1 y2 y3 y4 y5 y6 H locs ls h hl hf; exact LX5_against_43 fx ih h hl (ll9_s hf)
def fX5_against_21 (v_s : Nat → Int32) (v_statuses : Nat → Int32) (v_pile : Nat → Int32) (v_wish : Nat → Int32) : Option (Int32 × (Nat → Int32) × (Nat → Int32) × (Nat → Int32)) :=
  bR (fX5_finds v_statuses (-1000000001)) (fun r23 k23 =>
  some (r23, (k23, v_pile, v_wish)))
set_option maxRecDepth 100000 in
set_option maxHeartbeats 4000000 in
theorem LX5_against_21 {p : Program} {l : Launch} {e : Env} {s : State} {m : MethodId} {args : Array Value} {below : List Frame} {meth : Method} {c : Code} {D : va_G} {cI cJ cZ cS : ClassId} {tb : Nat} {A : Nat → Prop} {a_t a_s a_keptS a_statuses a_pile a_tape a_steps a_wish a_mark a_bitsOf a_sizeOf a_number a_moved : Nat} {v_isKept : Int32} {v_taped : Int32} {v_at : Int32} {v_fault : Int32} {v_laid : Int32} {v_open : Int32} {v_s : Nat → Int32} {rr : Int32} {kk' : (Nat → Int32) × (Nat → Int32) × (Nat → Int32)} (fx : q_Fx p s m args meth c cX5_against 8 RX5 (some .int) D cI cJ cZ cS tb A) : ∀ {v_statuses : Nat → Int32} {v_pile : Nat → Int32} {v_wish : Nat → Int32} {H : Heap} {locs : List Loc} {ls : Array Slot}, q_H D A s (wX5_against cI cJ cZ cS a_t a_s a_keptS a_statuses a_pile a_tape a_steps a_wish a_mark a_bitsOf a_sizeOf a_number a_moved v_isKept v_taped v_at v_fault v_laid v_open v_s v_statuses v_pile v_wish) H locs → lv_has ls 8 [(0, .ref a_t)] → fX5_against_21 v_s v_statuses v_pile v_wish = some (rr, kk') → W p l e rX5_against s m args below meth c H locs 0 0 (MQ below (q_Ri D rr A ((fun k : (Nat → Int32) × (Nat → Int32) × (Nat → Int32) => (wX5_against cI cJ cZ cS a_t a_s a_keptS a_statuses a_pile a_tape a_steps a_wish a_mark a_bitsOf a_sizeOf a_number a_moved v_isKept v_taped v_at v_fault v_laid v_open v_s k.1 k.2.1 k.2.2)) kk')) args s 0 0 A) (F0 m 21 ls []) := by
  intro v_statuses v_pile v_wish H locs ls h hl hf
  have hx := fx.1
  have hb := fx.2.1
  unfold fX5_against_21 at hf
  refine lv_aload_n hx hb dX5_against_21 rfl (lv_at hl 0 rfl) ?_
  refine q_ldc fx k_701 dX5_against_22 ?_
  obtain ⟨r23, k23, hg, hf⟩ := bR_inv hf
  refine q_ci (rest := []) (ws' := (wX5_against cI cJ cZ cS a_t a_s a_keptS a_statuses a_pile a_tape a_steps a_wish a_mark a_bitsOf a_sizeOf a_number a_moved v_isKept v_taped v_at v_fault v_laid v_open v_s k23 v_pile v_wish)) (w1 := (wX5_finds cI cJ cZ cS a_t a_s a_keptS a_statuses a_pile a_tape a_steps a_wish a_mark a_bitsOf a_sizeOf a_number a_moved v_isKept v_taped v_at v_fault v_laid v_open k23)) fx h [0, 2] rfl rfl rfl rfl (q_runV fx h hl.1 [0, 2] rfl rfl (tX5_finds l D cI cJ cZ cS tb a_t a_s a_keptS a_statuses a_pile a_tape a_steps a_wish a_mark a_bitsOf a_sizeOf a_number a_moved H.size v_isKept v_taped v_at v_fault v_laid v_open v_statuses (-1000000001) r23 k23 hg) mvX5_finds k_702 ⟨rfl, rfl⟩ ⟨Nat.le_of_ble_eq_true rfl, Nat.le_of_ble_eq_true rfl⟩ rfl rfl rfl rfl (Nat.le_of_ble_eq_true rfl) dX5_against_24 ⟨Nat.le_of_ble_eq_true rfl, Nat.le_of_ble_eq_true rfl⟩) (fun H locs h => ?_)
  exact q_reti (fun k : (Nat → Int32) × (Nat → Int32) × (Nat → Int32) => (wX5_against cI cJ cZ cS a_t a_s a_keptS a_statuses a_pile a_tape a_steps a_wish a_mark a_bitsOf a_sizeOf a_number a_moved v_isKept v_taped v_at v_fault v_laid v_open v_s k.1 k.2.1 k.2.2)) fx hf h dX5_against_27
def fX5_against (v_s : Nat → Int32) (v_statuses : Nat → Int32) (v_pile : Nat → Int32) (v_wish : Nat → Int32) (x1 : Int32) (x2 : Int32) : Option (Int32 × (Nat → Int32) × (Nat → Int32) × (Nat → Int32)) :=
  bR (fX5_isGuest v_s x1) (fun r24 k24 =>
  (if r24 = 0 then (
  fX5_against_21 v_s v_statuses v_pile v_wish)
  else (
  bR (fX5_isGuest v_s x2) (fun r26 k26 =>
  (if r26 = 0 then (
  fX5_against_21 v_s v_statuses v_pile v_wish)
  else (
  (if x1 = x2 then (
  fX5_against_21 v_s v_statuses v_pile v_wish)
  else (
  bV (fX5_looksAll v_s v_pile v_wish) (fun k29 =>
  ll9 (fX5_against_43 v_s) qF v_statuses k29.1 k29.2 x1 x2 0 0 0 0)))))))))
set_option maxRecDepth 100000 in
set_option maxHeartbeats 4000000 in
theorem tX5_against (l : Launch) (D : va_G) (cI cJ cZ cS : ClassId) (tb : Nat) (a_t a_s a_keptS a_statuses a_pile a_tape a_steps a_wish a_mark a_bitsOf a_sizeOf a_number a_moved : Nat) (sz : Nat) (v_isKept : Int32) (v_taped : Int32) (v_at : Int32) (v_fault : Int32) (v_laid : Int32) (v_open : Int32) (v_s : Nat → Int32) (v_statuses : Nat → Int32) (v_pile : Nat → Int32) (v_wish : Nat → Int32) (x1 : Int32) (x2 : Int32) (rr : Int32) (kk' : (Nat → Int32) × (Nat → Int32) × (Nat → Int32)) (hf : fX5_against v_s v_statuses v_pile v_wish x1 x2 = some (rr, kk')) : Met l yX5_against (Cond.code yX5_against cX5_against 8 (some .int) :: wA) rX5_against (q_Pre D cI cJ cZ cS tb [.ref a_t, .int x1, .int x2] sz (wX5_against cI cJ cZ cS a_t a_s a_keptS a_statuses a_pile a_tape a_steps a_wish a_mark a_bitsOf a_sizeOf a_number a_moved v_isKept v_taped v_at v_fault v_laid v_open v_s v_statuses v_pile v_wish)) (q_Ri D rr (va_A (wX5_against cI cJ cZ cS a_t a_s a_keptS a_statuses a_pile a_tape a_steps a_wish a_mark a_bitsOf a_sizeOf a_number a_moved v_isKept v_taped v_at v_fault v_laid v_open v_s v_statuses v_pile v_wish) sz) ((fun k : (Nat → Int32) × (Nat → Int32) × (Nat → Int32) => (wX5_against cI cJ cZ cS a_t a_s a_keptS a_statuses a_pile a_tape a_steps a_wish a_mark a_bitsOf a_sizeOf a_number a_moved v_isKept v_taped v_at v_fault v_laid v_open v_s k.1 k.2.1 k.2.2)) kk')) 0 0 (va_A (wX5_against cI cJ cZ cS a_t a_s a_keptS a_statuses a_pile a_tape a_steps a_wish a_mark a_bitsOf a_sizeOf a_number a_moved v_isKept v_taped v_at v_fault v_laid v_open v_s v_statuses v_pile v_wish) sz) := by
  refine q_enter (Qf := fun A => (q_Ri D rr A ((fun k : (Nat → Int32) × (Nat → Int32) × (Nat → Int32) => (wX5_against cI cJ cZ cS a_t a_s a_keptS a_statuses a_pile a_tape a_steps a_wish a_mark a_bitsOf a_sizeOf a_number a_moved v_isKept v_taped v_at v_fault v_laid v_open v_s k.1 k.2.1 k.2.2)) kk'))) (by decide) rfl (Nat.le_of_ble_eq_true rfl) ?_
  intro p e s m below meth c A ls fx hname h hl
  have hx := fx.1
  have hb := fx.2.1
  have hl : lv_has ls 8 [(0, .ref a_t), (1, .int x1), (2, .int x2)] := hl
  generalize h9 : s.heap = H at h ⊢
  clear h9
  generalize h9 : ([] : List Loc) = locs at h ⊢
  clear h9
  unfold fX5_against at hf
  refine lv_aload_n hx hb dX5_against_0 rfl (lv_at hl 0 rfl) ?_
  refine lv_iload_n hx hb dX5_against_1 rfl (lv_at hl 1 rfl) ?_
  obtain ⟨r24, k24, hg, hf⟩ := bR_inv hf
  refine q_ci (rest := []) (ws' := (wX5_against cI cJ cZ cS a_t a_s a_keptS a_statuses a_pile a_tape a_steps a_wish a_mark a_bitsOf a_sizeOf a_number a_moved v_isKept v_taped v_at v_fault v_laid v_open v_s v_statuses v_pile v_wish)) (w1 := (wX5_isGuest cI cJ cZ cS a_t a_s a_keptS a_statuses a_pile a_tape a_steps a_wish a_mark a_bitsOf a_sizeOf a_number a_moved v_isKept v_taped v_at v_fault v_laid v_open v_s)) fx h [0, 1] rfl rfl rfl rfl (q_runV fx h hl.1 [0, 1] rfl rfl (tX5_isGuest l D cI cJ cZ cS tb a_t a_s a_keptS a_statuses a_pile a_tape a_steps a_wish a_mark a_bitsOf a_sizeOf a_number a_moved H.size v_isKept v_taped v_at v_fault v_laid v_open v_s x1 r24 k24 hg) mvX5_isGuest k_711 ⟨rfl, rfl⟩ ⟨Nat.le_of_ble_eq_true rfl, Nat.le_of_ble_eq_true rfl⟩ rfl rfl rfl rfl (Nat.le_of_ble_eq_true rfl) dX5_against_2 ⟨Nat.le_of_ble_eq_true rfl, Nat.le_of_ble_eq_true rfl⟩) (fun H locs h => ?_)
  refine lv_if_eq (tgt := 21) hx hb dX5_against_5 (by decide) (fun c25 => ?_) (fun c25 => ?_)
  · have hf := it_t c25 hf
    exact LX5_against_21 fx h (lv_sub hl [0] rfl) hf
  have hf := it_f c25 hf
  refine lv_aload_n hx hb dX5_against_8 rfl (lv_at hl 0 rfl) ?_
  refine lv_iload_n hx hb dX5_against_9 rfl (lv_at hl 2 rfl) ?_
  obtain ⟨r26, k26, hg, hf⟩ := bR_inv hf
  refine q_ci (rest := []) (ws' := (wX5_against cI cJ cZ cS a_t a_s a_keptS a_statuses a_pile a_tape a_steps a_wish a_mark a_bitsOf a_sizeOf a_number a_moved v_isKept v_taped v_at v_fault v_laid v_open v_s v_statuses v_pile v_wish)) (w1 := (wX5_isGuest cI cJ cZ cS a_t a_s a_keptS a_statuses a_pile a_tape a_steps a_wish a_mark a_bitsOf a_sizeOf a_number a_moved v_isKept v_taped v_at v_fault v_laid v_open v_s)) fx h [0, 1] rfl rfl rfl rfl (q_runV fx h hl.1 [0, 1] rfl rfl (tX5_isGuest l D cI cJ cZ cS tb a_t a_s a_keptS a_statuses a_pile a_tape a_steps a_wish a_mark a_bitsOf a_sizeOf a_number a_moved H.size v_isKept v_taped v_at v_fault v_laid v_open v_s x2 r26 k26 hg) mvX5_isGuest k_711 ⟨rfl, rfl⟩ ⟨Nat.le_of_ble_eq_true rfl, Nat.le_of_ble_eq_true rfl⟩ rfl rfl rfl rfl (Nat.le_of_ble_eq_true rfl) dX5_against_10 ⟨Nat.le_of_ble_eq_true rfl, Nat.le_of_ble_eq_true rfl⟩) (fun H locs h => ?_)
  refine lv_if_eq (tgt := 21) hx hb dX5_against_13 (by decide) (fun c27 => ?_) (fun c27 => ?_)
  · have hf := it_t c27 hf
    exact LX5_against_21 fx h (lv_sub hl [0] rfl) hf
  have hf := it_f c27 hf
  refine lv_iload_n hx hb dX5_against_16 rfl (lv_at hl 1 rfl) ?_
  refine lv_iload_n hx hb dX5_against_17 rfl (lv_at hl 2 rfl) ?_
  refine lv_icmp_ne (tgt := 28) hx hb dX5_against_18 (by decide) (fun c28 => ?_) (fun c28 => ?_)
  · have hf := it_f c28 hf
    refine lv_aload_n hx hb dX5_against_28 rfl (lv_at hl 0 rfl) ?_
    obtain ⟨k29, hg, hf⟩ := bV_inv hf
    refine q_cv (rest := []) (ws' := (wX5_against cI cJ cZ cS a_t a_s a_keptS a_statuses a_pile a_tape a_steps a_wish a_mark a_bitsOf a_sizeOf a_number a_moved v_isKept v_taped v_at v_fault v_laid v_open v_s v_statuses k29.1 k29.2)) (w1 := (wX5_looksAll cI cJ cZ cS a_t a_s a_keptS a_statuses a_pile a_tape a_steps a_wish a_mark a_bitsOf a_sizeOf a_number a_moved v_isKept v_taped v_at v_fault v_laid v_open v_s k29.1 k29.2)) fx h [0, 1, 3, 4] rfl rfl rfl rfl (q_runV fx h hl.1 [0, 1, 3, 4] rfl rfl (tX5_looksAll l D cI cJ cZ cS tb a_t a_s a_keptS a_statuses a_pile a_tape a_steps a_wish a_mark a_bitsOf a_sizeOf a_number a_moved H.size v_isKept v_taped v_at v_fault v_laid v_open v_s v_pile v_wish k29 hg) mvX5_looksAll k_860 ⟨rfl, rfl⟩ ⟨Nat.le_of_ble_eq_true rfl, Nat.le_of_ble_eq_true rfl⟩ rfl rfl rfl rfl (Nat.le_of_ble_eq_true rfl) dX5_against_29 ⟨Nat.le_of_ble_eq_true rfl, Nat.le_of_ble_eq_true rfl⟩) (fun H locs h => ?_)
    refine lv_iconst (v := 0) hx hb dX5_against_32 (by decide) ?_
    refine lv_istore_n (lv' := [(3, .int 0), (0, .ref a_t), (1, .int x1), (2, .int x2)]) hx hb dX5_against_33 rfl hl (by decide) rfl (fun ls hl => ?_)
    refine lv_iconst (v := 0) hx hb dX5_against_34 (by decide) ?_
    refine lv_istore (lv' := [(4, .int 0), (3, .int 0), (0, .ref a_t), (1, .int x1), (2, .int x2)]) hx hb dX5_against_35 hl (by decide) rfl (fun ls hl => ?_)
    refine lv_iconst (v := 0) hx hb dX5_against_37 (by decide) ?_
    refine lv_istore (lv' := [(5, .int 0), (4, .int 0), (3, .int 0), (0, .ref a_t), (1, .int x1), (2, .int x2)]) hx hb dX5_against_38 hl (by decide) rfl (fun ls hl => ?_)
    refine lv_iconst (v := 0) hx hb dX5_against_40 (by decide) ?_
    refine lv_istore (lv' := [(6, .int 0), (5, .int 0), (4, .int 0), (3, .int 0), (0, .ref a_t), (1, .int x1), (2, .int x2)]) hx hb dX5_against_41 hl (by decide) rfl (fun ls hl => ?_)
    exact EX5_against_43 fx qF h (lv_sub hl [4, 5, 6, 3, 2, 1, 0] rfl) hf
  have hf := it_t c28 hf
  exact LX5_against_21 fx h (lv_sub hl [0] rfl) hf
/-! X5_minds -/
abbrev wX5_minds (cI cJ cZ cS : ClassId) (a_t a_s a_keptS a_statuses a_pile a_tape a_steps a_wish a_mark a_bitsOf a_sizeOf a_number a_moved : Nat) (v_isKept : Int32) (v_taped : Int32) (v_at : Int32) (v_fault : Int32) (v_laid : Int32) (v_open : Int32) (v_s : Nat → Int32) (v_statuses : Nat → Int32) (v_pile : Nat → Int32) (v_wish : Nat → Int32) : va_W := [(a_t, .inr (5, [.ref a_s, .ref a_keptS, .ref a_statuses, .int v_isKept, .ref a_pile, .ref a_tape, .ref a_steps, .int v_taped, .int v_at, .int v_fault, .int v_laid, .int v_open, .ref a_wish, .ref a_mark, .ref a_bitsOf, .ref a_sizeOf, .ref a_number, .ref a_moved])), (a_s, .inl (cI, 538, .inl v_s)), (a_statuses, .inl (cI, 7, .inl v_statuses)), (a_pile, .inl (cZ, 64, .inl v_pile)), (a_wish, .inl (cI, 256, .inl v_wish))]
abbrev rX5_minds : Room := { frames := 6, cells := 0, slots := 0, locals := 137 }
def fX5_minds_23 (v_s : Nat → Int32) (ag23 : (Nat → Int32) → (Nat → Int32) → (Nat → Int32) → Int32 → Int32 → Int32 → Option (Int32 × (Nat → Int32) × (Nat → Int32) × (Nat → Int32))) (v_statuses : Nat → Int32) (v_pile : Nat → Int32) (v_wish : Nat → Int32) (y1 : Int32) (y2 : Int32) (y3 : Int32) : Option (Int32 × (Nat → Int32) × (Nat → Int32) × (Nat → Int32)) :=
  bR (fX5_lists v_s) (fun r1 k1 =>
  (if r1 ≤ y3 then (
  some (y2 &&& ((jshl 1 y1) ^^^ (-1)), (v_statuses, v_pile, v_wish)))
  else (
  gIn y3 256 (
  gIn (y3 ||| (jshl 1 y1)) 256 (
  nm (y2 ||| ((v_wish y3.toNatClampNeg) ^^^ (v_wish (y3 ||| (jshl 1 y1)).toNatClampNeg))) (fun u5 =>
  nm (y3 + 1) (fun u6 =>
  ag23 v_statuses v_pile v_wish y1 u5 u6)))))))
set_option maxRecDepth 100000 in
set_option maxHeartbeats 4000000 in
theorem LX5_minds_23 {p : Program} {l : Launch} {e : Env} {s : State} {m : MethodId} {args : Array Value} {below : List Frame} {meth : Method} {c : Code} {D : va_G} {cI cJ cZ cS : ClassId} {tb : Nat} {A : Nat → Prop} {a_t a_s a_keptS a_statuses a_pile a_tape a_steps a_wish a_mark a_bitsOf a_sizeOf a_number a_moved : Nat} {v_isKept : Int32} {v_taped : Int32} {v_at : Int32} {v_fault : Int32} {v_laid : Int32} {v_open : Int32} {v_s : Nat → Int32} {rr : Int32} {kk' : (Nat → Int32) × (Nat → Int32) × (Nat → Int32)} (fx : q_Fx p s m args meth c cX5_minds 4 RX5 (some .int) D cI cJ cZ cS tb A) {ag23 : (Nat → Int32) → (Nat → Int32) → (Nat → Int32) → Int32 → Int32 → Int32 → Option (Int32 × (Nat → Int32) × (Nat → Int32) × (Nat → Int32))} (hag23 : ∀ {v_statuses : Nat → Int32} {v_pile : Nat → Int32} {v_wish : Nat → Int32} {y1 : Int32} {y2 : Int32} {y3 : Int32} {H : Heap} {locs : List Loc} {ls : Array Slot}, q_H D A s (wX5_minds cI cJ cZ cS a_t a_s a_keptS a_statuses a_pile a_tape a_steps a_wish a_mark a_bitsOf a_sizeOf a_number a_moved v_isKept v_taped v_at v_fault v_laid v_open v_s v_statuses v_pile v_wish) H locs → lv_has ls 4 [(0, .ref a_t), (1, .int y1), (2, .int y2), (3, .int y3)] → ag23 v_statuses v_pile v_wish y1 y2 y3 = some (rr, kk') → W p l e rX5_minds s m args below meth c H locs 0 0 (MQ below (q_Ri D rr A ((fun k : (Nat → Int32) × (Nat → Int32) × (Nat → Int32) => (wX5_minds cI cJ cZ cS a_t a_s a_keptS a_statuses a_pile a_tape a_steps a_wish a_mark a_bitsOf a_sizeOf a_number a_moved v_isKept v_taped v_at v_fault v_laid v_open v_s k.1 k.2.1 k.2.2)) kk')) args s 0 0 A) (F0 m 23 ls [])) : ∀ {v_statuses : Nat → Int32} {v_pile : Nat → Int32} {v_wish : Nat → Int32} {y1 : Int32} {y2 : Int32} {y3 : Int32} {H : Heap} {locs : List Loc} {ls : Array Slot}, q_H D A s (wX5_minds cI cJ cZ cS a_t a_s a_keptS a_statuses a_pile a_tape a_steps a_wish a_mark a_bitsOf a_sizeOf a_number a_moved v_isKept v_taped v_at v_fault v_laid v_open v_s v_statuses v_pile v_wish) H locs → lv_has ls 4 [(0, .ref a_t), (1, .int y1), (2, .int y2), (3, .int y3)] → fX5_minds_23 v_s ag23 v_statuses v_pile v_wish y1 y2 y3 = some (rr, kk') → W p l e rX5_minds s m args below meth c H locs 0 0 (MQ below (q_Ri D rr A ((fun k : (Nat → Int32) × (Nat → Int32) × (Nat → Int32) => (wX5_minds cI cJ cZ cS a_t a_s a_keptS a_statuses a_pile a_tape a_steps a_wish a_mark a_bitsOf a_sizeOf a_number a_moved v_isKept v_taped v_at v_fault v_laid v_open v_s k.1 k.2.1 k.2.2)) kk')) args s 0 0 A) (F0 m 23 ls []) := by
  intro v_statuses v_pile v_wish y1 y2 y3 H locs ls h hl hf
  have hx := fx.1
  have hb := fx.2.1
  unfold fX5_minds_23 at hf
  refine lv_iload_n hx hb dX5_minds_23 rfl (lv_at hl 3 rfl) ?_
  refine lv_aload_n hx hb dX5_minds_24 rfl (lv_at hl 0 rfl) ?_
  obtain ⟨r1, k1, hg, hf⟩ := bR_inv hf
  refine q_ci (rest := [.int y3]) (ws' := (wX5_minds cI cJ cZ cS a_t a_s a_keptS a_statuses a_pile a_tape a_steps a_wish a_mark a_bitsOf a_sizeOf a_number a_moved v_isKept v_taped v_at v_fault v_laid v_open v_s v_statuses v_pile v_wish)) (w1 := (wX5_lists cI cJ cZ cS a_t a_s a_keptS a_statuses a_pile a_tape a_steps a_wish a_mark a_bitsOf a_sizeOf a_number a_moved v_isKept v_taped v_at v_fault v_laid v_open v_s)) fx h [0, 1] rfl rfl rfl rfl (q_runV fx h hl.1 [0, 1] rfl rfl (tX5_lists l D cI cJ cZ cS tb a_t a_s a_keptS a_statuses a_pile a_tape a_steps a_wish a_mark a_bitsOf a_sizeOf a_number a_moved H.size v_isKept v_taped v_at v_fault v_laid v_open v_s r1 k1 hg) mvX5_lists k_810 ⟨rfl, rfl⟩ ⟨Nat.le_of_ble_eq_true rfl, Nat.le_of_ble_eq_true rfl⟩ rfl rfl rfl rfl (Nat.le_of_ble_eq_true rfl) dX5_minds_25 ⟨Nat.le_of_ble_eq_true rfl, Nat.le_of_ble_eq_true rfl⟩) (fun H locs h => ?_)
  refine lv_icmp_ge (tgt := 57) hx hb dX5_minds_28 (by decide) (fun c2 => ?_) (fun c2 => ?_)
  · have hf := it_t c2 hf
    refine lv_iload_n hx hb dX5_minds_57 rfl (lv_at hl 2 rfl) ?_
    refine lv_iconst (v := 1) hx hb dX5_minds_58 (by decide) ?_
    refine lv_iload_n hx hb dX5_minds_59 rfl (lv_at hl 1 rfl) ?_
    refine lv_ishl hx hb dX5_minds_60 ?_
    refine lv_iconst (v := -1) hx hb dX5_minds_61 (by decide) ?_
    refine lv_ixor hx hb dX5_minds_62 ?_
    refine lv_iand hx hb dX5_minds_63 ?_
    exact q_reti (fun k : (Nat → Int32) × (Nat → Int32) × (Nat → Int32) => (wX5_minds cI cJ cZ cS a_t a_s a_keptS a_statuses a_pile a_tape a_steps a_wish a_mark a_bitsOf a_sizeOf a_number a_moved v_isKept v_taped v_at v_fault v_laid v_open v_s k.1 k.2.1 k.2.2)) fx hf h dX5_minds_64
  have hf := it_f c2 hf
  refine lv_iload_n hx hb dX5_minds_31 rfl (lv_at hl 2 rfl) ?_
  refine lv_aload_n hx hb dX5_minds_32 rfl (lv_at hl 0 rfl) ?_
  refine q_get (v := .ref a_wish) fx inX5 h 0 rfl rfl 12 (by decide) k_648 rfl dX5_minds_33 ?_
  refine lv_iload_n hx hb dX5_minds_36 rfl (lv_at hl 3 rfl) ?_
  obtain ⟨i3, hf⟩ := gIn_inv hf
  refine q_iald fx h 4 rfl i3 dX5_minds_37 ?_
  refine lv_aload_n hx hb dX5_minds_38 rfl (lv_at hl 0 rfl) ?_
  refine q_get (v := .ref a_wish) fx inX5 h 0 rfl rfl 12 (by decide) k_648 rfl dX5_minds_39 ?_
  refine lv_iload_n hx hb dX5_minds_42 rfl (lv_at hl 3 rfl) ?_
  refine lv_iconst (v := 1) hx hb dX5_minds_43 (by decide) ?_
  refine lv_iload_n hx hb dX5_minds_44 rfl (lv_at hl 1 rfl) ?_
  refine lv_ishl hx hb dX5_minds_45 ?_
  refine lv_ior hx hb dX5_minds_46 ?_
  obtain ⟨i4, hf⟩ := gIn_inv hf
  refine q_iald fx h 4 rfl i4 dX5_minds_47 ?_
  refine lv_ixor hx hb dX5_minds_48 ?_
  refine lv_ior hx hb dX5_minds_49 ?_
  obtain ⟨u5, eu5, hf⟩ := nm_inv hf
  refine lv_eqi eu5 ?_
  refine lv_istore_n (lv' := [(2, .int u5), (0, .ref a_t), (1, .int y1), (3, .int y3)]) hx hb dX5_minds_50 rfl hl (by decide) rfl (fun ls hl => ?_)
  obtain ⟨u6, eu6, hf⟩ := nm_inv hf
  refine lv_iinc (v := u6) (lv' := [(3, .int u6), (2, .int u5), (0, .ref a_t), (1, .int y1)]) hx hb dX5_minds_51 hl (k := 3) rfl (by rw [eu6]; rfl) (by decide) rfl (fun ls hl => ?_)
  refine lv_goto (tgt := 23) hx hb dX5_minds_54 (by decide) ?_
  exact hag23 h (lv_sub hl [2, 3, 1, 0] rfl) hf
set_option maxRecDepth 100000 in
theorem EX5_minds_23 {p : Program} {l : Launch} {e : Env} {s : State} {m : MethodId} {args : Array Value} {below : List Frame} {meth : Method} {c : Code} {D : va_G} {cI cJ cZ cS : ClassId} {tb : Nat} {A : Nat → Prop} {a_t a_s a_keptS a_statuses a_pile a_tape a_steps a_wish a_mark a_bitsOf a_sizeOf a_number a_moved : Nat} {v_isKept : Int32} {v_taped : Int32} {v_at : Int32} {v_fault : Int32} {v_laid : Int32} {v_open : Int32} {v_s : Nat → Int32} {rr : Int32} {kk' : (Nat → Int32) × (Nat → Int32) × (Nat → Int32)} (fx : q_Fx p s m args meth c cX5_minds 4 RX5 (some .int) D cI cJ cZ cS tb A) : ∀ (n : Nat), ∀ {v_statuses : Nat → Int32} {v_pile : Nat → Int32} {v_wish : Nat → Int32} {y1 : Int32} {y2 : Int32} {y3 : Int32} {H : Heap} {locs : List Loc} {ls : Array Slot}, q_H D A s (wX5_minds cI cJ cZ cS a_t a_s a_keptS a_statuses a_pile a_tape a_steps a_wish a_mark a_bitsOf a_sizeOf a_number a_moved v_isKept v_taped v_at v_fault v_laid v_open v_s v_statuses v_pile v_wish) H locs → lv_has ls 4 [(0, .ref a_t), (1, .int y1), (2, .int y2), (3, .int y3)] → ll6 (fX5_minds_23 v_s) n v_statuses v_pile v_wish y1 y2 y3 = some (rr, kk') → W p l e rX5_minds s m args below meth c H locs 0 0 (MQ below (q_Ri D rr A ((fun k : (Nat → Int32) × (Nat → Int32) × (Nat → Int32) => (wX5_minds cI cJ cZ cS a_t a_s a_keptS a_statuses a_pile a_tape a_steps a_wish a_mark a_bitsOf a_sizeOf a_number a_moved v_isKept v_taped v_at v_fault v_laid v_open v_s k.1 k.2.1 k.2.2)) kk')) args s 0 0 A) (F0 m 23 ls []) := by
  intro n
  induction n with
  | zero => intro v_statuses v_pile v_wish y1 y2 y3 H locs ls h hl hf; exact (ll6_z hf).elim
  | succ n ih => intro v_statuses v_pile v_wish y1 y2 y3 H locs ls h hl hf; exact LX5_minds_23 fx ih h hl (ll6_s hf)
def fX5_minds (v_s : Nat → Int32) (v_statuses : Nat → Int32) (v_pile : Nat → Int32) (v_wish : Nat → Int32) (x1 : Int32) : Option (Int32 × (Nat → Int32) × (Nat → Int32) × (Nat → Int32)) :=
  bR (fX5_isGuest v_s x1) (fun r7 k7 =>
  (if r7 = 0 then (
  bR (fX5_finds v_statuses (-1000000001)) (fun r10 k10 =>
  some (r10, (k10, v_pile, v_wish))))
  else (
  bV (fX5_looksAll v_s v_pile v_wish) (fun k9 =>
  ll6 (fX5_minds_23 v_s) qF v_statuses k9.1 k9.2 x1 0 0))))
set_option maxRecDepth 100000 in
set_option maxHeartbeats 4000000 in
theorem tX5_minds (l : Launch) (D : va_G) (cI cJ cZ cS : ClassId) (tb : Nat) (a_t a_s a_keptS a_statuses a_pile a_tape a_steps a_wish a_mark a_bitsOf a_sizeOf a_number a_moved : Nat) (sz : Nat) (v_isKept : Int32) (v_taped : Int32) (v_at : Int32) (v_fault : Int32) (v_laid : Int32) (v_open : Int32) (v_s : Nat → Int32) (v_statuses : Nat → Int32) (v_pile : Nat → Int32) (v_wish : Nat → Int32) (x1 : Int32) (rr : Int32) (kk' : (Nat → Int32) × (Nat → Int32) × (Nat → Int32)) (hf : fX5_minds v_s v_statuses v_pile v_wish x1 = some (rr, kk')) : Met l yX5_minds (Cond.code yX5_minds cX5_minds 4 (some .int) :: wA) rX5_minds (q_Pre D cI cJ cZ cS tb [.ref a_t, .int x1] sz (wX5_minds cI cJ cZ cS a_t a_s a_keptS a_statuses a_pile a_tape a_steps a_wish a_mark a_bitsOf a_sizeOf a_number a_moved v_isKept v_taped v_at v_fault v_laid v_open v_s v_statuses v_pile v_wish)) (q_Ri D rr (va_A (wX5_minds cI cJ cZ cS a_t a_s a_keptS a_statuses a_pile a_tape a_steps a_wish a_mark a_bitsOf a_sizeOf a_number a_moved v_isKept v_taped v_at v_fault v_laid v_open v_s v_statuses v_pile v_wish) sz) ((fun k : (Nat → Int32) × (Nat → Int32) × (Nat → Int32) => (wX5_minds cI cJ cZ cS a_t a_s a_keptS a_statuses a_pile a_tape a_steps a_wish a_mark a_bitsOf a_sizeOf a_number a_moved v_isKept v_taped v_at v_fault v_laid v_open v_s k.1 k.2.1 k.2.2)) kk')) 0 0 (va_A (wX5_minds cI cJ cZ cS a_t a_s a_keptS a_statuses a_pile a_tape a_steps a_wish a_mark a_bitsOf a_sizeOf a_number a_moved v_isKept v_taped v_at v_fault v_laid v_open v_s v_statuses v_pile v_wish) sz) := by
  refine q_enter (Qf := fun A => (q_Ri D rr A ((fun k : (Nat → Int32) × (Nat → Int32) × (Nat → Int32) => (wX5_minds cI cJ cZ cS a_t a_s a_keptS a_statuses a_pile a_tape a_steps a_wish a_mark a_bitsOf a_sizeOf a_number a_moved v_isKept v_taped v_at v_fault v_laid v_open v_s k.1 k.2.1 k.2.2)) kk'))) (by decide) rfl (Nat.le_of_ble_eq_true rfl) ?_
  intro p e s m below meth c A ls fx hname h hl
  have hx := fx.1
  have hb := fx.2.1
  have hl : lv_has ls 4 [(0, .ref a_t), (1, .int x1)] := hl
  generalize h9 : s.heap = H at h ⊢
  clear h9
  generalize h9 : ([] : List Loc) = locs at h ⊢
  clear h9
  unfold fX5_minds at hf
  refine lv_aload_n hx hb dX5_minds_0 rfl (lv_at hl 0 rfl) ?_
  refine lv_iload_n hx hb dX5_minds_1 rfl (lv_at hl 1 rfl) ?_
  obtain ⟨r7, k7, hg, hf⟩ := bR_inv hf
  refine q_ci (rest := []) (ws' := (wX5_minds cI cJ cZ cS a_t a_s a_keptS a_statuses a_pile a_tape a_steps a_wish a_mark a_bitsOf a_sizeOf a_number a_moved v_isKept v_taped v_at v_fault v_laid v_open v_s v_statuses v_pile v_wish)) (w1 := (wX5_isGuest cI cJ cZ cS a_t a_s a_keptS a_statuses a_pile a_tape a_steps a_wish a_mark a_bitsOf a_sizeOf a_number a_moved v_isKept v_taped v_at v_fault v_laid v_open v_s)) fx h [0, 1] rfl rfl rfl rfl (q_runV fx h hl.1 [0, 1] rfl rfl (tX5_isGuest l D cI cJ cZ cS tb a_t a_s a_keptS a_statuses a_pile a_tape a_steps a_wish a_mark a_bitsOf a_sizeOf a_number a_moved H.size v_isKept v_taped v_at v_fault v_laid v_open v_s x1 r7 k7 hg) mvX5_isGuest k_711 ⟨rfl, rfl⟩ ⟨Nat.le_of_ble_eq_true rfl, Nat.le_of_ble_eq_true rfl⟩ rfl rfl rfl rfl (Nat.le_of_ble_eq_true rfl) dX5_minds_2 ⟨Nat.le_of_ble_eq_true rfl, Nat.le_of_ble_eq_true rfl⟩) (fun H locs h => ?_)
  refine lv_if_ne (tgt := 15) hx hb dX5_minds_5 (by decide) (fun c8 => ?_) (fun c8 => ?_)
  · have hf := it_f c8 hf
    refine lv_aload_n hx hb dX5_minds_15 rfl (lv_at hl 0 rfl) ?_
    obtain ⟨k9, hg, hf⟩ := bV_inv hf
    refine q_cv (rest := []) (ws' := (wX5_minds cI cJ cZ cS a_t a_s a_keptS a_statuses a_pile a_tape a_steps a_wish a_mark a_bitsOf a_sizeOf a_number a_moved v_isKept v_taped v_at v_fault v_laid v_open v_s v_statuses k9.1 k9.2)) (w1 := (wX5_looksAll cI cJ cZ cS a_t a_s a_keptS a_statuses a_pile a_tape a_steps a_wish a_mark a_bitsOf a_sizeOf a_number a_moved v_isKept v_taped v_at v_fault v_laid v_open v_s k9.1 k9.2)) fx h [0, 1, 3, 4] rfl rfl rfl rfl (q_runV fx h hl.1 [0, 1, 3, 4] rfl rfl (tX5_looksAll l D cI cJ cZ cS tb a_t a_s a_keptS a_statuses a_pile a_tape a_steps a_wish a_mark a_bitsOf a_sizeOf a_number a_moved H.size v_isKept v_taped v_at v_fault v_laid v_open v_s v_pile v_wish k9 hg) mvX5_looksAll k_860 ⟨rfl, rfl⟩ ⟨Nat.le_of_ble_eq_true rfl, Nat.le_of_ble_eq_true rfl⟩ rfl rfl rfl rfl (Nat.le_of_ble_eq_true rfl) dX5_minds_16 ⟨Nat.le_of_ble_eq_true rfl, Nat.le_of_ble_eq_true rfl⟩) (fun H locs h => ?_)
    refine lv_iconst (v := 0) hx hb dX5_minds_19 (by decide) ?_
    refine lv_istore_n (lv' := [(2, .int 0), (0, .ref a_t), (1, .int x1)]) hx hb dX5_minds_20 rfl hl (by decide) rfl (fun ls hl => ?_)
    refine lv_iconst (v := 0) hx hb dX5_minds_21 (by decide) ?_
    refine lv_istore_n (lv' := [(3, .int 0), (2, .int 0), (0, .ref a_t), (1, .int x1)]) hx hb dX5_minds_22 rfl hl (by decide) rfl (fun ls hl => ?_)
    exact EX5_minds_23 fx qF h (lv_sub hl [2, 3, 1, 0] rfl) hf
  have hf := it_t c8 hf
  refine lv_aload_n hx hb dX5_minds_8 rfl (lv_at hl 0 rfl) ?_
  refine q_ldc fx k_701 dX5_minds_9 ?_
  obtain ⟨r10, k10, hg, hf⟩ := bR_inv hf
  refine q_ci (rest := []) (ws' := (wX5_minds cI cJ cZ cS a_t a_s a_keptS a_statuses a_pile a_tape a_steps a_wish a_mark a_bitsOf a_sizeOf a_number a_moved v_isKept v_taped v_at v_fault v_laid v_open v_s k10 v_pile v_wish)) (w1 := (wX5_finds cI cJ cZ cS a_t a_s a_keptS a_statuses a_pile a_tape a_steps a_wish a_mark a_bitsOf a_sizeOf a_number a_moved v_isKept v_taped v_at v_fault v_laid v_open k10)) fx h [0, 2] rfl rfl rfl rfl (q_runV fx h hl.1 [0, 2] rfl rfl (tX5_finds l D cI cJ cZ cS tb a_t a_s a_keptS a_statuses a_pile a_tape a_steps a_wish a_mark a_bitsOf a_sizeOf a_number a_moved H.size v_isKept v_taped v_at v_fault v_laid v_open v_statuses (-1000000001) r10 k10 hg) mvX5_finds k_702 ⟨rfl, rfl⟩ ⟨Nat.le_of_ble_eq_true rfl, Nat.le_of_ble_eq_true rfl⟩ rfl rfl rfl rfl (Nat.le_of_ble_eq_true rfl) dX5_minds_11 ⟨Nat.le_of_ble_eq_true rfl, Nat.le_of_ble_eq_true rfl⟩) (fun H locs h => ?_)
  exact q_reti (fun k : (Nat → Int32) × (Nat → Int32) × (Nat → Int32) => (wX5_minds cI cJ cZ cS a_t a_s a_keptS a_statuses a_pile a_tape a_steps a_wish a_mark a_bitsOf a_sizeOf a_number a_moved v_isKept v_taped v_at v_fault v_laid v_open v_s k.1 k.2.1 k.2.2)) fx hf h dX5_minds_14
/-! X5_kind -/
abbrev wX5_kind (cI cJ cZ cS : ClassId) (a_t a_s a_keptS a_statuses a_pile a_tape a_steps a_wish a_mark a_bitsOf a_sizeOf a_number a_moved : Nat) (v_isKept : Int32) (v_taped : Int32) (v_at : Int32) (v_fault : Int32) (v_laid : Int32) (v_open : Int32) (v_s : Nat → Int32) (v_statuses : Nat → Int32) (v_pile : Nat → Int32) (v_wish : Nat → Int32) : va_W := [(a_t, .inr (5, [.ref a_s, .ref a_keptS, .ref a_statuses, .int v_isKept, .ref a_pile, .ref a_tape, .ref a_steps, .int v_taped, .int v_at, .int v_fault, .int v_laid, .int v_open, .ref a_wish, .ref a_mark, .ref a_bitsOf, .ref a_sizeOf, .ref a_number, .ref a_moved])), (a_s, .inl (cI, 538, .inl v_s)), (a_statuses, .inl (cI, 7, .inl v_statuses)), (a_pile, .inl (cZ, 64, .inl v_pile)), (a_wish, .inl (cI, 256, .inl v_wish))]
abbrev rX5_kind : Room := { frames := 7, cells := 0, slots := 0, locals := 159 }
def fX5_kind_83 (ag30 : (Nat → Int32) → (Nat → Int32) → (Nat → Int32) → (Nat → Int32) → Int32 → Int32 → Int32 → Int32 → Int32 → Option (Int32 × (Nat → Int32) × (Nat → Int32) × (Nat → Int32) × (Nat → Int32))) (v_s : Nat → Int32) (v_statuses : Nat → Int32) (v_pile : Nat → Int32) (v_wish : Nat → Int32) (s0 : Int32) (y1 : Int32) (y2 : Int32) (y3 : Int32) (y5 : Int32) : Option (Int32 × (Nat → Int32) × (Nat → Int32) × (Nat → Int32) × (Nat → Int32)) :=
  nm (y5 + 1) (fun u1 =>
  ag30 v_s v_statuses v_pile v_wish y1 y2 y3 s0 u1)
set_option maxRecDepth 100000 in
set_option maxHeartbeats 4000000 in
theorem LX5_kind_83 {p : Program} {l : Launch} {e : Env} {s : State} {m : MethodId} {args : Array Value} {below : List Frame} {meth : Method} {c : Code} {D : va_G} {cI cJ cZ cS : ClassId} {tb : Nat} {A : Nat → Prop} {a_t a_s a_keptS a_statuses a_pile a_tape a_steps a_wish a_mark a_bitsOf a_sizeOf a_number a_moved : Nat} {v_isKept : Int32} {v_taped : Int32} {v_at : Int32} {v_fault : Int32} {v_laid : Int32} {v_open : Int32} {rr : Int32} {kk' : (Nat → Int32) × (Nat → Int32) × (Nat → Int32) × (Nat → Int32)} (fx : q_Fx p s m args meth c cX5_kind 7 RX5 (some .int) D cI cJ cZ cS tb A) {ag30 : (Nat → Int32) → (Nat → Int32) → (Nat → Int32) → (Nat → Int32) → Int32 → Int32 → Int32 → Int32 → Int32 → Option (Int32 × (Nat → Int32) × (Nat → Int32) × (Nat → Int32) × (Nat → Int32))} (hag30 : ∀ {v_s : Nat → Int32} {v_statuses : Nat → Int32} {v_pile : Nat → Int32} {v_wish : Nat → Int32} {y1 : Int32} {y2 : Int32} {y3 : Int32} {y4 : Int32} {y5 : Int32} {H : Heap} {locs : List Loc} {ls : Array Slot}, q_H D A s (wX5_kind cI cJ cZ cS a_t a_s a_keptS a_statuses a_pile a_tape a_steps a_wish a_mark a_bitsOf a_sizeOf a_number a_moved v_isKept v_taped v_at v_fault v_laid v_open v_s v_statuses v_pile v_wish) H locs → lv_has ls 7 [(0, .ref a_t), (1, .int y1), (2, .int y2), (3, .int y3), (4, .int y4), (5, .int y5)] → ag30 v_s v_statuses v_pile v_wish y1 y2 y3 y4 y5 = some (rr, kk') → W p l e rX5_kind s m args below meth c H locs 0 0 (MQ below (q_Ri D rr A ((fun k : (Nat → Int32) × (Nat → Int32) × (Nat → Int32) × (Nat → Int32) => (wX5_kind cI cJ cZ cS a_t a_s a_keptS a_statuses a_pile a_tape a_steps a_wish a_mark a_bitsOf a_sizeOf a_number a_moved v_isKept v_taped v_at v_fault v_laid v_open k.1 k.2.1 k.2.2.1 k.2.2.2)) kk')) args s 0 0 A) (F0 m 30 ls [])) : ∀ {v_s : Nat → Int32} {v_statuses : Nat → Int32} {v_pile : Nat → Int32} {v_wish : Nat → Int32} {s0 : Int32} {y1 : Int32} {y2 : Int32} {y3 : Int32} {y5 : Int32} {H : Heap} {locs : List Loc} {ls : Array Slot}, q_H D A s (wX5_kind cI cJ cZ cS a_t a_s a_keptS a_statuses a_pile a_tape a_steps a_wish a_mark a_bitsOf a_sizeOf a_number a_moved v_isKept v_taped v_at v_fault v_laid v_open v_s v_statuses v_pile v_wish) H locs → lv_has ls 7 [(0, .ref a_t), (1, .int y1), (2, .int y2), (3, .int y3), (5, .int y5)] → fX5_kind_83 ag30 v_s v_statuses v_pile v_wish s0 y1 y2 y3 y5 = some (rr, kk') → W p l e rX5_kind s m args below meth c H locs 0 0 (MQ below (q_Ri D rr A ((fun k : (Nat → Int32) × (Nat → Int32) × (Nat → Int32) × (Nat → Int32) => (wX5_kind cI cJ cZ cS a_t a_s a_keptS a_statuses a_pile a_tape a_steps a_wish a_mark a_bitsOf a_sizeOf a_number a_moved v_isKept v_taped v_at v_fault v_laid v_open k.1 k.2.1 k.2.2.1 k.2.2.2)) kk')) args s 0 0 A) (F0 m 83 ls [.int s0]) := by
  intro v_s v_statuses v_pile v_wish s0 y1 y2 y3 y5 H locs ls h hl hf
  have hx := fx.1
  have hb := fx.2.1
  unfold fX5_kind_83 at hf
  refine lv_istore (lv' := [(4, .int s0), (0, .ref a_t), (1, .int y1), (2, .int y2), (3, .int y3), (5, .int y5)]) hx hb dX5_kind_83 hl (by decide) rfl (fun ls hl => ?_)
  obtain ⟨u1, eu1, hf⟩ := nm_inv hf
  refine lv_iinc (v := u1) (lv' := [(5, .int u1), (4, .int s0), (0, .ref a_t), (1, .int y1), (2, .int y2), (3, .int y3)]) hx hb dX5_kind_85 hl (k := 5) rfl (by rw [eu1]; rfl) (by decide) rfl (fun ls hl => ?_)
  refine lv_goto (tgt := 30) hx hb dX5_kind_88 (by decide) ?_
  exact hag30 h (lv_sub hl [2, 3, 4, 5, 1, 0] rfl) hf
def fX5_kind_68 (ag30 : (Nat → Int32) → (Nat → Int32) → (Nat → Int32) → (Nat → Int32) → Int32 → Int32 → Int32 → Int32 → Int32 → Option (Int32 × (Nat → Int32) × (Nat → Int32) × (Nat → Int32) × (Nat → Int32))) (v_s : Nat → Int32) (v_statuses : Nat → Int32) (v_pile : Nat → Int32) (v_wish : Nat → Int32) (s0 : Int32) (y1 : Int32) (y2 : Int32) (y4 : Int32) (y5 : Int32) (y6 : Int32) : Option (Int32 × (Nat → Int32) × (Nat → Int32) × (Nat → Int32) × (Nat → Int32)) :=
  (if y6 ≤ y4 then (
  fX5_kind_83 ag30 v_s v_statuses v_pile v_wish y4 y1 y2 s0 y5)
  else (
  fX5_kind_83 ag30 v_s v_statuses v_pile v_wish y6 y1 y2 s0 y5))
set_option maxRecDepth 100000 in
set_option maxHeartbeats 4000000 in
theorem LX5_kind_68 {p : Program} {l : Launch} {e : Env} {s : State} {m : MethodId} {args : Array Value} {below : List Frame} {meth : Method} {c : Code} {D : va_G} {cI cJ cZ cS : ClassId} {tb : Nat} {A : Nat → Prop} {a_t a_s a_keptS a_statuses a_pile a_tape a_steps a_wish a_mark a_bitsOf a_sizeOf a_number a_moved : Nat} {v_isKept : Int32} {v_taped : Int32} {v_at : Int32} {v_fault : Int32} {v_laid : Int32} {v_open : Int32} {rr : Int32} {kk' : (Nat → Int32) × (Nat → Int32) × (Nat → Int32) × (Nat → Int32)} (fx : q_Fx p s m args meth c cX5_kind 7 RX5 (some .int) D cI cJ cZ cS tb A) {ag30 : (Nat → Int32) → (Nat → Int32) → (Nat → Int32) → (Nat → Int32) → Int32 → Int32 → Int32 → Int32 → Int32 → Option (Int32 × (Nat → Int32) × (Nat → Int32) × (Nat → Int32) × (Nat → Int32))} (hag30 : ∀ {v_s : Nat → Int32} {v_statuses : Nat → Int32} {v_pile : Nat → Int32} {v_wish : Nat → Int32} {y1 : Int32} {y2 : Int32} {y3 : Int32} {y4 : Int32} {y5 : Int32} {H : Heap} {locs : List Loc} {ls : Array Slot}, q_H D A s (wX5_kind cI cJ cZ cS a_t a_s a_keptS a_statuses a_pile a_tape a_steps a_wish a_mark a_bitsOf a_sizeOf a_number a_moved v_isKept v_taped v_at v_fault v_laid v_open v_s v_statuses v_pile v_wish) H locs → lv_has ls 7 [(0, .ref a_t), (1, .int y1), (2, .int y2), (3, .int y3), (4, .int y4), (5, .int y5)] → ag30 v_s v_statuses v_pile v_wish y1 y2 y3 y4 y5 = some (rr, kk') → W p l e rX5_kind s m args below meth c H locs 0 0 (MQ below (q_Ri D rr A ((fun k : (Nat → Int32) × (Nat → Int32) × (Nat → Int32) × (Nat → Int32) => (wX5_kind cI cJ cZ cS a_t a_s a_keptS a_statuses a_pile a_tape a_steps a_wish a_mark a_bitsOf a_sizeOf a_number a_moved v_isKept v_taped v_at v_fault v_laid v_open k.1 k.2.1 k.2.2.1 k.2.2.2)) kk')) args s 0 0 A) (F0 m 30 ls [])) : ∀ {v_s : Nat → Int32} {v_statuses : Nat → Int32} {v_pile : Nat → Int32} {v_wish : Nat → Int32} {s0 : Int32} {y1 : Int32} {y2 : Int32} {y4 : Int32} {y5 : Int32} {y6 : Int32} {H : Heap} {locs : List Loc} {ls : Array Slot}, q_H D A s (wX5_kind cI cJ cZ cS a_t a_s a_keptS a_statuses a_pile a_tape a_steps a_wish a_mark a_bitsOf a_sizeOf a_number a_moved v_isKept v_taped v_at v_fault v_laid v_open v_s v_statuses v_pile v_wish) H locs → lv_has ls 7 [(0, .ref a_t), (1, .int y1), (2, .int y2), (4, .int y4), (5, .int y5), (6, .int y6)] → fX5_kind_68 ag30 v_s v_statuses v_pile v_wish s0 y1 y2 y4 y5 y6 = some (rr, kk') → W p l e rX5_kind s m args below meth c H locs 0 0 (MQ below (q_Ri D rr A ((fun k : (Nat → Int32) × (Nat → Int32) × (Nat → Int32) × (Nat → Int32) => (wX5_kind cI cJ cZ cS a_t a_s a_keptS a_statuses a_pile a_tape a_steps a_wish a_mark a_bitsOf a_sizeOf a_number a_moved v_isKept v_taped v_at v_fault v_laid v_open k.1 k.2.1 k.2.2.1 k.2.2.2)) kk')) args s 0 0 A) (F0 m 68 ls [.int s0]) := by
  intro v_s v_statuses v_pile v_wish s0 y1 y2 y4 y5 y6 H locs ls h hl hf
  have hx := fx.1
  have hb := fx.2.1
  unfold fX5_kind_68 at hf
  refine lv_istore_n (lv' := [(3, .int s0), (0, .ref a_t), (1, .int y1), (2, .int y2), (4, .int y4), (5, .int y5), (6, .int y6)]) hx hb dX5_kind_68 rfl hl (by decide) rfl (fun ls hl => ?_)
  refine lv_iload hx hb dX5_kind_69 (lv_at hl 6 rfl) ?_
  refine lv_iload hx hb dX5_kind_71 (lv_at hl 4 rfl) ?_
  refine lv_icmp_le (tgt := 81) hx hb dX5_kind_73 (by decide) (fun c2 => ?_) (fun c2 => ?_)
  · have hf := it_t c2 hf
    refine lv_iload hx hb dX5_kind_81 (lv_at hl 4 rfl) ?_
    exact LX5_kind_83 fx hag30 h (lv_sub hl [1, 2, 3, 0, 5] rfl) hf
  have hf := it_f c2 hf
  refine lv_iload hx hb dX5_kind_76 (lv_at hl 6 rfl) ?_
  refine lv_goto (tgt := 83) hx hb dX5_kind_78 (by decide) ?_
  exact LX5_kind_83 fx hag30 h (lv_sub hl [1, 2, 3, 0, 5] rfl) hf
def fX5_kind_30 (ag30 : (Nat → Int32) → (Nat → Int32) → (Nat → Int32) → (Nat → Int32) → Int32 → Int32 → Int32 → Int32 → Int32 → Option (Int32 × (Nat → Int32) × (Nat → Int32) × (Nat → Int32) × (Nat → Int32))) (v_s : Nat → Int32) (v_statuses : Nat → Int32) (v_pile : Nat → Int32) (v_wish : Nat → Int32) (y1 : Int32) (y2 : Int32) (y3 : Int32) (y4 : Int32) (y5 : Int32) : Option (Int32 × (Nat → Int32) × (Nat → Int32) × (Nat → Int32) × (Nat → Int32)) :=
  (if (6 : Int32) ≤ y5 then (
  gIn (2 + (3 * y1)) 538 (
  some (y3, ((upd v_s (2 + (3 * y1)).toNatClampNeg y2), v_statuses, v_pile, v_wish))))
  else (
  gIn (2 + (3 * y1)) 538 (
  bR (fX5_manySettled (upd v_s (2 + (3 * y1)).toNatClampNeg y5) v_pile v_wish) (fun r6 k6 =>
  (if r6 ≤ y4 then (
  fX5_kind_68 ag30 (upd v_s (2 + (3 * y1)).toNatClampNeg y5) v_statuses k6.1 k6.2 y3 y1 y2 y4 y5 r6)
  else (
  fX5_kind_68 ag30 (upd v_s (2 + (3 * y1)).toNatClampNeg y5) v_statuses k6.1 k6.2 y5 y1 y2 y4 y5 r6))))))
set_option maxRecDepth 100000 in
set_option maxHeartbeats 4000000 in
theorem LX5_kind_30 {p : Program} {l : Launch} {e : Env} {s : State} {m : MethodId} {args : Array Value} {below : List Frame} {meth : Method} {c : Code} {D : va_G} {cI cJ cZ cS : ClassId} {tb : Nat} {A : Nat → Prop} {a_t a_s a_keptS a_statuses a_pile a_tape a_steps a_wish a_mark a_bitsOf a_sizeOf a_number a_moved : Nat} {v_isKept : Int32} {v_taped : Int32} {v_at : Int32} {v_fault : Int32} {v_laid : Int32} {v_open : Int32} {rr : Int32} {kk' : (Nat → Int32) × (Nat → Int32) × (Nat → Int32) × (Nat → Int32)} (fx : q_Fx p s m args meth c cX5_kind 7 RX5 (some .int) D cI cJ cZ cS tb A) {ag30 : (Nat → Int32) → (Nat → Int32) → (Nat → Int32) → (Nat → Int32) → Int32 → Int32 → Int32 → Int32 → Int32 → Option (Int32 × (Nat → Int32) × (Nat → Int32) × (Nat → Int32) × (Nat → Int32))} (hag30 : ∀ {v_s : Nat → Int32} {v_statuses : Nat → Int32} {v_pile : Nat → Int32} {v_wish : Nat → Int32} {y1 : Int32} {y2 : Int32} {y3 : Int32} {y4 : Int32} {y5 : Int32} {H : Heap} {locs : List Loc} {ls : Array Slot}, q_H D A s (wX5_kind cI cJ cZ cS a_t a_s a_keptS a_statuses a_pile a_tape a_steps a_wish a_mark a_bitsOf a_sizeOf a_number a_moved v_isKept v_taped v_at v_fault v_laid v_open v_s v_statuses v_pile v_wish) H locs → lv_has ls 7 [(0, .ref a_t), (1, .int y1), (2, .int y2), (3, .int y3), (4, .int y4), (5, .int y5)] → ag30 v_s v_statuses v_pile v_wish y1 y2 y3 y4 y5 = some (rr, kk') → W p l e rX5_kind s m args below meth c H locs 0 0 (MQ below (q_Ri D rr A ((fun k : (Nat → Int32) × (Nat → Int32) × (Nat → Int32) × (Nat → Int32) => (wX5_kind cI cJ cZ cS a_t a_s a_keptS a_statuses a_pile a_tape a_steps a_wish a_mark a_bitsOf a_sizeOf a_number a_moved v_isKept v_taped v_at v_fault v_laid v_open k.1 k.2.1 k.2.2.1 k.2.2.2)) kk')) args s 0 0 A) (F0 m 30 ls [])) : ∀ {v_s : Nat → Int32} {v_statuses : Nat → Int32} {v_pile : Nat → Int32} {v_wish : Nat → Int32} {y1 : Int32} {y2 : Int32} {y3 : Int32} {y4 : Int32} {y5 : Int32} {H : Heap} {locs : List Loc} {ls : Array Slot}, q_H D A s (wX5_kind cI cJ cZ cS a_t a_s a_keptS a_statuses a_pile a_tape a_steps a_wish a_mark a_bitsOf a_sizeOf a_number a_moved v_isKept v_taped v_at v_fault v_laid v_open v_s v_statuses v_pile v_wish) H locs → lv_has ls 7 [(0, .ref a_t), (1, .int y1), (2, .int y2), (3, .int y3), (4, .int y4), (5, .int y5)] → fX5_kind_30 ag30 v_s v_statuses v_pile v_wish y1 y2 y3 y4 y5 = some (rr, kk') → W p l e rX5_kind s m args below meth c H locs 0 0 (MQ below (q_Ri D rr A ((fun k : (Nat → Int32) × (Nat → Int32) × (Nat → Int32) × (Nat → Int32) => (wX5_kind cI cJ cZ cS a_t a_s a_keptS a_statuses a_pile a_tape a_steps a_wish a_mark a_bitsOf a_sizeOf a_number a_moved v_isKept v_taped v_at v_fault v_laid v_open k.1 k.2.1 k.2.2.1 k.2.2.2)) kk')) args s 0 0 A) (F0 m 30 ls []) := by
  intro v_s v_statuses v_pile v_wish y1 y2 y3 y4 y5 H locs ls h hl hf
  have hx := fx.1
  have hb := fx.2.1
  unfold fX5_kind_30 at hf
  refine lv_iload hx hb dX5_kind_30 (lv_at hl 5 rfl) ?_
  refine lv_bipush (v := 6) hx hb dX5_kind_32 (by decide) ?_
  refine lv_icmp_ge (tgt := 91) hx hb dX5_kind_34 (by decide) (fun c3 => ?_) (fun c3 => ?_)
  · have hf := it_t c3 hf
    refine lv_aload_n hx hb dX5_kind_91 rfl (lv_at hl 0 rfl) ?_
    refine q_get (v := .ref a_s) fx inX5 h 0 rfl rfl 0 (by decide) k_636 rfl dX5_kind_92 ?_
    refine lv_iconst (v := 2) hx hb dX5_kind_95 (by decide) ?_
    refine lv_iconst (v := 3) hx hb dX5_kind_96 (by decide) ?_
    refine lv_iload_n hx hb dX5_kind_97 rfl (lv_at hl 1 rfl) ?_
    refine lv_imul hx hb dX5_kind_98 ?_
    refine lv_iadd hx hb dX5_kind_99 ?_
    refine lv_iload_n hx hb dX5_kind_100 rfl (lv_at hl 2 rfl) ?_
    obtain ⟨i4, hf⟩ := gIn_inv hf
    refine q_iast (ws' := (wX5_kind cI cJ cZ cS a_t a_s a_keptS a_statuses a_pile a_tape a_steps a_wish a_mark a_bitsOf a_sizeOf a_number a_moved v_isKept v_taped v_at v_fault v_laid v_open (upd v_s (2 + (3 * y1)).toNatClampNeg y2) v_statuses v_pile v_wish)) fx h 1 rfl i4 rfl dX5_kind_101 (fun H locs h => ?_)
    refine lv_iload_n hx hb dX5_kind_102 rfl (lv_at hl 3 rfl) ?_
    exact q_reti (fun k : (Nat → Int32) × (Nat → Int32) × (Nat → Int32) × (Nat → Int32) => (wX5_kind cI cJ cZ cS a_t a_s a_keptS a_statuses a_pile a_tape a_steps a_wish a_mark a_bitsOf a_sizeOf a_number a_moved v_isKept v_taped v_at v_fault v_laid v_open k.1 k.2.1 k.2.2.1 k.2.2.2)) fx hf h dX5_kind_103
  have hf := it_f c3 hf
  refine lv_aload_n hx hb dX5_kind_37 rfl (lv_at hl 0 rfl) ?_
  refine q_get (v := .ref a_s) fx inX5 h 0 rfl rfl 0 (by decide) k_636 rfl dX5_kind_38 ?_
  refine lv_iconst (v := 2) hx hb dX5_kind_41 (by decide) ?_
  refine lv_iconst (v := 3) hx hb dX5_kind_42 (by decide) ?_
  refine lv_iload_n hx hb dX5_kind_43 rfl (lv_at hl 1 rfl) ?_
  refine lv_imul hx hb dX5_kind_44 ?_
  refine lv_iadd hx hb dX5_kind_45 ?_
  refine lv_iload hx hb dX5_kind_46 (lv_at hl 5 rfl) ?_
  obtain ⟨i5, hf⟩ := gIn_inv hf
  refine q_iast (ws' := (wX5_kind cI cJ cZ cS a_t a_s a_keptS a_statuses a_pile a_tape a_steps a_wish a_mark a_bitsOf a_sizeOf a_number a_moved v_isKept v_taped v_at v_fault v_laid v_open (upd v_s (2 + (3 * y1)).toNatClampNeg y5) v_statuses v_pile v_wish)) fx h 1 rfl i5 rfl dX5_kind_48 (fun H locs h => ?_)
  refine lv_aload_n hx hb dX5_kind_49 rfl (lv_at hl 0 rfl) ?_
  obtain ⟨r6, k6, hg, hf⟩ := bR_inv hf
  refine q_ci (rest := []) (ws' := (wX5_kind cI cJ cZ cS a_t a_s a_keptS a_statuses a_pile a_tape a_steps a_wish a_mark a_bitsOf a_sizeOf a_number a_moved v_isKept v_taped v_at v_fault v_laid v_open (upd v_s (2 + (3 * y1)).toNatClampNeg y5) v_statuses k6.1 k6.2)) (w1 := (wX5_manySettled cI cJ cZ cS a_t a_s a_keptS a_statuses a_pile a_tape a_steps a_wish a_mark a_bitsOf a_sizeOf a_number a_moved v_isKept v_taped v_at v_fault v_laid v_open (upd v_s (2 + (3 * y1)).toNatClampNeg y5) k6.1 k6.2)) fx h [0, 1, 3, 4] rfl rfl rfl rfl (q_runV fx h hl.1 [0, 1, 3, 4] rfl rfl (tX5_manySettled l D cI cJ cZ cS tb a_t a_s a_keptS a_statuses a_pile a_tape a_steps a_wish a_mark a_bitsOf a_sizeOf a_number a_moved H.size v_isKept v_taped v_at v_fault v_laid v_open (upd v_s (2 + (3 * y1)).toNatClampNeg y5) v_pile v_wish r6 k6 hg) mvX5_manySettled k_889 ⟨rfl, rfl⟩ ⟨Nat.le_of_ble_eq_true rfl, Nat.le_of_ble_eq_true rfl⟩ rfl rfl rfl rfl (Nat.le_of_ble_eq_true rfl) dX5_kind_50 ⟨Nat.le_of_ble_eq_true rfl, Nat.le_of_ble_eq_true rfl⟩) (fun H locs h => ?_)
  refine lv_istore (lv' := [(6, .int r6), (0, .ref a_t), (1, .int y1), (2, .int y2), (3, .int y3), (4, .int y4), (5, .int y5)]) hx hb dX5_kind_53 hl (by decide) rfl (fun ls hl => ?_)
  refine lv_iload hx hb dX5_kind_55 (lv_at hl 0 rfl) ?_
  refine lv_iload hx hb dX5_kind_57 (lv_at hl 5 rfl) ?_
  refine lv_icmp_le (tgt := 67) hx hb dX5_kind_59 (by decide) (fun c7 => ?_) (fun c7 => ?_)
  · have hf := it_t c7 hf
    refine lv_iload_n hx hb dX5_kind_67 rfl (lv_at hl 4 rfl) ?_
    exact LX5_kind_68 fx hag30 h (lv_sub hl [1, 2, 3, 5, 6, 0] rfl) hf
  have hf := it_f c7 hf
  refine lv_iload hx hb dX5_kind_62 (lv_at hl 6 rfl) ?_
  refine lv_goto (tgt := 68) hx hb dX5_kind_64 (by decide) ?_
  exact LX5_kind_68 fx hag30 h (lv_sub hl [1, 2, 3, 5, 6, 0] rfl) hf
set_option maxRecDepth 100000 in
theorem EX5_kind_30 {p : Program} {l : Launch} {e : Env} {s : State} {m : MethodId} {args : Array Value} {below : List Frame} {meth : Method} {c : Code} {D : va_G} {cI cJ cZ cS : ClassId} {tb : Nat} {A : Nat → Prop} {a_t a_s a_keptS a_statuses a_pile a_tape a_steps a_wish a_mark a_bitsOf a_sizeOf a_number a_moved : Nat} {v_isKept : Int32} {v_taped : Int32} {v_at : Int32} {v_fault : Int32} {v_laid : Int32} {v_open : Int32} {rr : Int32} {kk' : (Nat → Int32) × (Nat → Int32) × (Nat → Int32) × (Nat → Int32)} (fx : q_Fx p s m args meth c cX5_kind 7 RX5 (some .int) D cI cJ cZ cS tb A) : ∀ (n : Nat), ∀ {v_s : Nat → Int32} {v_statuses : Nat → Int32} {v_pile : Nat → Int32} {v_wish : Nat → Int32} {y1 : Int32} {y2 : Int32} {y3 : Int32} {y4 : Int32} {y5 : Int32} {H : Heap} {locs : List Loc} {ls : Array Slot}, q_H D A s (wX5_kind cI cJ cZ cS a_t a_s a_keptS a_statuses a_pile a_tape a_steps a_wish a_mark a_bitsOf a_sizeOf a_number a_moved v_isKept v_taped v_at v_fault v_laid v_open v_s v_statuses v_pile v_wish) H locs → lv_has ls 7 [(0, .ref a_t), (1, .int y1), (2, .int y2), (3, .int y3), (4, .int y4), (5, .int y5)] → ll9 (fX5_kind_30 ) n v_s v_statuses v_pile v_wish y1 y2 y3 y4 y5 = some (rr, kk') → W p l e rX5_kind s m args below meth c H locs 0 0 (MQ below (q_Ri D rr A ((fun k : (Nat → Int32) × (Nat → Int32) × (Nat → Int32) × (Nat → Int32) => (wX5_kind cI cJ cZ cS a_t a_s a_keptS a_statuses a_pile a_tape a_steps a_wish a_mark a_bitsOf a_sizeOf a_number a_moved v_isKept v_taped v_at v_fault v_laid v_open k.1 k.2.1 k.2.2.1 k.2.2.2)) kk')) args s 0 0 A) (F0 m 30 ls []) := by
  intro n
  induction n with
  | zero => intro v_s v_statuses v_pile v_wish y1 y2 y3 y4 y5 H locs ls h hl hf; exact (ll9_z hf).elim
  | succ n ih => intro v_s v_statuses v_pile v_wish y1 y2 y3 y4 y5 H locs ls h hl hf; exact LX5_kind_30 fx ih h hl (ll9_s hf)
def fX5_kind (v_s : Nat → Int32) (v_statuses : Nat → Int32) (v_pile : Nat → Int32) (v_wish : Nat → Int32) (x1 : Int32) : Option (Int32 × (Nat → Int32) × (Nat → Int32) × (Nat → Int32) × (Nat → Int32)) :=
  bR (fX5_isGuest v_s x1) (fun r8 k8 =>
  (if r8 = 0 then (
  bR (fX5_finds v_statuses (-1000000001)) (fun r11 k11 =>
  some (r11, (v_s, k11, v_pile, v_wish))))
  else (
  bR (fX5_its v_s x1 0) (fun r10 k10 =>
  ll9 (fX5_kind_30 ) qF v_s v_statuses v_pile v_wish x1 r10 (-1) (-1) 0))))
set_option maxRecDepth 100000 in
set_option maxHeartbeats 4000000 in
theorem tX5_kind (l : Launch) (D : va_G) (cI cJ cZ cS : ClassId) (tb : Nat) (a_t a_s a_keptS a_statuses a_pile a_tape a_steps a_wish a_mark a_bitsOf a_sizeOf a_number a_moved : Nat) (sz : Nat) (v_isKept : Int32) (v_taped : Int32) (v_at : Int32) (v_fault : Int32) (v_laid : Int32) (v_open : Int32) (v_s : Nat → Int32) (v_statuses : Nat → Int32) (v_pile : Nat → Int32) (v_wish : Nat → Int32) (x1 : Int32) (rr : Int32) (kk' : (Nat → Int32) × (Nat → Int32) × (Nat → Int32) × (Nat → Int32)) (hf : fX5_kind v_s v_statuses v_pile v_wish x1 = some (rr, kk')) : Met l yX5_kind (Cond.code yX5_kind cX5_kind 7 (some .int) :: wA) rX5_kind (q_Pre D cI cJ cZ cS tb [.ref a_t, .int x1] sz (wX5_kind cI cJ cZ cS a_t a_s a_keptS a_statuses a_pile a_tape a_steps a_wish a_mark a_bitsOf a_sizeOf a_number a_moved v_isKept v_taped v_at v_fault v_laid v_open v_s v_statuses v_pile v_wish)) (q_Ri D rr (va_A (wX5_kind cI cJ cZ cS a_t a_s a_keptS a_statuses a_pile a_tape a_steps a_wish a_mark a_bitsOf a_sizeOf a_number a_moved v_isKept v_taped v_at v_fault v_laid v_open v_s v_statuses v_pile v_wish) sz) ((fun k : (Nat → Int32) × (Nat → Int32) × (Nat → Int32) × (Nat → Int32) => (wX5_kind cI cJ cZ cS a_t a_s a_keptS a_statuses a_pile a_tape a_steps a_wish a_mark a_bitsOf a_sizeOf a_number a_moved v_isKept v_taped v_at v_fault v_laid v_open k.1 k.2.1 k.2.2.1 k.2.2.2)) kk')) 0 0 (va_A (wX5_kind cI cJ cZ cS a_t a_s a_keptS a_statuses a_pile a_tape a_steps a_wish a_mark a_bitsOf a_sizeOf a_number a_moved v_isKept v_taped v_at v_fault v_laid v_open v_s v_statuses v_pile v_wish) sz) := by
  refine q_enter (Qf := fun A => (q_Ri D rr A ((fun k : (Nat → Int32) × (Nat → Int32) × (Nat → Int32) × (Nat → Int32) => (wX5_kind cI cJ cZ cS a_t a_s a_keptS a_statuses a_pile a_tape a_steps a_wish a_mark a_bitsOf a_sizeOf a_number a_moved v_isKept v_taped v_at v_fault v_laid v_open k.1 k.2.1 k.2.2.1 k.2.2.2)) kk'))) (by decide) rfl (Nat.le_of_ble_eq_true rfl) ?_
  intro p e s m below meth c A ls fx hname h hl
  have hx := fx.1
  have hb := fx.2.1
  have hl : lv_has ls 7 [(0, .ref a_t), (1, .int x1)] := hl
  generalize h9 : s.heap = H at h ⊢
  clear h9
  generalize h9 : ([] : List Loc) = locs at h ⊢
  clear h9
  unfold fX5_kind at hf
  refine lv_aload_n hx hb dX5_kind_0 rfl (lv_at hl 0 rfl) ?_
  refine lv_iload_n hx hb dX5_kind_1 rfl (lv_at hl 1 rfl) ?_
  obtain ⟨r8, k8, hg, hf⟩ := bR_inv hf
  refine q_ci (rest := []) (ws' := (wX5_kind cI cJ cZ cS a_t a_s a_keptS a_statuses a_pile a_tape a_steps a_wish a_mark a_bitsOf a_sizeOf a_number a_moved v_isKept v_taped v_at v_fault v_laid v_open v_s v_statuses v_pile v_wish)) (w1 := (wX5_isGuest cI cJ cZ cS a_t a_s a_keptS a_statuses a_pile a_tape a_steps a_wish a_mark a_bitsOf a_sizeOf a_number a_moved v_isKept v_taped v_at v_fault v_laid v_open v_s)) fx h [0, 1] rfl rfl rfl rfl (q_runV fx h hl.1 [0, 1] rfl rfl (tX5_isGuest l D cI cJ cZ cS tb a_t a_s a_keptS a_statuses a_pile a_tape a_steps a_wish a_mark a_bitsOf a_sizeOf a_number a_moved H.size v_isKept v_taped v_at v_fault v_laid v_open v_s x1 r8 k8 hg) mvX5_isGuest k_711 ⟨rfl, rfl⟩ ⟨Nat.le_of_ble_eq_true rfl, Nat.le_of_ble_eq_true rfl⟩ rfl rfl rfl rfl (Nat.le_of_ble_eq_true rfl) dX5_kind_2 ⟨Nat.le_of_ble_eq_true rfl, Nat.le_of_ble_eq_true rfl⟩) (fun H locs h => ?_)
  refine lv_if_ne (tgt := 15) hx hb dX5_kind_5 (by decide) (fun c9 => ?_) (fun c9 => ?_)
  · have hf := it_f c9 hf
    refine lv_aload_n hx hb dX5_kind_15 rfl (lv_at hl 0 rfl) ?_
    refine lv_iload_n hx hb dX5_kind_16 rfl (lv_at hl 1 rfl) ?_
    refine lv_iconst (v := 0) hx hb dX5_kind_17 (by decide) ?_
    obtain ⟨r10, k10, hg, hf⟩ := bR_inv hf
    refine q_ci (rest := []) (ws' := (wX5_kind cI cJ cZ cS a_t a_s a_keptS a_statuses a_pile a_tape a_steps a_wish a_mark a_bitsOf a_sizeOf a_number a_moved v_isKept v_taped v_at v_fault v_laid v_open v_s v_statuses v_pile v_wish)) (w1 := (wX5_its cI cJ cZ cS a_t a_s a_keptS a_statuses a_pile a_tape a_steps a_wish a_mark a_bitsOf a_sizeOf a_number a_moved v_isKept v_taped v_at v_fault v_laid v_open v_s)) fx h [0, 1] rfl rfl rfl rfl (q_runV fx h hl.1 [0, 1] rfl rfl (tX5_its l D cI cJ cZ cS tb a_t a_s a_keptS a_statuses a_pile a_tape a_steps a_wish a_mark a_bitsOf a_sizeOf a_number a_moved H.size v_isKept v_taped v_at v_fault v_laid v_open v_s x1 0 r10 k10 hg) mvX5_its k_725 ⟨rfl, rfl⟩ ⟨Nat.le_of_ble_eq_true rfl, Nat.le_of_ble_eq_true rfl⟩ rfl rfl rfl rfl (Nat.le_of_ble_eq_true rfl) dX5_kind_18 ⟨Nat.le_of_ble_eq_true rfl, Nat.le_of_ble_eq_true rfl⟩) (fun H locs h => ?_)
    refine lv_istore_n (lv' := [(2, .int r10), (0, .ref a_t), (1, .int x1)]) hx hb dX5_kind_21 rfl hl (by decide) rfl (fun ls hl => ?_)
    refine lv_iconst (v := -1) hx hb dX5_kind_22 (by decide) ?_
    refine lv_istore_n (lv' := [(3, .int (-1)), (2, .int r10), (0, .ref a_t), (1, .int x1)]) hx hb dX5_kind_23 rfl hl (by decide) rfl (fun ls hl => ?_)
    refine lv_iconst (v := -1) hx hb dX5_kind_24 (by decide) ?_
    refine lv_istore (lv' := [(4, .int (-1)), (3, .int (-1)), (2, .int r10), (0, .ref a_t), (1, .int x1)]) hx hb dX5_kind_25 hl (by decide) rfl (fun ls hl => ?_)
    refine lv_iconst (v := 0) hx hb dX5_kind_27 (by decide) ?_
    refine lv_istore (lv' := [(5, .int 0), (4, .int (-1)), (3, .int (-1)), (2, .int r10), (0, .ref a_t), (1, .int x1)]) hx hb dX5_kind_28 hl (by decide) rfl (fun ls hl => ?_)
    exact EX5_kind_30 fx qF h (lv_sub hl [4, 5, 3, 2, 1, 0] rfl) hf
  have hf := it_t c9 hf
  refine lv_aload_n hx hb dX5_kind_8 rfl (lv_at hl 0 rfl) ?_
  refine q_ldc fx k_701 dX5_kind_9 ?_
  obtain ⟨r11, k11, hg, hf⟩ := bR_inv hf
  refine q_ci (rest := []) (ws' := (wX5_kind cI cJ cZ cS a_t a_s a_keptS a_statuses a_pile a_tape a_steps a_wish a_mark a_bitsOf a_sizeOf a_number a_moved v_isKept v_taped v_at v_fault v_laid v_open v_s k11 v_pile v_wish)) (w1 := (wX5_finds cI cJ cZ cS a_t a_s a_keptS a_statuses a_pile a_tape a_steps a_wish a_mark a_bitsOf a_sizeOf a_number a_moved v_isKept v_taped v_at v_fault v_laid v_open k11)) fx h [0, 2] rfl rfl rfl rfl (q_runV fx h hl.1 [0, 2] rfl rfl (tX5_finds l D cI cJ cZ cS tb a_t a_s a_keptS a_statuses a_pile a_tape a_steps a_wish a_mark a_bitsOf a_sizeOf a_number a_moved H.size v_isKept v_taped v_at v_fault v_laid v_open v_statuses (-1000000001) r11 k11 hg) mvX5_finds k_702 ⟨rfl, rfl⟩ ⟨Nat.le_of_ble_eq_true rfl, Nat.le_of_ble_eq_true rfl⟩ rfl rfl rfl rfl (Nat.le_of_ble_eq_true rfl) dX5_kind_11 ⟨Nat.le_of_ble_eq_true rfl, Nat.le_of_ble_eq_true rfl⟩) (fun H locs h => ?_)
  exact q_reti (fun k : (Nat → Int32) × (Nat → Int32) × (Nat → Int32) × (Nat → Int32) => (wX5_kind cI cJ cZ cS a_t a_s a_keptS a_statuses a_pile a_tape a_steps a_wish a_mark a_bitsOf a_sizeOf a_number a_moved v_isKept v_taped v_at v_fault v_laid v_open k.1 k.2.1 k.2.2.1 k.2.2.2)) fx hf h dX5_kind_14
/-! X5_isOne -/
abbrev wX5_isOne (cI cJ cZ cS : ClassId) : va_W := []
abbrev rX5_isOne : Room := { frames := 1, cells := 0, slots := 0, locals := 25 }
def fX5_isOne (x0 : Int32) : Option (Int32 × Unit) :=
  bR (fX5_in (x0.toInt64) 0 3) (fun r1 k1 =>
  gB r1 (some (r1, ())))
set_option maxRecDepth 100000 in
set_option maxHeartbeats 4000000 in
theorem tX5_isOne (l : Launch) (D : va_G) (cI cJ cZ cS : ClassId) (tb : Nat) (sz : Nat) (x0 : Int32) (rr : Int32) (kk' : Unit) (hf : fX5_isOne x0 = some (rr, kk')) : Met l yX5_isOne (Cond.code yX5_isOne cX5_isOne 1 (some .boolean) :: wA) rX5_isOne (q_Pre D cI cJ cZ cS tb [.int x0] sz (wX5_isOne cI cJ cZ cS)) (q_Ri D rr (va_A (wX5_isOne cI cJ cZ cS) sz) ((fun k : Unit => (wX5_isOne cI cJ cZ cS)) kk')) 0 0 (va_A (wX5_isOne cI cJ cZ cS) sz) := by
  refine q_enter (Qf := fun A => (q_Ri D rr A ((fun k : Unit => (wX5_isOne cI cJ cZ cS)) kk'))) (by decide) rfl (Nat.le_of_ble_eq_true rfl) ?_
  intro p e s m below meth c A ls fx hname h hl
  have hx := fx.1
  have hb := fx.2.1
  have hl : lv_has ls 1 [(0, .int x0)] := hl
  generalize h9 : s.heap = H at h ⊢
  clear h9
  generalize h9 : ([] : List Loc) = locs at h ⊢
  clear h9
  unfold fX5_isOne at hf
  refine lv_iload_n hx hb dX5_isOne_0 rfl (lv_at hl 0 rfl) ?_
  refine lv_i2l hx hb dX5_isOne_1 rfl ?_
  refine lv_lconst (v := 0) hx hb dX5_isOne_2 (by decide) ?_
  refine q_ldc2 fx k_901 dX5_isOne_3 ?_
  obtain ⟨r1, k1, hg, hf⟩ := bR_inv hf
  refine q_ci (rest := []) (ws' := (wX5_isOne cI cJ cZ cS)) (w1 := (wX5_in cI cJ cZ cS)) fx h [] rfl rfl rfl rfl (q_runS fx h hl.1 [] rfl rfl (tX5_in l D cI cJ cZ cS tb H.size (x0.toInt64) 0 3 r1 k1 hg) msX5_in k_697 ⟨rfl, rfl⟩ ⟨Nat.le_of_ble_eq_true rfl, Nat.le_of_ble_eq_true rfl⟩ rfl rfl (Nat.le_of_ble_eq_true rfl) dX5_isOne_6 ⟨Nat.le_of_ble_eq_true rfl, Nat.le_of_ble_eq_true rfl⟩) (fun H locs h => ?_)
  obtain ⟨b2, hf⟩ := gB_inv hf
  exact q_retz (fun k : Unit => (wX5_isOne cI cJ cZ cS)) fx b2 hf h dX5_isOne_9
/-! X5_sheet -/
abbrev wX5_sheet (cI cJ cZ cS : ClassId) (a_t a_s a_keptS a_statuses a_pile a_tape a_steps a_wish a_mark a_bitsOf a_sizeOf a_number a_moved : Nat) (v_isKept : Int32) (v_taped : Int32) (v_at : Int32) (v_fault : Int32) (v_laid : Int32) (v_open : Int32) (v_statuses : Nat → Int32) (v_bitsOf : Nat → Int32) (v_sizeOf : Nat → Int32) (v_number : Nat → Int64) : va_W := [(a_t, .inr (5, [.ref a_s, .ref a_keptS, .ref a_statuses, .int v_isKept, .ref a_pile, .ref a_tape, .ref a_steps, .int v_taped, .int v_at, .int v_fault, .int v_laid, .int v_open, .ref a_wish, .ref a_mark, .ref a_bitsOf, .ref a_sizeOf, .ref a_number, .ref a_moved])), (a_statuses, .inl (cI, 7, .inl v_statuses)), (a_bitsOf, .inl (cI, 4, .inl v_bitsOf)), (a_sizeOf, .inl (cI, 4, .inl v_sizeOf)), (a_number, .inl (cJ, 160, .inr (.inl v_number)))]
abbrev rX5_sheet : Room := { frames := 2, cells := 0, slots := 0, locals := 45 }
def fX5_sheet_85 (ag85 : (Nat → Int32) → (Nat → Int32) → (Nat → Int32) → (Nat → Int64) → Int32 → Int32 → Option (Int32 × (Nat → Int32) × (Nat → Int32) × (Nat → Int32) × (Nat → Int64))) (v_statuses : Nat → Int32) (v_bitsOf : Nat → Int32) (v_sizeOf : Nat → Int32) (v_number : Nat → Int64) (y1 : Int32) (y4 : Int32) : Option (Int32 × (Nat → Int32) × (Nat → Int32) × (Nat → Int32) × (Nat → Int64)) :=
  (if (40 : Int32) ≤ y4 then (
  gIn y1 4 (
  some (v_sizeOf y1.toNatClampNeg, (v_statuses, v_bitsOf, v_sizeOf, v_number))))
  else (
  gIn ((40 * y1) + y4) 160 (
  nm (y4 + 1) (fun u4 =>
  ag85 v_statuses v_bitsOf v_sizeOf (vp_updL v_number ((40 * y1) + y4).toNatClampNeg 0) y1 u4))))
set_option maxRecDepth 100000 in
set_option maxHeartbeats 4000000 in
theorem LX5_sheet_85 {p : Program} {l : Launch} {e : Env} {s : State} {m : MethodId} {args : Array Value} {below : List Frame} {meth : Method} {c : Code} {D : va_G} {cI cJ cZ cS : ClassId} {tb : Nat} {A : Nat → Prop} {a_t a_s a_keptS a_statuses a_pile a_tape a_steps a_wish a_mark a_bitsOf a_sizeOf a_number a_moved : Nat} {v_isKept : Int32} {v_taped : Int32} {v_at : Int32} {v_fault : Int32} {v_laid : Int32} {v_open : Int32} {rr : Int32} {kk' : (Nat → Int32) × (Nat → Int32) × (Nat → Int32) × (Nat → Int64)} (fx : q_Fx p s m args meth c cX5_sheet 5 RX5 (some .int) D cI cJ cZ cS tb A) {ag85 : (Nat → Int32) → (Nat → Int32) → (Nat → Int32) → (Nat → Int64) → Int32 → Int32 → Option (Int32 × (Nat → Int32) × (Nat → Int32) × (Nat → Int32) × (Nat → Int64))} (hag85 : ∀ {v_statuses : Nat → Int32} {v_bitsOf : Nat → Int32} {v_sizeOf : Nat → Int32} {v_number : Nat → Int64} {y1 : Int32} {y4 : Int32} {H : Heap} {locs : List Loc} {ls : Array Slot}, q_H D A s (wX5_sheet cI cJ cZ cS a_t a_s a_keptS a_statuses a_pile a_tape a_steps a_wish a_mark a_bitsOf a_sizeOf a_number a_moved v_isKept v_taped v_at v_fault v_laid v_open v_statuses v_bitsOf v_sizeOf v_number) H locs → lv_has ls 5 [(0, .ref a_t), (1, .int y1), (4, .int y4)] → ag85 v_statuses v_bitsOf v_sizeOf v_number y1 y4 = some (rr, kk') → W p l e rX5_sheet s m args below meth c H locs 0 0 (MQ below (q_Ri D rr A ((fun k : (Nat → Int32) × (Nat → Int32) × (Nat → Int32) × (Nat → Int64) => (wX5_sheet cI cJ cZ cS a_t a_s a_keptS a_statuses a_pile a_tape a_steps a_wish a_mark a_bitsOf a_sizeOf a_number a_moved v_isKept v_taped v_at v_fault v_laid v_open k.1 k.2.1 k.2.2.1 k.2.2.2)) kk')) args s 0 0 A) (F0 m 85 ls [])) : ∀ {v_statuses : Nat → Int32} {v_bitsOf : Nat → Int32} {v_sizeOf : Nat → Int32} {v_number : Nat → Int64} {y1 : Int32} {y4 : Int32} {H : Heap} {locs : List Loc} {ls : Array Slot}, q_H D A s (wX5_sheet cI cJ cZ cS a_t a_s a_keptS a_statuses a_pile a_tape a_steps a_wish a_mark a_bitsOf a_sizeOf a_number a_moved v_isKept v_taped v_at v_fault v_laid v_open v_statuses v_bitsOf v_sizeOf v_number) H locs → lv_has ls 5 [(0, .ref a_t), (1, .int y1), (4, .int y4)] → fX5_sheet_85 ag85 v_statuses v_bitsOf v_sizeOf v_number y1 y4 = some (rr, kk') → W p l e rX5_sheet s m args below meth c H locs 0 0 (MQ below (q_Ri D rr A ((fun k : (Nat → Int32) × (Nat → Int32) × (Nat → Int32) × (Nat → Int64) => (wX5_sheet cI cJ cZ cS a_t a_s a_keptS a_statuses a_pile a_tape a_steps a_wish a_mark a_bitsOf a_sizeOf a_number a_moved v_isKept v_taped v_at v_fault v_laid v_open k.1 k.2.1 k.2.2.1 k.2.2.2)) kk')) args s 0 0 A) (F0 m 85 ls []) := by
  intro v_statuses v_bitsOf v_sizeOf v_number y1 y4 H locs ls h hl hf
  have hx := fx.1
  have hb := fx.2.1
  unfold fX5_sheet_85 at hf
  refine lv_iload hx hb dX5_sheet_85 (lv_at hl 2 rfl) ?_
  refine lv_bipush (v := 40) hx hb dX5_sheet_87 (by decide) ?_
  refine lv_icmp_ge (tgt := 111) hx hb dX5_sheet_89 (by decide) (fun c1 => ?_) (fun c1 => ?_)
  · have hf := it_t c1 hf
    refine lv_aload_n hx hb dX5_sheet_111 rfl (lv_at hl 0 rfl) ?_
    refine q_get (v := .ref a_sizeOf) fx inX5 h 0 rfl rfl 15 (by decide) k_651 rfl dX5_sheet_112 ?_
    refine lv_iload_n hx hb dX5_sheet_115 rfl (lv_at hl 1 rfl) ?_
    obtain ⟨i2, hf⟩ := gIn_inv hf
    refine q_iald fx h 3 rfl i2 dX5_sheet_116 ?_
    exact q_reti (fun k : (Nat → Int32) × (Nat → Int32) × (Nat → Int32) × (Nat → Int64) => (wX5_sheet cI cJ cZ cS a_t a_s a_keptS a_statuses a_pile a_tape a_steps a_wish a_mark a_bitsOf a_sizeOf a_number a_moved v_isKept v_taped v_at v_fault v_laid v_open k.1 k.2.1 k.2.2.1 k.2.2.2)) fx hf h dX5_sheet_117
  have hf := it_f c1 hf
  refine lv_aload_n hx hb dX5_sheet_92 rfl (lv_at hl 0 rfl) ?_
  refine q_get (v := .ref a_number) fx inX5 h 0 rfl rfl 16 (by decide) k_652 rfl dX5_sheet_93 ?_
  refine lv_bipush (v := 40) hx hb dX5_sheet_96 (by decide) ?_
  refine lv_iload_n hx hb dX5_sheet_98 rfl (lv_at hl 1 rfl) ?_
  refine lv_imul hx hb dX5_sheet_99 ?_
  refine lv_iload hx hb dX5_sheet_100 (lv_at hl 2 rfl) ?_
  refine lv_iadd hx hb dX5_sheet_102 ?_
  refine lv_lconst (v := 0) hx hb dX5_sheet_103 (by decide) ?_
  obtain ⟨i3, hf⟩ := gIn_inv hf
  refine q_last (ws' := (wX5_sheet cI cJ cZ cS a_t a_s a_keptS a_statuses a_pile a_tape a_steps a_wish a_mark a_bitsOf a_sizeOf a_number a_moved v_isKept v_taped v_at v_fault v_laid v_open v_statuses v_bitsOf v_sizeOf (vp_updL v_number ((40 * y1) + y4).toNatClampNeg 0))) fx h 4 rfl i3 rfl dX5_sheet_104 (fun H locs h => ?_)
  obtain ⟨u4, eu4, hf⟩ := nm_inv hf
  refine lv_iinc (v := u4) (lv' := [(4, .int u4), (0, .ref a_t), (1, .int y1)]) hx hb dX5_sheet_105 hl (k := 2) rfl (by rw [eu4]; rfl) (by decide) rfl (fun ls hl => ?_)
  refine lv_goto (tgt := 85) hx hb dX5_sheet_108 (by decide) ?_
  exact hag85 h (lv_sub hl [1, 2, 0] rfl) hf
set_option maxRecDepth 100000 in
theorem EX5_sheet_85 {p : Program} {l : Launch} {e : Env} {s : State} {m : MethodId} {args : Array Value} {below : List Frame} {meth : Method} {c : Code} {D : va_G} {cI cJ cZ cS : ClassId} {tb : Nat} {A : Nat → Prop} {a_t a_s a_keptS a_statuses a_pile a_tape a_steps a_wish a_mark a_bitsOf a_sizeOf a_number a_moved : Nat} {v_isKept : Int32} {v_taped : Int32} {v_at : Int32} {v_fault : Int32} {v_laid : Int32} {v_open : Int32} {rr : Int32} {kk' : (Nat → Int32) × (Nat → Int32) × (Nat → Int32) × (Nat → Int64)} (fx : q_Fx p s m args meth c cX5_sheet 5 RX5 (some .int) D cI cJ cZ cS tb A) : ∀ (n : Nat), ∀ {v_statuses : Nat → Int32} {v_bitsOf : Nat → Int32} {v_sizeOf : Nat → Int32} {v_number : Nat → Int64} {y1 : Int32} {y4 : Int32} {H : Heap} {locs : List Loc} {ls : Array Slot}, q_H D A s (wX5_sheet cI cJ cZ cS a_t a_s a_keptS a_statuses a_pile a_tape a_steps a_wish a_mark a_bitsOf a_sizeOf a_number a_moved v_isKept v_taped v_at v_fault v_laid v_open v_statuses v_bitsOf v_sizeOf v_number) H locs → lv_has ls 5 [(0, .ref a_t), (1, .int y1), (4, .int y4)] → ll6 (fX5_sheet_85 ) n v_statuses v_bitsOf v_sizeOf v_number y1 y4 = some (rr, kk') → W p l e rX5_sheet s m args below meth c H locs 0 0 (MQ below (q_Ri D rr A ((fun k : (Nat → Int32) × (Nat → Int32) × (Nat → Int32) × (Nat → Int64) => (wX5_sheet cI cJ cZ cS a_t a_s a_keptS a_statuses a_pile a_tape a_steps a_wish a_mark a_bitsOf a_sizeOf a_number a_moved v_isKept v_taped v_at v_fault v_laid v_open k.1 k.2.1 k.2.2.1 k.2.2.2)) kk')) args s 0 0 A) (F0 m 85 ls []) := by
  intro n
  induction n with
  | zero => intro v_statuses v_bitsOf v_sizeOf v_number y1 y4 H locs ls h hl hf; exact (ll6_z hf).elim
  | succ n ih => intro v_statuses v_bitsOf v_sizeOf v_number y1 y4 H locs ls h hl hf; exact LX5_sheet_85 fx ih h hl (ll6_s hf)
def fX5_sheet_81 (v_statuses : Nat → Int32) (v_bitsOf : Nat → Int32) (v_sizeOf : Nat → Int32) (v_number : Nat → Int64) (s1 : Int32) (s2 : Int32) (y1 : Int32) : Option (Int32 × (Nat → Int32) × (Nat → Int32) × (Nat → Int32) × (Nat → Int64)) :=
  gIn s1 4 (
  ll6 (fX5_sheet_85 ) qF v_statuses v_bitsOf (upd v_sizeOf s1.toNatClampNeg s2) v_number y1 0)
set_option maxRecDepth 100000 in
set_option maxHeartbeats 4000000 in
theorem LX5_sheet_81 {p : Program} {l : Launch} {e : Env} {s : State} {m : MethodId} {args : Array Value} {below : List Frame} {meth : Method} {c : Code} {D : va_G} {cI cJ cZ cS : ClassId} {tb : Nat} {A : Nat → Prop} {a_t a_s a_keptS a_statuses a_pile a_tape a_steps a_wish a_mark a_bitsOf a_sizeOf a_number a_moved : Nat} {v_isKept : Int32} {v_taped : Int32} {v_at : Int32} {v_fault : Int32} {v_laid : Int32} {v_open : Int32} {rr : Int32} {kk' : (Nat → Int32) × (Nat → Int32) × (Nat → Int32) × (Nat → Int64)} (fx : q_Fx p s m args meth c cX5_sheet 5 RX5 (some .int) D cI cJ cZ cS tb A) : ∀ {v_statuses : Nat → Int32} {v_bitsOf : Nat → Int32} {v_sizeOf : Nat → Int32} {v_number : Nat → Int64} {s1 : Int32} {s2 : Int32} {y1 : Int32} {H : Heap} {locs : List Loc} {ls : Array Slot}, q_H D A s (wX5_sheet cI cJ cZ cS a_t a_s a_keptS a_statuses a_pile a_tape a_steps a_wish a_mark a_bitsOf a_sizeOf a_number a_moved v_isKept v_taped v_at v_fault v_laid v_open v_statuses v_bitsOf v_sizeOf v_number) H locs → lv_has ls 5 [(0, .ref a_t), (1, .int y1)] → fX5_sheet_81 v_statuses v_bitsOf v_sizeOf v_number s1 s2 y1 = some (rr, kk') → W p l e rX5_sheet s m args below meth c H locs 0 0 (MQ below (q_Ri D rr A ((fun k : (Nat → Int32) × (Nat → Int32) × (Nat → Int32) × (Nat → Int64) => (wX5_sheet cI cJ cZ cS a_t a_s a_keptS a_statuses a_pile a_tape a_steps a_wish a_mark a_bitsOf a_sizeOf a_number a_moved v_isKept v_taped v_at v_fault v_laid v_open k.1 k.2.1 k.2.2.1 k.2.2.2)) kk')) args s 0 0 A) (F0 m 81 ls [.int s2, .int s1, .ref a_sizeOf]) := by
  intro v_statuses v_bitsOf v_sizeOf v_number s1 s2 y1 H locs ls h hl hf
  have hx := fx.1
  have hb := fx.2.1
  unfold fX5_sheet_81 at hf
  obtain ⟨i5, hf⟩ := gIn_inv hf
  refine q_iast (ws' := (wX5_sheet cI cJ cZ cS a_t a_s a_keptS a_statuses a_pile a_tape a_steps a_wish a_mark a_bitsOf a_sizeOf a_number a_moved v_isKept v_taped v_at v_fault v_laid v_open v_statuses v_bitsOf (upd v_sizeOf s1.toNatClampNeg s2) v_number)) fx h 3 rfl i5 rfl dX5_sheet_81 (fun H locs h => ?_)
  refine lv_iconst (v := 0) hx hb dX5_sheet_82 (by decide) ?_
  refine lv_istore (lv' := [(4, .int 0), (0, .ref a_t), (1, .int y1)]) hx hb dX5_sheet_83 hl (by decide) rfl (fun ls hl => ?_)
  exact EX5_sheet_85 fx qF h (lv_sub hl [1, 2, 0] rfl) hf
def fX5_sheet_36 (v_statuses : Nat → Int32) (v_bitsOf : Nat → Int32) (v_sizeOf : Nat → Int32) (v_number : Nat → Int64) (y1 : Int32) (y2 : Int32) (y3 : Int32) : Option (Int32 × (Nat → Int32) × (Nat → Int32) × (Nat → Int32) × (Nat → Int64)) :=
  (if (0 : Int32) ≤ y3 then (
  (if y3 ≤ 40 then (
  gIn y1 4 (
  (if y2 = 0 then (
  fX5_sheet_81  v_statuses (upd v_bitsOf y1.toNatClampNeg y2) v_sizeOf v_number y1 0 y1)
  else (
  fX5_sheet_81  v_statuses (upd v_bitsOf y1.toNatClampNeg y2) v_sizeOf v_number y1 y3 y1))))
  else (
  bR (fX5_finds v_statuses (-1000000001)) (fun r10 k10 =>
  some (r10, (k10, v_bitsOf, v_sizeOf, v_number))))))
  else (
  bR (fX5_finds v_statuses (-1000000007)) (fun r11 k11 =>
  some (r11, (k11, v_bitsOf, v_sizeOf, v_number)))))
set_option maxRecDepth 100000 in
set_option maxHeartbeats 4000000 in
theorem LX5_sheet_36 {p : Program} {l : Launch} {e : Env} {s : State} {m : MethodId} {args : Array Value} {below : List Frame} {meth : Method} {c : Code} {D : va_G} {cI cJ cZ cS : ClassId} {tb : Nat} {A : Nat → Prop} {a_t a_s a_keptS a_statuses a_pile a_tape a_steps a_wish a_mark a_bitsOf a_sizeOf a_number a_moved : Nat} {v_isKept : Int32} {v_taped : Int32} {v_at : Int32} {v_fault : Int32} {v_laid : Int32} {v_open : Int32} {rr : Int32} {kk' : (Nat → Int32) × (Nat → Int32) × (Nat → Int32) × (Nat → Int64)} (fx : q_Fx p s m args meth c cX5_sheet 5 RX5 (some .int) D cI cJ cZ cS tb A) : ∀ {v_statuses : Nat → Int32} {v_bitsOf : Nat → Int32} {v_sizeOf : Nat → Int32} {v_number : Nat → Int64} {y1 : Int32} {y2 : Int32} {y3 : Int32} {H : Heap} {locs : List Loc} {ls : Array Slot}, q_H D A s (wX5_sheet cI cJ cZ cS a_t a_s a_keptS a_statuses a_pile a_tape a_steps a_wish a_mark a_bitsOf a_sizeOf a_number a_moved v_isKept v_taped v_at v_fault v_laid v_open v_statuses v_bitsOf v_sizeOf v_number) H locs → lv_has ls 5 [(0, .ref a_t), (1, .int y1), (2, .int y2), (3, .int y3)] → fX5_sheet_36 v_statuses v_bitsOf v_sizeOf v_number y1 y2 y3 = some (rr, kk') → W p l e rX5_sheet s m args below meth c H locs 0 0 (MQ below (q_Ri D rr A ((fun k : (Nat → Int32) × (Nat → Int32) × (Nat → Int32) × (Nat → Int64) => (wX5_sheet cI cJ cZ cS a_t a_s a_keptS a_statuses a_pile a_tape a_steps a_wish a_mark a_bitsOf a_sizeOf a_number a_moved v_isKept v_taped v_at v_fault v_laid v_open k.1 k.2.1 k.2.2.1 k.2.2.2)) kk')) args s 0 0 A) (F0 m 36 ls []) := by
  intro v_statuses v_bitsOf v_sizeOf v_number y1 y2 y3 H locs ls h hl hf
  have hx := fx.1
  have hb := fx.2.1
  unfold fX5_sheet_36 at hf
  refine lv_iload_n hx hb dX5_sheet_36 rfl (lv_at hl 3 rfl) ?_
  refine lv_if_ge (tgt := 47) hx hb dX5_sheet_37 (by decide) (fun c6 => ?_) (fun c6 => ?_)
  · have hf := it_t c6 hf
    refine lv_iload_n hx hb dX5_sheet_47 rfl (lv_at hl 3 rfl) ?_
    refine lv_bipush (v := 40) hx hb dX5_sheet_48 (by decide) ?_
    refine lv_icmp_le (tgt := 60) hx hb dX5_sheet_50 (by decide) (fun c7 => ?_) (fun c7 => ?_)
    · have hf := it_t c7 hf
      refine lv_aload_n hx hb dX5_sheet_60 rfl (lv_at hl 0 rfl) ?_
      refine q_get (v := .ref a_bitsOf) fx inX5 h 0 rfl rfl 14 (by decide) k_650 rfl dX5_sheet_61 ?_
      refine lv_iload_n hx hb dX5_sheet_64 rfl (lv_at hl 1 rfl) ?_
      refine lv_iload_n hx hb dX5_sheet_65 rfl (lv_at hl 2 rfl) ?_
      obtain ⟨i8, hf⟩ := gIn_inv hf
      refine q_iast (ws' := (wX5_sheet cI cJ cZ cS a_t a_s a_keptS a_statuses a_pile a_tape a_steps a_wish a_mark a_bitsOf a_sizeOf a_number a_moved v_isKept v_taped v_at v_fault v_laid v_open v_statuses (upd v_bitsOf y1.toNatClampNeg y2) v_sizeOf v_number)) fx h 2 rfl i8 rfl dX5_sheet_66 (fun H locs h => ?_)
      refine lv_aload_n hx hb dX5_sheet_67 rfl (lv_at hl 0 rfl) ?_
      refine q_get (v := .ref a_sizeOf) fx inX5 h 0 rfl rfl 15 (by decide) k_651 rfl dX5_sheet_68 ?_
      refine lv_iload_n hx hb dX5_sheet_71 rfl (lv_at hl 1 rfl) ?_
      refine lv_iload_n hx hb dX5_sheet_72 rfl (lv_at hl 2 rfl) ?_
      refine lv_if_ne (tgt := 80) hx hb dX5_sheet_73 (by decide) (fun c9 => ?_) (fun c9 => ?_)
      · have hf := it_f c9 hf
        refine lv_iload_n hx hb dX5_sheet_80 rfl (lv_at hl 3 rfl) ?_
        exact LX5_sheet_81 fx h (lv_sub hl [0, 1] rfl) hf
      have hf := it_t c9 hf
      refine lv_iconst (v := 0) hx hb dX5_sheet_76 (by decide) ?_
      refine lv_goto (tgt := 81) hx hb dX5_sheet_77 (by decide) ?_
      exact LX5_sheet_81 fx h (lv_sub hl [0, 1] rfl) hf
    have hf := it_f c7 hf
    refine lv_aload_n hx hb dX5_sheet_53 rfl (lv_at hl 0 rfl) ?_
    refine q_ldc fx k_701 dX5_sheet_54 ?_
    obtain ⟨r10, k10, hg, hf⟩ := bR_inv hf
    refine q_ci (rest := []) (ws' := (wX5_sheet cI cJ cZ cS a_t a_s a_keptS a_statuses a_pile a_tape a_steps a_wish a_mark a_bitsOf a_sizeOf a_number a_moved v_isKept v_taped v_at v_fault v_laid v_open k10 v_bitsOf v_sizeOf v_number)) (w1 := (wX5_finds cI cJ cZ cS a_t a_s a_keptS a_statuses a_pile a_tape a_steps a_wish a_mark a_bitsOf a_sizeOf a_number a_moved v_isKept v_taped v_at v_fault v_laid v_open k10)) fx h [0, 1] rfl rfl rfl rfl (q_runV fx h hl.1 [0, 1] rfl rfl (tX5_finds l D cI cJ cZ cS tb a_t a_s a_keptS a_statuses a_pile a_tape a_steps a_wish a_mark a_bitsOf a_sizeOf a_number a_moved H.size v_isKept v_taped v_at v_fault v_laid v_open v_statuses (-1000000001) r10 k10 hg) mvX5_finds k_702 ⟨rfl, rfl⟩ ⟨Nat.le_of_ble_eq_true rfl, Nat.le_of_ble_eq_true rfl⟩ rfl rfl rfl rfl (Nat.le_of_ble_eq_true rfl) dX5_sheet_56 ⟨Nat.le_of_ble_eq_true rfl, Nat.le_of_ble_eq_true rfl⟩) (fun H locs h => ?_)
    exact q_reti (fun k : (Nat → Int32) × (Nat → Int32) × (Nat → Int32) × (Nat → Int64) => (wX5_sheet cI cJ cZ cS a_t a_s a_keptS a_statuses a_pile a_tape a_steps a_wish a_mark a_bitsOf a_sizeOf a_number a_moved v_isKept v_taped v_at v_fault v_laid v_open k.1 k.2.1 k.2.2.1 k.2.2.2)) fx hf h dX5_sheet_59
  have hf := it_f c6 hf
  refine lv_aload_n hx hb dX5_sheet_40 rfl (lv_at hl 0 rfl) ?_
  refine q_ldc fx k_962 dX5_sheet_41 ?_
  obtain ⟨r11, k11, hg, hf⟩ := bR_inv hf
  refine q_ci (rest := []) (ws' := (wX5_sheet cI cJ cZ cS a_t a_s a_keptS a_statuses a_pile a_tape a_steps a_wish a_mark a_bitsOf a_sizeOf a_number a_moved v_isKept v_taped v_at v_fault v_laid v_open k11 v_bitsOf v_sizeOf v_number)) (w1 := (wX5_finds cI cJ cZ cS a_t a_s a_keptS a_statuses a_pile a_tape a_steps a_wish a_mark a_bitsOf a_sizeOf a_number a_moved v_isKept v_taped v_at v_fault v_laid v_open k11)) fx h [0, 1] rfl rfl rfl rfl (q_runV fx h hl.1 [0, 1] rfl rfl (tX5_finds l D cI cJ cZ cS tb a_t a_s a_keptS a_statuses a_pile a_tape a_steps a_wish a_mark a_bitsOf a_sizeOf a_number a_moved H.size v_isKept v_taped v_at v_fault v_laid v_open v_statuses (-1000000007) r11 k11 hg) mvX5_finds k_702 ⟨rfl, rfl⟩ ⟨Nat.le_of_ble_eq_true rfl, Nat.le_of_ble_eq_true rfl⟩ rfl rfl rfl rfl (Nat.le_of_ble_eq_true rfl) dX5_sheet_43 ⟨Nat.le_of_ble_eq_true rfl, Nat.le_of_ble_eq_true rfl⟩) (fun H locs h => ?_)
  exact q_reti (fun k : (Nat → Int32) × (Nat → Int32) × (Nat → Int32) × (Nat → Int64) => (wX5_sheet cI cJ cZ cS a_t a_s a_keptS a_statuses a_pile a_tape a_steps a_wish a_mark a_bitsOf a_sizeOf a_number a_moved v_isKept v_taped v_at v_fault v_laid v_open k.1 k.2.1 k.2.2.1 k.2.2.2)) fx hf h dX5_sheet_46
def fX5_sheet_29 (v_statuses : Nat → Int32) (v_bitsOf : Nat → Int32) (v_sizeOf : Nat → Int32) (v_number : Nat → Int64) : Option (Int32 × (Nat → Int32) × (Nat → Int32) × (Nat → Int32) × (Nat → Int64)) :=
  bR (fX5_finds v_statuses (-1000000001)) (fun r12 k12 =>
  some (r12, (k12, v_bitsOf, v_sizeOf, v_number)))
set_option maxRecDepth 100000 in
set_option maxHeartbeats 4000000 in
theorem LX5_sheet_29 {p : Program} {l : Launch} {e : Env} {s : State} {m : MethodId} {args : Array Value} {below : List Frame} {meth : Method} {c : Code} {D : va_G} {cI cJ cZ cS : ClassId} {tb : Nat} {A : Nat → Prop} {a_t a_s a_keptS a_statuses a_pile a_tape a_steps a_wish a_mark a_bitsOf a_sizeOf a_number a_moved : Nat} {v_isKept : Int32} {v_taped : Int32} {v_at : Int32} {v_fault : Int32} {v_laid : Int32} {v_open : Int32} {rr : Int32} {kk' : (Nat → Int32) × (Nat → Int32) × (Nat → Int32) × (Nat → Int64)} (fx : q_Fx p s m args meth c cX5_sheet 5 RX5 (some .int) D cI cJ cZ cS tb A) : ∀ {v_statuses : Nat → Int32} {v_bitsOf : Nat → Int32} {v_sizeOf : Nat → Int32} {v_number : Nat → Int64} {H : Heap} {locs : List Loc} {ls : Array Slot}, q_H D A s (wX5_sheet cI cJ cZ cS a_t a_s a_keptS a_statuses a_pile a_tape a_steps a_wish a_mark a_bitsOf a_sizeOf a_number a_moved v_isKept v_taped v_at v_fault v_laid v_open v_statuses v_bitsOf v_sizeOf v_number) H locs → lv_has ls 5 [(0, .ref a_t)] → fX5_sheet_29 v_statuses v_bitsOf v_sizeOf v_number = some (rr, kk') → W p l e rX5_sheet s m args below meth c H locs 0 0 (MQ below (q_Ri D rr A ((fun k : (Nat → Int32) × (Nat → Int32) × (Nat → Int32) × (Nat → Int64) => (wX5_sheet cI cJ cZ cS a_t a_s a_keptS a_statuses a_pile a_tape a_steps a_wish a_mark a_bitsOf a_sizeOf a_number a_moved v_isKept v_taped v_at v_fault v_laid v_open k.1 k.2.1 k.2.2.1 k.2.2.2)) kk')) args s 0 0 A) (F0 m 29 ls []) := by
  intro v_statuses v_bitsOf v_sizeOf v_number H locs ls h hl hf
  have hx := fx.1
  have hb := fx.2.1
  unfold fX5_sheet_29 at hf
  refine lv_aload_n hx hb dX5_sheet_29 rfl (lv_at hl 0 rfl) ?_
  refine q_ldc fx k_701 dX5_sheet_30 ?_
  obtain ⟨r12, k12, hg, hf⟩ := bR_inv hf
  refine q_ci (rest := []) (ws' := (wX5_sheet cI cJ cZ cS a_t a_s a_keptS a_statuses a_pile a_tape a_steps a_wish a_mark a_bitsOf a_sizeOf a_number a_moved v_isKept v_taped v_at v_fault v_laid v_open k12 v_bitsOf v_sizeOf v_number)) (w1 := (wX5_finds cI cJ cZ cS a_t a_s a_keptS a_statuses a_pile a_tape a_steps a_wish a_mark a_bitsOf a_sizeOf a_number a_moved v_isKept v_taped v_at v_fault v_laid v_open k12)) fx h [0, 1] rfl rfl rfl rfl (q_runV fx h hl.1 [0, 1] rfl rfl (tX5_finds l D cI cJ cZ cS tb a_t a_s a_keptS a_statuses a_pile a_tape a_steps a_wish a_mark a_bitsOf a_sizeOf a_number a_moved H.size v_isKept v_taped v_at v_fault v_laid v_open v_statuses (-1000000001) r12 k12 hg) mvX5_finds k_702 ⟨rfl, rfl⟩ ⟨Nat.le_of_ble_eq_true rfl, Nat.le_of_ble_eq_true rfl⟩ rfl rfl rfl rfl (Nat.le_of_ble_eq_true rfl) dX5_sheet_32 ⟨Nat.le_of_ble_eq_true rfl, Nat.le_of_ble_eq_true rfl⟩) (fun H locs h => ?_)
  exact q_reti (fun k : (Nat → Int32) × (Nat → Int32) × (Nat → Int32) × (Nat → Int64) => (wX5_sheet cI cJ cZ cS a_t a_s a_keptS a_statuses a_pile a_tape a_steps a_wish a_mark a_bitsOf a_sizeOf a_number a_moved v_isKept v_taped v_at v_fault v_laid v_open k.1 k.2.1 k.2.2.1 k.2.2.2)) fx hf h dX5_sheet_35
def fX5_sheet (v_statuses : Nat → Int32) (v_bitsOf : Nat → Int32) (v_sizeOf : Nat → Int32) (v_number : Nat → Int64) (x1 : Int32) (x2 : Int32) (x3 : Int32) : Option (Int32 × (Nat → Int32) × (Nat → Int32) × (Nat → Int32) × (Nat → Int64)) :=
  bR (fX5_isOne x1) (fun r13 k13 =>
  (if r13 = 0 then (
  fX5_sheet_29  v_statuses v_bitsOf v_sizeOf v_number)
  else (
  (if x2 = 0 then (
  fX5_sheet_36  v_statuses v_bitsOf v_sizeOf v_number x1 x2 x3)
  else (
  (if x2 = 8 then (
  fX5_sheet_36  v_statuses v_bitsOf v_sizeOf v_number x1 x2 x3)
  else (
  (if x2 = 16 then (
  fX5_sheet_36  v_statuses v_bitsOf v_sizeOf v_number x1 x2 x3)
  else (
  (if x2 = 64 then (
  fX5_sheet_36  v_statuses v_bitsOf v_sizeOf v_number x1 x2 x3)
  else (
  fX5_sheet_29  v_statuses v_bitsOf v_sizeOf v_number)))))))))))
set_option maxRecDepth 100000 in
set_option maxHeartbeats 4000000 in
theorem tX5_sheet (l : Launch) (D : va_G) (cI cJ cZ cS : ClassId) (tb : Nat) (a_t a_s a_keptS a_statuses a_pile a_tape a_steps a_wish a_mark a_bitsOf a_sizeOf a_number a_moved : Nat) (sz : Nat) (v_isKept : Int32) (v_taped : Int32) (v_at : Int32) (v_fault : Int32) (v_laid : Int32) (v_open : Int32) (v_statuses : Nat → Int32) (v_bitsOf : Nat → Int32) (v_sizeOf : Nat → Int32) (v_number : Nat → Int64) (x1 : Int32) (x2 : Int32) (x3 : Int32) (rr : Int32) (kk' : (Nat → Int32) × (Nat → Int32) × (Nat → Int32) × (Nat → Int64)) (hf : fX5_sheet v_statuses v_bitsOf v_sizeOf v_number x1 x2 x3 = some (rr, kk')) : Met l yX5_sheet (Cond.code yX5_sheet cX5_sheet 5 (some .int) :: wA) rX5_sheet (q_Pre D cI cJ cZ cS tb [.ref a_t, .int x1, .int x2, .int x3] sz (wX5_sheet cI cJ cZ cS a_t a_s a_keptS a_statuses a_pile a_tape a_steps a_wish a_mark a_bitsOf a_sizeOf a_number a_moved v_isKept v_taped v_at v_fault v_laid v_open v_statuses v_bitsOf v_sizeOf v_number)) (q_Ri D rr (va_A (wX5_sheet cI cJ cZ cS a_t a_s a_keptS a_statuses a_pile a_tape a_steps a_wish a_mark a_bitsOf a_sizeOf a_number a_moved v_isKept v_taped v_at v_fault v_laid v_open v_statuses v_bitsOf v_sizeOf v_number) sz) ((fun k : (Nat → Int32) × (Nat → Int32) × (Nat → Int32) × (Nat → Int64) => (wX5_sheet cI cJ cZ cS a_t a_s a_keptS a_statuses a_pile a_tape a_steps a_wish a_mark a_bitsOf a_sizeOf a_number a_moved v_isKept v_taped v_at v_fault v_laid v_open k.1 k.2.1 k.2.2.1 k.2.2.2)) kk')) 0 0 (va_A (wX5_sheet cI cJ cZ cS a_t a_s a_keptS a_statuses a_pile a_tape a_steps a_wish a_mark a_bitsOf a_sizeOf a_number a_moved v_isKept v_taped v_at v_fault v_laid v_open v_statuses v_bitsOf v_sizeOf v_number) sz) := by
  refine q_enter (Qf := fun A => (q_Ri D rr A ((fun k : (Nat → Int32) × (Nat → Int32) × (Nat → Int32) × (Nat → Int64) => (wX5_sheet cI cJ cZ cS a_t a_s a_keptS a_statuses a_pile a_tape a_steps a_wish a_mark a_bitsOf a_sizeOf a_number a_moved v_isKept v_taped v_at v_fault v_laid v_open k.1 k.2.1 k.2.2.1 k.2.2.2)) kk'))) (by decide) rfl (Nat.le_of_ble_eq_true rfl) ?_
  intro p e s m below meth c A ls fx hname h hl
  have hx := fx.1
  have hb := fx.2.1
  have hl : lv_has ls 5 [(0, .ref a_t), (1, .int x1), (2, .int x2), (3, .int x3)] := hl
  generalize h9 : s.heap = H at h ⊢
  clear h9
  generalize h9 : ([] : List Loc) = locs at h ⊢
  clear h9
  unfold fX5_sheet at hf
  refine lv_iload_n hx hb dX5_sheet_0 rfl (lv_at hl 1 rfl) ?_
  obtain ⟨r13, k13, hg, hf⟩ := bR_inv hf
  refine q_ci (rest := []) (ws' := (wX5_sheet cI cJ cZ cS a_t a_s a_keptS a_statuses a_pile a_tape a_steps a_wish a_mark a_bitsOf a_sizeOf a_number a_moved v_isKept v_taped v_at v_fault v_laid v_open v_statuses v_bitsOf v_sizeOf v_number)) (w1 := (wX5_isOne cI cJ cZ cS)) fx h [] rfl rfl rfl rfl (q_runS fx h hl.1 [] rfl rfl (tX5_isOne l D cI cJ cZ cS tb H.size x1 r13 k13 hg) msX5_isOne k_959 ⟨rfl, rfl⟩ ⟨Nat.le_of_ble_eq_true rfl, Nat.le_of_ble_eq_true rfl⟩ rfl rfl (Nat.le_of_ble_eq_true rfl) dX5_sheet_1 ⟨Nat.le_of_ble_eq_true rfl, Nat.le_of_ble_eq_true rfl⟩) (fun H locs h => ?_)
  refine lv_if_eq (tgt := 29) hx hb dX5_sheet_4 (by decide) (fun c14 => ?_) (fun c14 => ?_)
  · have hf := it_t c14 hf
    exact LX5_sheet_29 fx h (lv_sub hl [0] rfl) hf
  have hf := it_f c14 hf
  refine lv_iload_n hx hb dX5_sheet_7 rfl (lv_at hl 2 rfl) ?_
  refine lv_if_eq (tgt := 36) hx hb dX5_sheet_8 (by decide) (fun c15 => ?_) (fun c15 => ?_)
  · have hf := it_t c15 hf
    exact LX5_sheet_36 fx h (lv_sub hl [0, 1, 2, 3] rfl) hf
  have hf := it_f c15 hf
  refine lv_iload_n hx hb dX5_sheet_11 rfl (lv_at hl 2 rfl) ?_
  refine lv_bipush (v := 8) hx hb dX5_sheet_12 (by decide) ?_
  refine lv_icmp_eq (tgt := 36) hx hb dX5_sheet_14 (by decide) (fun c16 => ?_) (fun c16 => ?_)
  · have hf := it_t c16 hf
    exact LX5_sheet_36 fx h (lv_sub hl [0, 1, 2, 3] rfl) hf
  have hf := it_f c16 hf
  refine lv_iload_n hx hb dX5_sheet_17 rfl (lv_at hl 2 rfl) ?_
  refine lv_bipush (v := 16) hx hb dX5_sheet_18 (by decide) ?_
  refine lv_icmp_eq (tgt := 36) hx hb dX5_sheet_20 (by decide) (fun c17 => ?_) (fun c17 => ?_)
  · have hf := it_t c17 hf
    exact LX5_sheet_36 fx h (lv_sub hl [0, 1, 2, 3] rfl) hf
  have hf := it_f c17 hf
  refine lv_iload_n hx hb dX5_sheet_23 rfl (lv_at hl 2 rfl) ?_
  refine lv_bipush (v := 64) hx hb dX5_sheet_24 (by decide) ?_
  refine lv_icmp_eq (tgt := 36) hx hb dX5_sheet_26 (by decide) (fun c18 => ?_) (fun c18 => ?_)
  · have hf := it_t c18 hf
    exact LX5_sheet_36 fx h (lv_sub hl [0, 1, 2, 3] rfl) hf
  have hf := it_f c18 hf
  exact LX5_sheet_29 fx h (lv_sub hl [0] rfl) hf
/-! X5_narrowed -/
abbrev wX5_narrowed (cI cJ cZ cS : ClassId) : va_W := []
abbrev rX5_narrowed : Room := { frames := 0, cells := 0, slots := 0, locals := 0 }
def fX5_narrowed (x0 : Int32) (x1 : Int64) : Option (Int64 × Unit) :=
  (if x0 = 8 then (
  some (((x1.toInt32).toInt8.toInt32).toInt64, ()))
  else (
  (if x0 = 16 then (
  some (((x1.toInt32).toInt16.toInt32).toInt64, ()))
  else (
  some (x1, ())))))
set_option maxRecDepth 100000 in
set_option maxHeartbeats 4000000 in
theorem tX5_narrowed (l : Launch) (D : va_G) (cI cJ cZ cS : ClassId) (tb : Nat) (sz : Nat) (x0 : Int32) (x1 : Int64) (rr : Int64) (kk' : Unit) (hf : fX5_narrowed x0 x1 = some (rr, kk')) : Met l yX5_narrowed (Cond.code yX5_narrowed cX5_narrowed 3 (some .long) :: wA) rX5_narrowed (q_Pre D cI cJ cZ cS tb [.int x0, .long x1] sz (wX5_narrowed cI cJ cZ cS)) (q_Rl D rr (va_A (wX5_narrowed cI cJ cZ cS) sz) ((fun k : Unit => (wX5_narrowed cI cJ cZ cS)) kk')) 0 0 (va_A (wX5_narrowed cI cJ cZ cS) sz) := by
  refine q_enter (Qf := fun A => (q_Rl D rr A ((fun k : Unit => (wX5_narrowed cI cJ cZ cS)) kk'))) (by decide) rfl (Nat.le_of_ble_eq_true rfl) ?_
  intro p e s m below meth c A ls fx hname h hl
  have hx := fx.1
  have hb := fx.2.1
  have hl : lv_has ls 3 [(0, .int x0), (1, .long x1)] := hl
  generalize h9 : s.heap = H at h ⊢
  clear h9
  generalize h9 : ([] : List Loc) = locs at h ⊢
  clear h9
  unfold fX5_narrowed at hf
  refine lv_iload_n hx hb dX5_narrowed_0 rfl (lv_at hl 0 rfl) ?_
  refine lv_bipush (v := 8) hx hb dX5_narrowed_1 (by decide) ?_
  refine lv_icmp_ne (tgt := 13) hx hb dX5_narrowed_3 (by decide) (fun c1 => ?_) (fun c1 => ?_)
  · have hf := it_f c1 hf
    refine lv_iload_n hx hb dX5_narrowed_13 rfl (lv_at hl 0 rfl) ?_
    refine lv_bipush (v := 16) hx hb dX5_narrowed_14 (by decide) ?_
    refine lv_icmp_ne (tgt := 26) hx hb dX5_narrowed_16 (by decide) (fun c2 => ?_) (fun c2 => ?_)
    · have hf := it_f c2 hf
      refine lv_lload_n hx hb dX5_narrowed_26 rfl (lv_at hl 1 rfl) ?_
      exact q_retl (fun k : Unit => (wX5_narrowed cI cJ cZ cS)) fx hf h dX5_narrowed_27
    have hf := it_t c2 hf
    refine lv_lload_n hx hb dX5_narrowed_19 rfl (lv_at hl 1 rfl) ?_
    refine lv_l2i hx hb dX5_narrowed_20 rfl ?_
    refine lv_i2s hx hb dX5_narrowed_21 rfl ?_
    refine lv_i2l hx hb dX5_narrowed_22 rfl ?_
    refine lv_goto (tgt := 27) hx hb dX5_narrowed_23 (by decide) ?_
    exact q_retl (fun k : Unit => (wX5_narrowed cI cJ cZ cS)) fx hf h dX5_narrowed_27
  have hf := it_t c1 hf
  refine lv_lload_n hx hb dX5_narrowed_6 rfl (lv_at hl 1 rfl) ?_
  refine lv_l2i hx hb dX5_narrowed_7 rfl ?_
  refine lv_i2b hx hb dX5_narrowed_8 rfl ?_
  refine lv_i2l hx hb dX5_narrowed_9 rfl ?_
  refine lv_goto (tgt := 27) hx hb dX5_narrowed_10 (by decide) ?_
  exact q_retl (fun k : Unit => (wX5_narrowed cI cJ cZ cS)) fx hf h dX5_narrowed_27
/-! X5_wrong -/
abbrev wX5_wrong (cI cJ cZ cS : ClassId) (a_t a_s a_keptS a_statuses a_pile a_tape a_steps a_wish a_mark a_bitsOf a_sizeOf a_number a_moved : Nat) (v_isKept : Int32) (v_taped : Int32) (v_at : Int32) (v_fault : Int32) (v_laid : Int32) (v_open : Int32) (v_bitsOf : Nat → Int32) : va_W := [(a_t, .inr (5, [.ref a_s, .ref a_keptS, .ref a_statuses, .int v_isKept, .ref a_pile, .ref a_tape, .ref a_steps, .int v_taped, .int v_at, .int v_fault, .int v_laid, .int v_open, .ref a_wish, .ref a_mark, .ref a_bitsOf, .ref a_sizeOf, .ref a_number, .ref a_moved])), (a_bitsOf, .inl (cI, 4, .inl v_bitsOf))]
abbrev rX5_wrong : Room := { frames := 2, cells := 0, slots := 0, locals := 45 }
def fX5_wrong (v_bitsOf : Nat → Int32) (x1 : Int32) : Option (Int32 × Unit) :=
  bR (fX5_isOne x1) (fun r1 k1 =>
  (if r1 = 0 then (
  some ((-1000000001), ()))
  else (
  gIn x1 4 (
  (if (v_bitsOf x1.toNatClampNeg) = 0 then (
  some ((-1000000006), ()))
  else (
  some (0, ())))))))
set_option maxRecDepth 100000 in
set_option maxHeartbeats 4000000 in
theorem tX5_wrong (l : Launch) (D : va_G) (cI cJ cZ cS : ClassId) (tb : Nat) (a_t a_s a_keptS a_statuses a_pile a_tape a_steps a_wish a_mark a_bitsOf a_sizeOf a_number a_moved : Nat) (sz : Nat) (v_isKept : Int32) (v_taped : Int32) (v_at : Int32) (v_fault : Int32) (v_laid : Int32) (v_open : Int32) (v_bitsOf : Nat → Int32) (x1 : Int32) (rr : Int32) (kk' : Unit) (hf : fX5_wrong v_bitsOf x1 = some (rr, kk')) : Met l yX5_wrong (Cond.code yX5_wrong cX5_wrong 2 (some .int) :: wA) rX5_wrong (q_Pre D cI cJ cZ cS tb [.ref a_t, .int x1] sz (wX5_wrong cI cJ cZ cS a_t a_s a_keptS a_statuses a_pile a_tape a_steps a_wish a_mark a_bitsOf a_sizeOf a_number a_moved v_isKept v_taped v_at v_fault v_laid v_open v_bitsOf)) (q_Ri D rr (va_A (wX5_wrong cI cJ cZ cS a_t a_s a_keptS a_statuses a_pile a_tape a_steps a_wish a_mark a_bitsOf a_sizeOf a_number a_moved v_isKept v_taped v_at v_fault v_laid v_open v_bitsOf) sz) ((fun k : Unit => (wX5_wrong cI cJ cZ cS a_t a_s a_keptS a_statuses a_pile a_tape a_steps a_wish a_mark a_bitsOf a_sizeOf a_number a_moved v_isKept v_taped v_at v_fault v_laid v_open v_bitsOf)) kk')) 0 0 (va_A (wX5_wrong cI cJ cZ cS a_t a_s a_keptS a_statuses a_pile a_tape a_steps a_wish a_mark a_bitsOf a_sizeOf a_number a_moved v_isKept v_taped v_at v_fault v_laid v_open v_bitsOf) sz) := by
  refine q_enter (Qf := fun A => (q_Ri D rr A ((fun k : Unit => (wX5_wrong cI cJ cZ cS a_t a_s a_keptS a_statuses a_pile a_tape a_steps a_wish a_mark a_bitsOf a_sizeOf a_number a_moved v_isKept v_taped v_at v_fault v_laid v_open v_bitsOf)) kk'))) (by decide) rfl (Nat.le_of_ble_eq_true rfl) ?_
  intro p e s m below meth c A ls fx hname h hl
  have hx := fx.1
  have hb := fx.2.1
  have hl : lv_has ls 2 [(0, .ref a_t), (1, .int x1)] := hl
  generalize h9 : s.heap = H at h ⊢
  clear h9
  generalize h9 : ([] : List Loc) = locs at h ⊢
  clear h9
  unfold fX5_wrong at hf
  refine lv_iload_n hx hb dX5_wrong_0 rfl (lv_at hl 1 rfl) ?_
  obtain ⟨r1, k1, hg, hf⟩ := bR_inv hf
  refine q_ci (rest := []) (ws' := (wX5_wrong cI cJ cZ cS a_t a_s a_keptS a_statuses a_pile a_tape a_steps a_wish a_mark a_bitsOf a_sizeOf a_number a_moved v_isKept v_taped v_at v_fault v_laid v_open v_bitsOf)) (w1 := (wX5_isOne cI cJ cZ cS)) fx h [] rfl rfl rfl rfl (q_runS fx h hl.1 [] rfl rfl (tX5_isOne l D cI cJ cZ cS tb H.size x1 r1 k1 hg) msX5_isOne k_959 ⟨rfl, rfl⟩ ⟨Nat.le_of_ble_eq_true rfl, Nat.le_of_ble_eq_true rfl⟩ rfl rfl (Nat.le_of_ble_eq_true rfl) dX5_wrong_1 ⟨Nat.le_of_ble_eq_true rfl, Nat.le_of_ble_eq_true rfl⟩) (fun H locs h => ?_)
  refine lv_if_ne (tgt := 12) hx hb dX5_wrong_4 (by decide) (fun c2 => ?_) (fun c2 => ?_)
  · have hf := it_f c2 hf
    refine lv_aload_n hx hb dX5_wrong_12 rfl (lv_at hl 0 rfl) ?_
    refine q_get (v := .ref a_bitsOf) fx inX5 h 0 rfl rfl 14 (by decide) k_650 rfl dX5_wrong_13 ?_
    refine lv_iload_n hx hb dX5_wrong_16 rfl (lv_at hl 1 rfl) ?_
    obtain ⟨i3, hf⟩ := gIn_inv hf
    refine q_iald fx h 1 rfl i3 dX5_wrong_17 ?_
    refine lv_if_ne (tgt := 26) hx hb dX5_wrong_18 (by decide) (fun c4 => ?_) (fun c4 => ?_)
    · have hf := it_f c4 hf
      refine lv_iconst (v := 0) hx hb dX5_wrong_26 (by decide) ?_
      exact q_reti (fun k : Unit => (wX5_wrong cI cJ cZ cS a_t a_s a_keptS a_statuses a_pile a_tape a_steps a_wish a_mark a_bitsOf a_sizeOf a_number a_moved v_isKept v_taped v_at v_fault v_laid v_open v_bitsOf)) fx hf h dX5_wrong_27
    have hf := it_t c4 hf
    refine q_ldc fx k_971 dX5_wrong_21 ?_
    refine lv_goto (tgt := 27) hx hb dX5_wrong_23 (by decide) ?_
    exact q_reti (fun k : Unit => (wX5_wrong cI cJ cZ cS a_t a_s a_keptS a_statuses a_pile a_tape a_steps a_wish a_mark a_bitsOf a_sizeOf a_number a_moved v_isKept v_taped v_at v_fault v_laid v_open v_bitsOf)) fx hf h dX5_wrong_27
  have hf := it_t c2 hf
  refine q_ldc fx k_701 dX5_wrong_7 ?_
  refine lv_goto (tgt := 27) hx hb dX5_wrong_9 (by decide) ?_
  exact q_reti (fun k : Unit => (wX5_wrong cI cJ cZ cS a_t a_s a_keptS a_statuses a_pile a_tape a_steps a_wish a_mark a_bitsOf a_sizeOf a_number a_moved v_isKept v_taped v_at v_fault v_laid v_open v_bitsOf)) fx hf h dX5_wrong_27
