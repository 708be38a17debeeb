/-! X5_bestBuy -/
abbrev wX5_bestBuy (cI cJ cZ cS : ClassId) (a_t a_s a_keptS a_statuses a_pile a_tape a_steps a_wish a_mark a_bitsOf a_sizeOf a_number a_moved : Nat) (v_isKept : Int32) (v_taped : Int32) (v_at : Int32) (v_fault : Int32) (v_laid : Int32) (v_open : Int32) (v_s : Nat → Int32) (v_pile : Nat → Int32) (v_wish : Nat → Int32) : va_W := [(a_t, .inr (5, [.ref a_s, .ref a_keptS, .ref a_statuses, .int v_isKept, .ref a_pile, .ref a_tape, .ref a_steps, .int v_taped, .int v_at, .int v_fault, .int v_laid, .int v_open, .ref a_wish, .ref a_mark, .ref a_bitsOf, .ref a_sizeOf, .ref a_number, .ref a_moved])), (a_s, .inl (cI, 538, .inl v_s)), (a_pile, .inl (cZ, 64, .inl v_pile)), (a_wish, .inl (cI, 256, .inl v_wish))]
abbrev rX5_bestBuy : Room := { frames := 6, cells := 0, slots := 0, locals := 137 }
def fX5_bestBuy_79 (v_s : Nat → Int32) (ag8 : (Nat → Int32) → (Nat → Int32) → Int32 → Int32 → Int32 → Option (Int32 × (Nat → Int32) × (Nat → Int32))) (v_pile : Nat → Int32) (v_wish : Nat → Int32) (y1 : Int32) (y2 : Int32) (y3 : Int32) : Option (Int32 × (Nat → Int32) × (Nat → Int32)) :=
  nm (y3 + 1) (fun u1 =>
  ag8 v_pile v_wish y1 y2 u1)
set_option maxRecDepth 100000 in
set_option maxHeartbeats 4000000 in
theorem LX5_bestBuy_79 {p : Program} {l : Launch} {e : Env} {s : State} {m : MethodId} {args : Array Value} {below : List Frame} {meth : Method} {c : Code} {D : va_G} {cI cJ cZ cS : ClassId} {tb : Nat} {A : Nat → Prop} {a_t a_s a_keptS a_statuses a_pile a_tape a_steps a_wish a_mark a_bitsOf a_sizeOf a_number a_moved : Nat} {v_isKept : Int32} {v_taped : Int32} {v_at : Int32} {v_fault : Int32} {v_laid : Int32} {v_open : Int32} {v_s : Nat → Int32} {rr : Int32} {kk' : (Nat → Int32) × (Nat → Int32)} (fx : q_Fx p s m args meth c cX5_bestBuy 5 RX5 (some .int) D cI cJ cZ cS tb A) {ag8 : (Nat → Int32) → (Nat → Int32) → Int32 → Int32 → Int32 → Option (Int32 × (Nat → Int32) × (Nat → Int32))} (hag8 : ∀ {v_pile : Nat → Int32} {v_wish : Nat → Int32} {y1 : Int32} {y2 : Int32} {y3 : Int32} {H : Heap} {locs : List Loc} {ls : Array Slot}, q_H D A s (wX5_bestBuy cI cJ cZ cS a_t a_s a_keptS a_statuses a_pile a_tape a_steps a_wish a_mark a_bitsOf a_sizeOf a_number a_moved v_isKept v_taped v_at v_fault v_laid v_open v_s v_pile v_wish) H locs → lv_has ls 5 [(0, .ref a_t), (1, .int y1), (2, .int y2), (3, .int y3)] → ag8 v_pile v_wish y1 y2 y3 = some (rr, kk') → W p l e rX5_bestBuy s m args below meth c H locs 0 0 (MQ below (q_Ri D rr A ((fun k : (Nat → Int32) × (Nat → Int32) => (wX5_bestBuy cI cJ cZ cS a_t a_s a_keptS a_statuses a_pile a_tape a_steps a_wish a_mark a_bitsOf a_sizeOf a_number a_moved v_isKept v_taped v_at v_fault v_laid v_open v_s k.1 k.2)) kk')) args s 0 0 A) (F0 m 8 ls [])) : ∀ {v_pile : Nat → Int32} {v_wish : Nat → Int32} {y1 : Int32} {y2 : Int32} {y3 : Int32} {H : Heap} {locs : List Loc} {ls : Array Slot}, q_H D A s (wX5_bestBuy cI cJ cZ cS a_t a_s a_keptS a_statuses a_pile a_tape a_steps a_wish a_mark a_bitsOf a_sizeOf a_number a_moved v_isKept v_taped v_at v_fault v_laid v_open v_s v_pile v_wish) H locs → lv_has ls 5 [(0, .ref a_t), (1, .int y1), (2, .int y2), (3, .int y3)] → fX5_bestBuy_79 v_s ag8 v_pile v_wish y1 y2 y3 = some (rr, kk') → W p l e rX5_bestBuy s m args below meth c H locs 0 0 (MQ below (q_Ri D rr A ((fun k : (Nat → Int32) × (Nat → Int32) => (wX5_bestBuy cI cJ cZ cS a_t a_s a_keptS a_statuses a_pile a_tape a_steps a_wish a_mark a_bitsOf a_sizeOf a_number a_moved v_isKept v_taped v_at v_fault v_laid v_open v_s k.1 k.2)) kk')) args s 0 0 A) (F0 m 79 ls []) := by
  intro v_pile v_wish y1 y2 y3 H locs ls h hl hf
  have hx := fx.1
  have hb := fx.2.1
  unfold fX5_bestBuy_79 at hf
  obtain ⟨u1, eu1, hf⟩ := nm_inv hf
  refine lv_iinc (v := u1) (lv' := [(3, .int u1), (0, .ref a_t), (1, .int y1), (2, .int y2)]) hx hb dX5_bestBuy_79 hl (k := 3) rfl (by rw [eu1]; rfl) (by decide) rfl (fun ls hl => ?_)
  refine lv_goto (tgt := 8) hx hb dX5_bestBuy_82 (by decide) ?_
  exact hag8 h (lv_sub hl [1, 2, 3, 0] rfl) hf
def fX5_bestBuy_78 (v_s : Nat → Int32) (ag8 : (Nat → Int32) → (Nat → Int32) → Int32 → Int32 → Int32 → Option (Int32 × (Nat → Int32) × (Nat → Int32))) (v_pile : Nat → Int32) (v_wish : Nat → Int32) (s0 : Int32) (y1 : Int32) (y3 : Int32) : Option (Int32 × (Nat → Int32) × (Nat → Int32)) :=
  fX5_bestBuy_79 v_s ag8 v_pile v_wish y1 s0 y3
set_option maxRecDepth 100000 in
set_option maxHeartbeats 4000000 in
theorem LX5_bestBuy_78 {p : Program} {l : Launch} {e : Env} {s : State} {m : MethodId} {args : Array Value} {below : List Frame} {meth : Method} {c : Code} {D : va_G} {cI cJ cZ cS : ClassId} {tb : Nat} {A : Nat → Prop} {a_t a_s a_keptS a_statuses a_pile a_tape a_steps a_wish a_mark a_bitsOf a_sizeOf a_number a_moved : Nat} {v_isKept : Int32} {v_taped : Int32} {v_at : Int32} {v_fault : Int32} {v_laid : Int32} {v_open : Int32} {v_s : Nat → Int32} {rr : Int32} {kk' : (Nat → Int32) × (Nat → Int32)} (fx : q_Fx p s m args meth c cX5_bestBuy 5 RX5 (some .int) D cI cJ cZ cS tb A) {ag8 : (Nat → Int32) → (Nat → Int32) → Int32 → Int32 → Int32 → Option (Int32 × (Nat → Int32) × (Nat → Int32))} (hag8 : ∀ {v_pile : Nat → Int32} {v_wish : Nat → Int32} {y1 : Int32} {y2 : Int32} {y3 : Int32} {H : Heap} {locs : List Loc} {ls : Array Slot}, q_H D A s (wX5_bestBuy cI cJ cZ cS a_t a_s a_keptS a_statuses a_pile a_tape a_steps a_wish a_mark a_bitsOf a_sizeOf a_number a_moved v_isKept v_taped v_at v_fault v_laid v_open v_s v_pile v_wish) H locs → lv_has ls 5 [(0, .ref a_t), (1, .int y1), (2, .int y2), (3, .int y3)] → ag8 v_pile v_wish y1 y2 y3 = some (rr, kk') → W p l e rX5_bestBuy s m args below meth c H locs 0 0 (MQ below (q_Ri D rr A ((fun k : (Nat → Int32) × (Nat → Int32) => (wX5_bestBuy cI cJ cZ cS a_t a_s a_keptS a_statuses a_pile a_tape a_steps a_wish a_mark a_bitsOf a_sizeOf a_number a_moved v_isKept v_taped v_at v_fault v_laid v_open v_s k.1 k.2)) kk')) args s 0 0 A) (F0 m 8 ls [])) : ∀ {v_pile : Nat → Int32} {v_wish : Nat → Int32} {s0 : Int32} {y1 : Int32} {y3 : Int32} {H : Heap} {locs : List Loc} {ls : Array Slot}, q_H D A s (wX5_bestBuy cI cJ cZ cS a_t a_s a_keptS a_statuses a_pile a_tape a_steps a_wish a_mark a_bitsOf a_sizeOf a_number a_moved v_isKept v_taped v_at v_fault v_laid v_open v_s v_pile v_wish) H locs → lv_has ls 5 [(0, .ref a_t), (1, .int y1), (3, .int y3)] → fX5_bestBuy_78 v_s ag8 v_pile v_wish s0 y1 y3 = some (rr, kk') → W p l e rX5_bestBuy s m args below meth c H locs 0 0 (MQ below (q_Ri D rr A ((fun k : (Nat → Int32) × (Nat → Int32) => (wX5_bestBuy cI cJ cZ cS a_t a_s a_keptS a_statuses a_pile a_tape a_steps a_wish a_mark a_bitsOf a_sizeOf a_number a_moved v_isKept v_taped v_at v_fault v_laid v_open v_s k.1 k.2)) kk')) args s 0 0 A) (F0 m 78 ls [.int s0]) := by
  intro v_pile v_wish s0 y1 y3 H locs ls h hl hf
  have hx := fx.1
  have hb := fx.2.1
  unfold fX5_bestBuy_78 at hf
  refine lv_istore_n (lv' := [(2, .int s0), (0, .ref a_t), (1, .int y1), (3, .int y3)]) hx hb dX5_bestBuy_78 rfl hl (by decide) rfl (fun ls hl => ?_)
  exact LX5_bestBuy_79 fx hag8 h (lv_sub hl [1, 2, 0, 3] rfl) hf
def fX5_bestBuy_77 (v_s : Nat → Int32) (ag8 : (Nat → Int32) → (Nat → Int32) → Int32 → Int32 → Int32 → Option (Int32 × (Nat → Int32) × (Nat → Int32))) (v_pile : Nat → Int32) (v_wish : Nat → Int32) (y1 : Int32) (y2 : Int32) (y3 : Int32) : Option (Int32 × (Nat → Int32) × (Nat → Int32)) :=
  fX5_bestBuy_78 v_s ag8 v_pile v_wish y2 y1 y3
set_option maxRecDepth 100000 in
set_option maxHeartbeats 4000000 in
theorem LX5_bestBuy_77 {p : Program} {l : Launch} {e : Env} {s : State} {m : MethodId} {args : Array Value} {below : List Frame} {meth : Method} {c : Code} {D : va_G} {cI cJ cZ cS : ClassId} {tb : Nat} {A : Nat → Prop} {a_t a_s a_keptS a_statuses a_pile a_tape a_steps a_wish a_mark a_bitsOf a_sizeOf a_number a_moved : Nat} {v_isKept : Int32} {v_taped : Int32} {v_at : Int32} {v_fault : Int32} {v_laid : Int32} {v_open : Int32} {v_s : Nat → Int32} {rr : Int32} {kk' : (Nat → Int32) × (Nat → Int32)} (fx : q_Fx p s m args meth c cX5_bestBuy 5 RX5 (some .int) D cI cJ cZ cS tb A) {ag8 : (Nat → Int32) → (Nat → Int32) → Int32 → Int32 → Int32 → Option (Int32 × (Nat → Int32) × (Nat → Int32))} (hag8 : ∀ {v_pile : Nat → Int32} {v_wish : Nat → Int32} {y1 : Int32} {y2 : Int32} {y3 : Int32} {H : Heap} {locs : List Loc} {ls : Array Slot}, q_H D A s (wX5_bestBuy cI cJ cZ cS a_t a_s a_keptS a_statuses a_pile a_tape a_steps a_wish a_mark a_bitsOf a_sizeOf a_number a_moved v_isKept v_taped v_at v_fault v_laid v_open v_s v_pile v_wish) H locs → lv_has ls 5 [(0, .ref a_t), (1, .int y1), (2, .int y2), (3, .int y3)] → ag8 v_pile v_wish y1 y2 y3 = some (rr, kk') → W p l e rX5_bestBuy s m args below meth c H locs 0 0 (MQ below (q_Ri D rr A ((fun k : (Nat → Int32) × (Nat → Int32) => (wX5_bestBuy cI cJ cZ cS a_t a_s a_keptS a_statuses a_pile a_tape a_steps a_wish a_mark a_bitsOf a_sizeOf a_number a_moved v_isKept v_taped v_at v_fault v_laid v_open v_s k.1 k.2)) kk')) args s 0 0 A) (F0 m 8 ls [])) : ∀ {v_pile : Nat → Int32} {v_wish : Nat → Int32} {y1 : Int32} {y2 : Int32} {y3 : Int32} {H : Heap} {locs : List Loc} {ls : Array Slot}, q_H D A s (wX5_bestBuy cI cJ cZ cS a_t a_s a_keptS a_statuses a_pile a_tape a_steps a_wish a_mark a_bitsOf a_sizeOf a_number a_moved v_isKept v_taped v_at v_fault v_laid v_open v_s v_pile v_wish) H locs → lv_has ls 5 [(0, .ref a_t), (1, .int y1), (2, .int y2), (3, .int y3)] → fX5_bestBuy_77 v_s ag8 v_pile v_wish y1 y2 y3 = some (rr, kk') → W p l e rX5_bestBuy s m args below meth c H locs 0 0 (MQ below (q_Ri D rr A ((fun k : (Nat → Int32) × (Nat → Int32) => (wX5_bestBuy cI cJ cZ cS a_t a_s a_keptS a_statuses a_pile a_tape a_steps a_wish a_mark a_bitsOf a_sizeOf a_number a_moved v_isKept v_taped v_at v_fault v_laid v_open v_s k.1 k.2)) kk')) args s 0 0 A) (F0 m 77 ls []) := by
  intro v_pile v_wish y1 y2 y3 H locs ls h hl hf
  have hx := fx.1
  have hb := fx.2.1
  unfold fX5_bestBuy_77 at hf
  refine lv_iload_n hx hb dX5_bestBuy_77 rfl (lv_at hl 2 rfl) ?_
  exact LX5_bestBuy_78 fx hag8 h (lv_sub hl [0, 1, 3] rfl) hf
def fX5_bestBuy_73 (v_s : Nat → Int32) (ag8 : (Nat → Int32) → (Nat → Int32) → Int32 → Int32 → Int32 → Option (Int32 × (Nat → Int32) × (Nat → Int32))) (v_pile : Nat → Int32) (v_wish : Nat → Int32) (y1 : Int32) (y3 : Int32) : Option (Int32 × (Nat → Int32) × (Nat → Int32)) :=
  fX5_bestBuy_78 v_s ag8 v_pile v_wish y3 y1 y3
set_option maxRecDepth 100000 in
set_option maxHeartbeats 4000000 in
theorem LX5_bestBuy_73 {p : Program} {l : Launch} {e : Env} {s : State} {m : MethodId} {args : Array Value} {below : List Frame} {meth : Method} {c : Code} {D : va_G} {cI cJ cZ cS : ClassId} {tb : Nat} {A : Nat → Prop} {a_t a_s a_keptS a_statuses a_pile a_tape a_steps a_wish a_mark a_bitsOf a_sizeOf a_number a_moved : Nat} {v_isKept : Int32} {v_taped : Int32} {v_at : Int32} {v_fault : Int32} {v_laid : Int32} {v_open : Int32} {v_s : Nat → Int32} {rr : Int32} {kk' : (Nat → Int32) × (Nat → Int32)} (fx : q_Fx p s m args meth c cX5_bestBuy 5 RX5 (some .int) D cI cJ cZ cS tb A) {ag8 : (Nat → Int32) → (Nat → Int32) → Int32 → Int32 → Int32 → Option (Int32 × (Nat → Int32) × (Nat → Int32))} (hag8 : ∀ {v_pile : Nat → Int32} {v_wish : Nat → Int32} {y1 : Int32} {y2 : Int32} {y3 : Int32} {H : Heap} {locs : List Loc} {ls : Array Slot}, q_H D A s (wX5_bestBuy cI cJ cZ cS a_t a_s a_keptS a_statuses a_pile a_tape a_steps a_wish a_mark a_bitsOf a_sizeOf a_number a_moved v_isKept v_taped v_at v_fault v_laid v_open v_s v_pile v_wish) H locs → lv_has ls 5 [(0, .ref a_t), (1, .int y1), (2, .int y2), (3, .int y3)] → ag8 v_pile v_wish y1 y2 y3 = some (rr, kk') → W p l e rX5_bestBuy s m args below meth c H locs 0 0 (MQ below (q_Ri D rr A ((fun k : (Nat → Int32) × (Nat → Int32) => (wX5_bestBuy cI cJ cZ cS a_t a_s a_keptS a_statuses a_pile a_tape a_steps a_wish a_mark a_bitsOf a_sizeOf a_number a_moved v_isKept v_taped v_at v_fault v_laid v_open v_s k.1 k.2)) kk')) args s 0 0 A) (F0 m 8 ls [])) : ∀ {v_pile : Nat → Int32} {v_wish : Nat → Int32} {y1 : Int32} {y3 : Int32} {H : Heap} {locs : List Loc} {ls : Array Slot}, q_H D A s (wX5_bestBuy cI cJ cZ cS a_t a_s a_keptS a_statuses a_pile a_tape a_steps a_wish a_mark a_bitsOf a_sizeOf a_number a_moved v_isKept v_taped v_at v_fault v_laid v_open v_s v_pile v_wish) H locs → lv_has ls 5 [(0, .ref a_t), (1, .int y1), (3, .int y3)] → fX5_bestBuy_73 v_s ag8 v_pile v_wish y1 y3 = some (rr, kk') → W p l e rX5_bestBuy s m args below meth c H locs 0 0 (MQ below (q_Ri D rr A ((fun k : (Nat → Int32) × (Nat → Int32) => (wX5_bestBuy cI cJ cZ cS a_t a_s a_keptS a_statuses a_pile a_tape a_steps a_wish a_mark a_bitsOf a_sizeOf a_number a_moved v_isKept v_taped v_at v_fault v_laid v_open v_s k.1 k.2)) kk')) args s 0 0 A) (F0 m 73 ls []) := by
  intro v_pile v_wish y1 y3 H locs ls h hl hf
  have hx := fx.1
  have hb := fx.2.1
  unfold fX5_bestBuy_73 at hf
  refine lv_iload_n hx hb dX5_bestBuy_73 rfl (lv_at hl 2 rfl) ?_
  refine lv_goto (tgt := 78) hx hb dX5_bestBuy_74 (by decide) ?_
  exact LX5_bestBuy_78 fx hag8 h (lv_sub hl [0, 1, 2] rfl) hf
def fX5_bestBuy_50 (v_s : Nat → Int32) (ag8 : (Nat → Int32) → (Nat → Int32) → Int32 → Int32 → Int32 → Option (Int32 × (Nat → Int32) × (Nat → Int32))) (v_pile : Nat → Int32) (v_wish : Nat → Int32) (s0 : Int32) (y1 : Int32) (y2 : Int32) (y3 : Int32) : Option (Int32 × (Nat → Int32) × (Nat → Int32)) :=
  (if s0 < 0 then (
  fX5_bestBuy_73 v_s ag8 v_pile v_wish y1 y3)
  else (
  (if s0 = 0 then (
  bR (fX5_ones y3) (fun r4 k4 =>
  bR (fX5_ones y2) (fun r5 k5 =>
  (if r5 ≤ r4 then (
  fX5_bestBuy_77 v_s ag8 v_pile v_wish y1 y2 y3)
  else (
  fX5_bestBuy_73 v_s ag8 v_pile v_wish y1 y3)))))
  else (
  fX5_bestBuy_77 v_s ag8 v_pile v_wish y1 y2 y3))))
set_option maxRecDepth 100000 in
set_option maxHeartbeats 4000000 in
theorem LX5_bestBuy_50 {p : Program} {l : Launch} {e : Env} {s : State} {m : MethodId} {args : Array Value} {below : List Frame} {meth : Method} {c : Code} {D : va_G} {cI cJ cZ cS : ClassId} {tb : Nat} {A : Nat → Prop} {a_t a_s a_keptS a_statuses a_pile a_tape a_steps a_wish a_mark a_bitsOf a_sizeOf a_number a_moved : Nat} {v_isKept : Int32} {v_taped : Int32} {v_at : Int32} {v_fault : Int32} {v_laid : Int32} {v_open : Int32} {v_s : Nat → Int32} {rr : Int32} {kk' : (Nat → Int32) × (Nat → Int32)} (fx : q_Fx p s m args meth c cX5_bestBuy 5 RX5 (some .int) D cI cJ cZ cS tb A) {ag8 : (Nat → Int32) → (Nat → Int32) → Int32 → Int32 → Int32 → Option (Int32 × (Nat → Int32) × (Nat → Int32))} (hag8 : ∀ {v_pile : Nat → Int32} {v_wish : Nat → Int32} {y1 : Int32} {y2 : Int32} {y3 : Int32} {H : Heap} {locs : List Loc} {ls : Array Slot}, q_H D A s (wX5_bestBuy cI cJ cZ cS a_t a_s a_keptS a_statuses a_pile a_tape a_steps a_wish a_mark a_bitsOf a_sizeOf a_number a_moved v_isKept v_taped v_at v_fault v_laid v_open v_s v_pile v_wish) H locs → lv_has ls 5 [(0, .ref a_t), (1, .int y1), (2, .int y2), (3, .int y3)] → ag8 v_pile v_wish y1 y2 y3 = some (rr, kk') → W p l e rX5_bestBuy s m args below meth c H locs 0 0 (MQ below (q_Ri D rr A ((fun k : (Nat → Int32) × (Nat → Int32) => (wX5_bestBuy cI cJ cZ cS a_t a_s a_keptS a_statuses a_pile a_tape a_steps a_wish a_mark a_bitsOf a_sizeOf a_number a_moved v_isKept v_taped v_at v_fault v_laid v_open v_s k.1 k.2)) kk')) args s 0 0 A) (F0 m 8 ls [])) : ∀ {v_pile : Nat → Int32} {v_wish : Nat → Int32} {s0 : Int32} {y1 : Int32} {y2 : Int32} {y3 : Int32} {H : Heap} {locs : List Loc} {ls : Array Slot}, q_H D A s (wX5_bestBuy cI cJ cZ cS a_t a_s a_keptS a_statuses a_pile a_tape a_steps a_wish a_mark a_bitsOf a_sizeOf a_number a_moved v_isKept v_taped v_at v_fault v_laid v_open v_s v_pile v_wish) H locs → lv_has ls 5 [(0, .ref a_t), (1, .int y1), (2, .int y2), (3, .int y3)] → fX5_bestBuy_50 v_s ag8 v_pile v_wish s0 y1 y2 y3 = some (rr, kk') → W p l e rX5_bestBuy s m args below meth c H locs 0 0 (MQ below (q_Ri D rr A ((fun k : (Nat → Int32) × (Nat → Int32) => (wX5_bestBuy cI cJ cZ cS a_t a_s a_keptS a_statuses a_pile a_tape a_steps a_wish a_mark a_bitsOf a_sizeOf a_number a_moved v_isKept v_taped v_at v_fault v_laid v_open v_s k.1 k.2)) kk')) args s 0 0 A) (F0 m 50 ls [.int s0]) := by
  intro v_pile v_wish s0 y1 y2 y3 H locs ls h hl hf
  have hx := fx.1
  have hb := fx.2.1
  unfold fX5_bestBuy_50 at hf
  refine lv_istore (lv' := [(4, .int s0), (0, .ref a_t), (1, .int y1), (2, .int y2), (3, .int y3)]) hx hb dX5_bestBuy_50 hl (by decide) rfl (fun ls hl => ?_)
  refine lv_iload hx hb dX5_bestBuy_52 (lv_at hl 0 rfl) ?_
  refine lv_if_lt (tgt := 73) hx hb dX5_bestBuy_54 (by decide) (fun c2 => ?_) (fun c2 => ?_)
  · have hf := it_t c2 hf
    exact LX5_bestBuy_73 fx hag8 h (lv_sub hl [1, 2, 4] rfl) hf
  have hf := it_f c2 hf
  refine lv_iload hx hb dX5_bestBuy_57 (lv_at hl 0 rfl) ?_
  refine lv_if_ne (tgt := 77) hx hb dX5_bestBuy_59 (by decide) (fun c3 => ?_) (fun c3 => ?_)
  · have hf := it_f c3 hf
    exact LX5_bestBuy_77 fx hag8 h (lv_sub hl [1, 2, 3, 4] rfl) hf
  have hf := it_t c3 hf
  refine lv_iload_n hx hb dX5_bestBuy_62 rfl (lv_at hl 4 rfl) ?_
  obtain ⟨r4, k4, hg, hf⟩ := bR_inv hf
  refine q_ci (rest := []) (ws' := (wX5_bestBuy cI cJ cZ cS a_t a_s a_keptS a_statuses a_pile a_tape a_steps a_wish a_mark a_bitsOf a_sizeOf a_number a_moved v_isKept v_taped v_at v_fault v_laid v_open v_s v_pile v_wish)) (w1 := (wX5_ones cI cJ cZ cS)) fx h [] rfl rfl rfl rfl (q_runS fx h hl.1 [] rfl rfl (tX5_ones l D cI cJ cZ cS tb H.size y3 r4 k4 hg) msX5_ones k_722 ⟨rfl, rfl⟩ ⟨Nat.le_of_ble_eq_true rfl, Nat.le_of_ble_eq_true rfl⟩ rfl rfl (Nat.le_of_ble_eq_true rfl) dX5_bestBuy_63 ⟨Nat.le_of_ble_eq_true rfl, Nat.le_of_ble_eq_true rfl⟩) (fun H locs h => ?_)
  refine lv_iload_n hx hb dX5_bestBuy_66 rfl (lv_at hl 3 rfl) ?_
  obtain ⟨r5, k5, hg, hf⟩ := bR_inv hf
  refine q_ci (rest := [.int r4]) (ws' := (wX5_bestBuy cI cJ cZ cS a_t a_s a_keptS a_statuses a_pile a_tape a_steps a_wish a_mark a_bitsOf a_sizeOf a_number a_moved v_isKept v_taped v_at v_fault v_laid v_open v_s v_pile v_wish)) (w1 := (wX5_ones cI cJ cZ cS)) fx h [] rfl rfl rfl rfl (q_runS fx h hl.1 [] rfl rfl (tX5_ones l D cI cJ cZ cS tb H.size y2 r5 k5 hg) msX5_ones k_722 ⟨rfl, rfl⟩ ⟨Nat.le_of_ble_eq_true rfl, Nat.le_of_ble_eq_true rfl⟩ rfl rfl (Nat.le_of_ble_eq_true rfl) dX5_bestBuy_67 ⟨Nat.le_of_ble_eq_true rfl, Nat.le_of_ble_eq_true rfl⟩) (fun H locs h => ?_)
  refine lv_icmp_ge (tgt := 77) hx hb dX5_bestBuy_70 (by decide) (fun c6 => ?_) (fun c6 => ?_)
  · have hf := it_t c6 hf
    exact LX5_bestBuy_77 fx hag8 h (lv_sub hl [1, 2, 3, 4] rfl) hf
  have hf := it_f c6 hf
  exact LX5_bestBuy_73 fx hag8 h (lv_sub hl [1, 2, 4] rfl) hf
def fX5_bestBuy_8 (v_s : Nat → Int32) (ag8 : (Nat → Int32) → (Nat → Int32) → Int32 → Int32 → Int32 → Option (Int32 × (Nat → Int32) × (Nat → Int32))) (v_pile : Nat → Int32) (v_wish : Nat → Int32) (y1 : Int32) (y2 : Int32) (y3 : Int32) : Option (Int32 × (Nat → Int32) × (Nat → Int32)) :=
  bR (fX5_lists v_s) (fun r7 k7 =>
  (if r7 ≤ y3 then (
  some (y2, (v_pile, v_wish)))
  else (
  bR (fX5_lastOf v_wish y3 255) (fun r9 k9 =>
  bR (fX5_ones r9) (fun r10 k10 =>
  (if r10 < y1 then (
  fX5_bestBuy_79 v_s ag8 v_pile v_wish y1 y2 y3)
  else (
  (if (0 : Int32) ≤ y2 then (
  bR (fX5_costOf v_s y3) (fun r13 k13 =>
  bR (fX5_costOf v_s y2) (fun r14 k14 =>
  fX5_bestBuy_50 v_s ag8 v_pile v_wish (r13 - r14) y1 y2 y3)))
  else (
  fX5_bestBuy_50 v_s ag8 v_pile v_wish (-1) y1 y2 y3)))))))))
set_option maxRecDepth 100000 in
set_option maxHeartbeats 4000000 in
theorem LX5_bestBuy_8 {p : Program} {l : Launch} {e : Env} {s : State} {m : MethodId} {args : Array Value} {below : List Frame} {meth : Method} {c : Code} {D : va_G} {cI cJ cZ cS : ClassId} {tb : Nat} {A : Nat → Prop} {a_t a_s a_keptS a_statuses a_pile a_tape a_steps a_wish a_mark a_bitsOf a_sizeOf a_number a_moved : Nat} {v_isKept : Int32} {v_taped : Int32} {v_at : Int32} {v_fault : Int32} {v_laid : Int32} {v_open : Int32} {v_s : Nat → Int32} {rr : Int32} {kk' : (Nat → Int32) × (Nat → Int32)} (fx : q_Fx p s m args meth c cX5_bestBuy 5 RX5 (some .int) D cI cJ cZ cS tb A) {ag8 : (Nat → Int32) → (Nat → Int32) → Int32 → Int32 → Int32 → Option (Int32 × (Nat → Int32) × (Nat → Int32))} (hag8 : ∀ {v_pile : Nat → Int32} {v_wish : Nat → Int32} {y1 : Int32} {y2 : Int32} {y3 : Int32} {H : Heap} {locs : List Loc} {ls : Array Slot}, q_H D A s (wX5_bestBuy cI cJ cZ cS a_t a_s a_keptS a_statuses a_pile a_tape a_steps a_wish a_mark a_bitsOf a_sizeOf a_number a_moved v_isKept v_taped v_at v_fault v_laid v_open v_s v_pile v_wish) H locs → lv_has ls 5 [(0, .ref a_t), (1, .int y1), (2, .int y2), (3, .int y3)] → ag8 v_pile v_wish y1 y2 y3 = some (rr, kk') → W p l e rX5_bestBuy s m args below meth c H locs 0 0 (MQ below (q_Ri D rr A ((fun k : (Nat → Int32) × (Nat → Int32) => (wX5_bestBuy cI cJ cZ cS a_t a_s a_keptS a_statuses a_pile a_tape a_steps a_wish a_mark a_bitsOf a_sizeOf a_number a_moved v_isKept v_taped v_at v_fault v_laid v_open v_s k.1 k.2)) kk')) args s 0 0 A) (F0 m 8 ls [])) : ∀ {v_pile : Nat → Int32} {v_wish : Nat → Int32} {y1 : Int32} {y2 : Int32} {y3 : Int32} {H : Heap} {locs : List Loc} {ls : Array Slot}, q_H D A s (wX5_bestBuy cI cJ cZ cS a_t a_s a_keptS a_statuses a_pile a_tape a_steps a_wish a_mark a_bitsOf a_sizeOf a_number a_moved v_isKept v_taped v_at v_fault v_laid v_open v_s v_pile v_wish) H locs → lv_has ls 5 [(0, .ref a_t), (1, .int y1), (2, .int y2), (3, .int y3)] → fX5_bestBuy_8 v_s ag8 v_pile v_wish y1 y2 y3 = some (rr, kk') → W p l e rX5_bestBuy s m args below meth c H locs 0 0 (MQ below (q_Ri D rr A ((fun k : (Nat → Int32) × (Nat → Int32) => (wX5_bestBuy cI cJ cZ cS a_t a_s a_keptS a_statuses a_pile a_tape a_steps a_wish a_mark a_bitsOf a_sizeOf a_number a_moved v_isKept v_taped v_at v_fault v_laid v_open v_s k.1 k.2)) kk')) args s 0 0 A) (F0 m 8 ls []) := by
  intro v_pile v_wish y1 y2 y3 H locs ls h hl hf
  have hx := fx.1
  have hb := fx.2.1
  unfold fX5_bestBuy_8 at hf
  refine lv_iload_n hx hb dX5_bestBuy_8 rfl (lv_at hl 3 rfl) ?_
  refine lv_aload_n hx hb dX5_bestBuy_9 rfl (lv_at hl 0 rfl) ?_
  obtain ⟨r7, k7, hg, hf⟩ := bR_inv hf
  refine q_ci (rest := [.int y3]) (ws' := (wX5_bestBuy cI cJ cZ cS a_t a_s a_keptS a_statuses a_pile a_tape a_steps a_wish a_mark a_bitsOf a_sizeOf a_number a_moved v_isKept v_taped v_at v_fault v_laid v_open v_s v_pile v_wish)) (w1 := (wX5_lists cI cJ cZ cS a_t a_s a_keptS a_statuses a_pile a_tape a_steps a_wish a_mark a_bitsOf a_sizeOf a_number a_moved v_isKept v_taped v_at v_fault v_laid v_open v_s)) fx h [0, 1] rfl rfl rfl rfl (q_runV fx h hl.1 [0, 1] rfl rfl (tX5_lists l D cI cJ cZ cS tb a_t a_s a_keptS a_statuses a_pile a_tape a_steps a_wish a_mark a_bitsOf a_sizeOf a_number a_moved H.size v_isKept v_taped v_at v_fault v_laid v_open v_s r7 k7 hg) mvX5_lists k_810 ⟨rfl, rfl⟩ ⟨Nat.le_of_ble_eq_true rfl, Nat.le_of_ble_eq_true rfl⟩ rfl rfl rfl rfl (Nat.le_of_ble_eq_true rfl) dX5_bestBuy_10 ⟨Nat.le_of_ble_eq_true rfl, Nat.le_of_ble_eq_true rfl⟩) (fun H locs h => ?_)
  refine lv_icmp_ge (tgt := 85) hx hb dX5_bestBuy_13 (by decide) (fun c8 => ?_) (fun c8 => ?_)
  · have hf := it_t c8 hf
    refine lv_iload_n hx hb dX5_bestBuy_85 rfl (lv_at hl 2 rfl) ?_
    exact q_reti (fun k : (Nat → Int32) × (Nat → Int32) => (wX5_bestBuy cI cJ cZ cS a_t a_s a_keptS a_statuses a_pile a_tape a_steps a_wish a_mark a_bitsOf a_sizeOf a_number a_moved v_isKept v_taped v_at v_fault v_laid v_open v_s k.1 k.2)) fx hf h dX5_bestBuy_86
  have hf := it_f c8 hf
  refine lv_aload_n hx hb dX5_bestBuy_16 rfl (lv_at hl 0 rfl) ?_
  refine lv_iload_n hx hb dX5_bestBuy_17 rfl (lv_at hl 3 rfl) ?_
  refine lv_sipush (v := 255) hx hb dX5_bestBuy_18 (by decide) ?_
  obtain ⟨r9, k9, hg, hf⟩ := bR_inv hf
  refine q_ci (rest := []) (ws' := (wX5_bestBuy cI cJ cZ cS a_t a_s a_keptS a_statuses a_pile a_tape a_steps a_wish a_mark a_bitsOf a_sizeOf a_number a_moved v_isKept v_taped v_at v_fault v_laid v_open v_s v_pile v_wish)) (w1 := (wX5_lastOf cI cJ cZ cS a_t a_s a_keptS a_statuses a_pile a_tape a_steps a_wish a_mark a_bitsOf a_sizeOf a_number a_moved v_isKept v_taped v_at v_fault v_laid v_open v_wish)) fx h [0, 3] rfl rfl rfl rfl (q_runV fx h hl.1 [0, 3] rfl rfl (tX5_lastOf l D cI cJ cZ cS tb a_t a_s a_keptS a_statuses a_pile a_tape a_steps a_wish a_mark a_bitsOf a_sizeOf a_number a_moved H.size v_isKept v_taped v_at v_fault v_laid v_open v_wish y3 255 r9 k9 hg) mvX5_lastOf k_918 ⟨rfl, rfl⟩ ⟨Nat.le_of_ble_eq_true rfl, Nat.le_of_ble_eq_true rfl⟩ rfl rfl rfl rfl (Nat.le_of_ble_eq_true rfl) dX5_bestBuy_21 ⟨Nat.le_of_ble_eq_true rfl, Nat.le_of_ble_eq_true rfl⟩) (fun H locs h => ?_)
  obtain ⟨r10, k10, hg, hf⟩ := bR_inv hf
  refine q_ci (rest := []) (ws' := (wX5_bestBuy cI cJ cZ cS a_t a_s a_keptS a_statuses a_pile a_tape a_steps a_wish a_mark a_bitsOf a_sizeOf a_number a_moved v_isKept v_taped v_at v_fault v_laid v_open v_s v_pile v_wish)) (w1 := (wX5_ones cI cJ cZ cS)) fx h [] rfl rfl rfl rfl (q_runS fx h hl.1 [] rfl rfl (tX5_ones l D cI cJ cZ cS tb H.size r9 r10 k10 hg) msX5_ones k_722 ⟨rfl, rfl⟩ ⟨Nat.le_of_ble_eq_true rfl, Nat.le_of_ble_eq_true rfl⟩ rfl rfl (Nat.le_of_ble_eq_true rfl) dX5_bestBuy_24 ⟨Nat.le_of_ble_eq_true rfl, Nat.le_of_ble_eq_true rfl⟩) (fun H locs h => ?_)
  refine lv_iload_n hx hb dX5_bestBuy_27 rfl (lv_at hl 1 rfl) ?_
  refine lv_icmp_lt (tgt := 79) hx hb dX5_bestBuy_28 (by decide) (fun c11 => ?_) (fun c11 => ?_)
  · have hf := it_t c11 hf
    exact LX5_bestBuy_79 fx hag8 h (lv_sub hl [0, 1, 2, 3] rfl) hf
  have hf := it_f c11 hf
  refine lv_iload_n hx hb dX5_bestBuy_31 rfl (lv_at hl 2 rfl) ?_
  refine lv_if_ge (tgt := 39) hx hb dX5_bestBuy_32 (by decide) (fun c12 => ?_) (fun c12 => ?_)
  · have hf := it_t c12 hf
    refine lv_aload_n hx hb dX5_bestBuy_39 rfl (lv_at hl 0 rfl) ?_
    refine lv_iload_n hx hb dX5_bestBuy_40 rfl (lv_at hl 3 rfl) ?_
    obtain ⟨r13, k13, hg, hf⟩ := bR_inv hf
    refine q_ci (rest := []) (ws' := (wX5_bestBuy cI cJ cZ cS a_t a_s a_keptS a_statuses a_pile a_tape a_steps a_wish a_mark a_bitsOf a_sizeOf a_number a_moved v_isKept v_taped v_at v_fault v_laid v_open v_s v_pile v_wish)) (w1 := (wX5_costOf cI cJ cZ cS a_t a_s a_keptS a_statuses a_pile a_tape a_steps a_wish a_mark a_bitsOf a_sizeOf a_number a_moved v_isKept v_taped v_at v_fault v_laid v_open v_s)) fx h [0, 1] rfl rfl rfl rfl (q_runV fx h hl.1 [0, 1] rfl rfl (tX5_costOf l D cI cJ cZ cS tb a_t a_s a_keptS a_statuses a_pile a_tape a_steps a_wish a_mark a_bitsOf a_sizeOf a_number a_moved H.size v_isKept v_taped v_at v_fault v_laid v_open v_s y3 r13 k13 hg) mvX5_costOf k_822 ⟨rfl, rfl⟩ ⟨Nat.le_of_ble_eq_true rfl, Nat.le_of_ble_eq_true rfl⟩ rfl rfl rfl rfl (Nat.le_of_ble_eq_true rfl) dX5_bestBuy_41 ⟨Nat.le_of_ble_eq_true rfl, Nat.le_of_ble_eq_true rfl⟩) (fun H locs h => ?_)
    refine lv_aload_n hx hb dX5_bestBuy_44 rfl (lv_at hl 0 rfl) ?_
    refine lv_iload_n hx hb dX5_bestBuy_45 rfl (lv_at hl 2 rfl) ?_
    obtain ⟨r14, k14, hg, hf⟩ := bR_inv hf
    refine q_ci (rest := [.int r13]) (ws' := (wX5_bestBuy cI cJ cZ cS a_t a_s a_keptS a_statuses a_pile a_tape a_steps a_wish a_mark a_bitsOf a_sizeOf a_number a_moved v_isKept v_taped v_at v_fault v_laid v_open v_s v_pile v_wish)) (w1 := (wX5_costOf cI cJ cZ cS a_t a_s a_keptS a_statuses a_pile a_tape a_steps a_wish a_mark a_bitsOf a_sizeOf a_number a_moved v_isKept v_taped v_at v_fault v_laid v_open v_s)) fx h [0, 1] rfl rfl rfl rfl (q_runV fx h hl.1 [0, 1] rfl rfl (tX5_costOf l D cI cJ cZ cS tb a_t a_s a_keptS a_statuses a_pile a_tape a_steps a_wish a_mark a_bitsOf a_sizeOf a_number a_moved H.size v_isKept v_taped v_at v_fault v_laid v_open v_s y2 r14 k14 hg) mvX5_costOf k_822 ⟨rfl, rfl⟩ ⟨Nat.le_of_ble_eq_true rfl, Nat.le_of_ble_eq_true rfl⟩ rfl rfl rfl rfl (Nat.le_of_ble_eq_true rfl) dX5_bestBuy_46 ⟨Nat.le_of_ble_eq_true rfl, Nat.le_of_ble_eq_true rfl⟩) (fun H locs h => ?_)
    refine lv_isub hx hb dX5_bestBuy_49 ?_
    exact LX5_bestBuy_50 fx hag8 h (lv_sub hl [0, 1, 2, 3] rfl) hf
  have hf := it_f c12 hf
  refine lv_iconst (v := -1) hx hb dX5_bestBuy_35 (by decide) ?_
  refine lv_goto (tgt := 50) hx hb dX5_bestBuy_36 (by decide) ?_
  exact LX5_bestBuy_50 fx hag8 h (lv_sub hl [0, 1, 2, 3] rfl) hf
set_option maxRecDepth 100000 in
theorem EX5_bestBuy_8 {p : Program} {l : Launch} {e : Env} {s : State} {m : MethodId} {args : Array Value} {below : List Frame} {meth : Method} {c : Code} {D : va_G} {cI cJ cZ cS : ClassId} {tb : Nat} {A : Nat → Prop} {a_t a_s a_keptS a_statuses a_pile a_tape a_steps a_wish a_mark a_bitsOf a_sizeOf a_number a_moved : Nat} {v_isKept : Int32} {v_taped : Int32} {v_at : Int32} {v_fault : Int32} {v_laid : Int32} {v_open : Int32} {v_s : Nat → Int32} {rr : Int32} {kk' : (Nat → Int32) × (Nat → Int32)} (fx : q_Fx p s m args meth c cX5_bestBuy 5 RX5 (some .int) D cI cJ cZ cS tb A) : ∀ (n : Nat), ∀ {v_pile : Nat → Int32} {v_wish : Nat → Int32} {y1 : Int32} {y2 : Int32} {y3 : Int32} {H : Heap} {locs : List Loc} {ls : Array Slot}, q_H D A s (wX5_bestBuy cI cJ cZ cS a_t a_s a_keptS a_statuses a_pile a_tape a_steps a_wish a_mark a_bitsOf a_sizeOf a_number a_moved v_isKept v_taped v_at v_fault v_laid v_open v_s v_pile v_wish) H locs → lv_has ls 5 [(0, .ref a_t), (1, .int y1), (2, .int y2), (3, .int y3)] → ll5 (fX5_bestBuy_8 v_s) n v_pile v_wish y1 y2 y3 = some (rr, kk') → W p l e rX5_bestBuy s m args below meth c H locs 0 0 (MQ below (q_Ri D rr A ((fun k : (Nat → Int32) × (Nat → Int32) => (wX5_bestBuy cI cJ cZ cS a_t a_s a_keptS a_statuses a_pile a_tape a_steps a_wish a_mark a_bitsOf a_sizeOf a_number a_moved v_isKept v_taped v_at v_fault v_laid v_open v_s k.1 k.2)) kk')) args s 0 0 A) (F0 m 8 ls []) := by
  intro n
  induction n with
  | zero => intro v_pile v_wish y1 y2 y3 H locs ls h hl hf; exact (ll5_z hf).elim
  | succ n ih => intro v_pile v_wish y1 y2 y3 H locs ls h hl hf; exact LX5_bestBuy_8 fx ih h hl (ll5_s hf)
def fX5_bestBuy (v_s : Nat → Int32) (v_pile : Nat → Int32) (v_wish : Nat → Int32) (x1 : Int32) : Option (Int32 × (Nat → Int32) × (Nat → Int32)) :=
  bV (fX5_looksAll v_s v_pile v_wish) (fun k15 =>
  ll5 (fX5_bestBuy_8 v_s) qF k15.1 k15.2 x1 (-1) 0)
set_option maxRecDepth 100000 in
set_option maxHeartbeats 4000000 in
theorem tX5_bestBuy (l : Launch) (D : va_G) (cI cJ cZ cS : ClassId) (tb : Nat) (a_t a_s a_keptS a_statuses a_pile a_tape a_steps a_wish a_mark a_bitsOf a_sizeOf a_number a_moved : Nat) (sz : Nat) (v_isKept : Int32) (v_taped : Int32) (v_at : Int32) (v_fault : Int32) (v_laid : Int32) (v_open : Int32) (v_s : Nat → Int32) (v_pile : Nat → Int32) (v_wish : Nat → Int32) (x1 : Int32) (rr : Int32) (kk' : (Nat → Int32) × (Nat → Int32)) (hf : fX5_bestBuy v_s v_pile v_wish x1 = some (rr, kk')) : Met l yX5_bestBuy (Cond.code yX5_bestBuy cX5_bestBuy 5 (some .int) :: wA) rX5_bestBuy (q_Pre D cI cJ cZ cS tb [.ref a_t, .int x1] sz (wX5_bestBuy cI cJ cZ cS a_t a_s a_keptS a_statuses a_pile a_tape a_steps a_wish a_mark a_bitsOf a_sizeOf a_number a_moved v_isKept v_taped v_at v_fault v_laid v_open v_s v_pile v_wish)) (q_Ri D rr (va_A (wX5_bestBuy cI cJ cZ cS a_t a_s a_keptS a_statuses a_pile a_tape a_steps a_wish a_mark a_bitsOf a_sizeOf a_number a_moved v_isKept v_taped v_at v_fault v_laid v_open v_s v_pile v_wish) sz) ((fun k : (Nat → Int32) × (Nat → Int32) => (wX5_bestBuy cI cJ cZ cS a_t a_s a_keptS a_statuses a_pile a_tape a_steps a_wish a_mark a_bitsOf a_sizeOf a_number a_moved v_isKept v_taped v_at v_fault v_laid v_open v_s k.1 k.2)) kk')) 0 0 (va_A (wX5_bestBuy cI cJ cZ cS a_t a_s a_keptS a_statuses a_pile a_tape a_steps a_wish a_mark a_bitsOf a_sizeOf a_number a_moved v_isKept v_taped v_at v_fault v_laid v_open v_s v_pile v_wish) sz) := by
  refine q_enter (Qf := fun A => (q_Ri D rr A ((fun k : (Nat → Int32) × (Nat → Int32) => (wX5_bestBuy cI cJ cZ cS a_t a_s a_keptS a_statuses a_pile a_tape a_steps a_wish a_mark a_bitsOf a_sizeOf a_number a_moved v_isKept v_taped v_at v_fault v_laid v_open v_s k.1 k.2)) kk'))) (by decide) rfl (Nat.le_of_ble_eq_true rfl) ?_
  intro p e s m below meth c A ls fx hname h hl
  have hx := fx.1
  have hb := fx.2.1
  have hl : lv_has ls 5 [(0, .ref a_t), (1, .int x1)] := hl
  generalize h9 : s.heap = H at h ⊢
  clear h9
  generalize h9 : ([] : List Loc) = locs at h ⊢
  clear h9
  unfold fX5_bestBuy at hf
  refine lv_aload_n hx hb dX5_bestBuy_0 rfl (lv_at hl 0 rfl) ?_
  obtain ⟨k15, hg, hf⟩ := bV_inv hf
  refine q_cv (rest := []) (ws' := (wX5_bestBuy cI cJ cZ cS a_t a_s a_keptS a_statuses a_pile a_tape a_steps a_wish a_mark a_bitsOf a_sizeOf a_number a_moved v_isKept v_taped v_at v_fault v_laid v_open v_s k15.1 k15.2)) (w1 := (wX5_looksAll cI cJ cZ cS a_t a_s a_keptS a_statuses a_pile a_tape a_steps a_wish a_mark a_bitsOf a_sizeOf a_number a_moved v_isKept v_taped v_at v_fault v_laid v_open v_s k15.1 k15.2)) fx h [0, 1, 2, 3] rfl rfl rfl rfl (q_runV fx h hl.1 [0, 1, 2, 3] rfl rfl (tX5_looksAll l D cI cJ cZ cS tb a_t a_s a_keptS a_statuses a_pile a_tape a_steps a_wish a_mark a_bitsOf a_sizeOf a_number a_moved H.size v_isKept v_taped v_at v_fault v_laid v_open v_s v_pile v_wish k15 hg) mvX5_looksAll k_860 ⟨rfl, rfl⟩ ⟨Nat.le_of_ble_eq_true rfl, Nat.le_of_ble_eq_true rfl⟩ rfl rfl rfl rfl (Nat.le_of_ble_eq_true rfl) dX5_bestBuy_1 ⟨Nat.le_of_ble_eq_true rfl, Nat.le_of_ble_eq_true rfl⟩) (fun H locs h => ?_)
  refine lv_iconst (v := -1) hx hb dX5_bestBuy_4 (by decide) ?_
  refine lv_istore_n (lv' := [(2, .int (-1)), (0, .ref a_t), (1, .int x1)]) hx hb dX5_bestBuy_5 rfl hl (by decide) rfl (fun ls hl => ?_)
  refine lv_iconst (v := 0) hx hb dX5_bestBuy_6 (by decide) ?_
  refine lv_istore_n (lv' := [(3, .int 0), (2, .int (-1)), (0, .ref a_t), (1, .int x1)]) hx hb dX5_bestBuy_7 rfl hl (by decide) rfl (fun ls hl => ?_)
  exact EX5_bestBuy_8 fx qF h (lv_sub hl [2, 3, 1, 0] rfl) hf
/-! X5_buys -/
abbrev wX5_buys (cI cJ cZ cS : ClassId) (a_t a_s a_keptS a_statuses a_pile a_tape a_steps a_wish a_mark a_bitsOf a_sizeOf a_number a_moved : Nat) (v_isKept : Int32) (v_taped : Int32) (v_at : Int32) (v_fault : Int32) (v_laid : Int32) (v_open : Int32) (v_s : Nat → Int32) (v_statuses : Nat → Int32) (v_pile : Nat → Int32) (v_wish : Nat → Int32) : va_W := [(a_t, .inr (5, [.ref a_s, .ref a_keptS, .ref a_statuses, .int v_isKept, .ref a_pile, .ref a_tape, .ref a_steps, .int v_taped, .int v_at, .int v_fault, .int v_laid, .int v_open, .ref a_wish, .ref a_mark, .ref a_bitsOf, .ref a_sizeOf, .ref a_number, .ref a_moved])), (a_s, .inl (cI, 538, .inl v_s)), (a_statuses, .inl (cI, 7, .inl v_statuses)), (a_pile, .inl (cZ, 64, .inl v_pile)), (a_wish, .inl (cI, 256, .inl v_wish))]
abbrev rX5_buys : Room := { frames := 7, cells := 0, slots := 0, locals := 161 }
def fX5_buys (v_s : Nat → Int32) (v_statuses : Nat → Int32) (v_pile : Nat → Int32) (v_wish : Nat → Int32) (x1 : Int32) : Option (Int32 × (Nat → Int32) × (Nat → Int32) × (Nat → Int32)) :=
  bR (fX5_in (x1.toInt64) 0 8) (fun r1 k1 =>
  (if r1 = 0 then (
  bR (fX5_finds v_statuses (-1000000001)) (fun r3 k3 =>
  some (r3, (k3, v_pile, v_wish))))
  else (
  bR (fX5_bestBuy v_s v_pile v_wish x1) (fun r4 k4 =>
  bR (fX5_orNone v_statuses r4) (fun r5 k5 =>
  some (r5, (k5, k4.1, k4.2)))))))
set_option maxRecDepth 100000 in
set_option maxHeartbeats 4000000 in
theorem tX5_buys (l : Launch) (D : va_G) (cI cJ cZ cS : ClassId) (tb : Nat) (a_t a_s a_keptS a_statuses a_pile a_tape a_steps a_wish a_mark a_bitsOf a_sizeOf a_number a_moved : Nat) (sz : Nat) (v_isKept : Int32) (v_taped : Int32) (v_at : Int32) (v_fault : Int32) (v_laid : Int32) (v_open : Int32) (v_s : Nat → Int32) (v_statuses : Nat → Int32) (v_pile : Nat → Int32) (v_wish : Nat → Int32) (x1 : Int32) (rr : Int32) (kk' : (Nat → Int32) × (Nat → Int32) × (Nat → Int32)) (hf : fX5_buys v_s v_statuses v_pile v_wish x1 = some (rr, kk')) : Met l yX5_buys (Cond.code yX5_buys cX5_buys 2 (some .int) :: wA) rX5_buys (q_Pre D cI cJ cZ cS tb [.ref a_t, .int x1] sz (wX5_buys cI cJ cZ cS a_t a_s a_keptS a_statuses a_pile a_tape a_steps a_wish a_mark a_bitsOf a_sizeOf a_number a_moved v_isKept v_taped v_at v_fault v_laid v_open v_s v_statuses v_pile v_wish)) (q_Ri D rr (va_A (wX5_buys cI cJ cZ cS a_t a_s a_keptS a_statuses a_pile a_tape a_steps a_wish a_mark a_bitsOf a_sizeOf a_number a_moved v_isKept v_taped v_at v_fault v_laid v_open v_s v_statuses v_pile v_wish) sz) ((fun k : (Nat → Int32) × (Nat → Int32) × (Nat → Int32) => (wX5_buys cI cJ cZ cS a_t a_s a_keptS a_statuses a_pile a_tape a_steps a_wish a_mark a_bitsOf a_sizeOf a_number a_moved v_isKept v_taped v_at v_fault v_laid v_open v_s k.1 k.2.1 k.2.2)) kk')) 0 0 (va_A (wX5_buys cI cJ cZ cS a_t a_s a_keptS a_statuses a_pile a_tape a_steps a_wish a_mark a_bitsOf a_sizeOf a_number a_moved v_isKept v_taped v_at v_fault v_laid v_open v_s v_statuses v_pile v_wish) sz) := by
  refine q_enter (Qf := fun A => (q_Ri D rr A ((fun k : (Nat → Int32) × (Nat → Int32) × (Nat → Int32) => (wX5_buys cI cJ cZ cS a_t a_s a_keptS a_statuses a_pile a_tape a_steps a_wish a_mark a_bitsOf a_sizeOf a_number a_moved v_isKept v_taped v_at v_fault v_laid v_open v_s k.1 k.2.1 k.2.2)) kk'))) (by decide) rfl (Nat.le_of_ble_eq_true rfl) ?_
  intro p e s m below meth c A ls fx hname h hl
  have hx := fx.1
  have hb := fx.2.1
  have hl : lv_has ls 2 [(0, .ref a_t), (1, .int x1)] := hl
  generalize h9 : s.heap = H at h ⊢
  clear h9
  generalize h9 : ([] : List Loc) = locs at h ⊢
  clear h9
  unfold fX5_buys at hf
  refine lv_iload_n hx hb dX5_buys_0 rfl (lv_at hl 1 rfl) ?_
  refine lv_i2l hx hb dX5_buys_1 rfl ?_
  refine lv_lconst (v := 0) hx hb dX5_buys_2 (by decide) ?_
  refine q_ldc2 fx k_926 dX5_buys_3 ?_
  obtain ⟨r1, k1, hg, hf⟩ := bR_inv hf
  refine q_ci (rest := []) (ws' := (wX5_buys cI cJ cZ cS a_t a_s a_keptS a_statuses a_pile a_tape a_steps a_wish a_mark a_bitsOf a_sizeOf a_number a_moved v_isKept v_taped v_at v_fault v_laid v_open v_s v_statuses v_pile v_wish)) (w1 := (wX5_in cI cJ cZ cS)) fx h [] rfl rfl rfl rfl (q_runS fx h hl.1 [] rfl rfl (tX5_in l D cI cJ cZ cS tb H.size (x1.toInt64) 0 8 r1 k1 hg) msX5_in k_697 ⟨rfl, rfl⟩ ⟨Nat.le_of_ble_eq_true rfl, Nat.le_of_ble_eq_true rfl⟩ rfl rfl (Nat.le_of_ble_eq_true rfl) dX5_buys_6 ⟨Nat.le_of_ble_eq_true rfl, Nat.le_of_ble_eq_true rfl⟩) (fun H locs h => ?_)
  refine lv_if_eq (tgt := 24) hx hb dX5_buys_9 (by decide) (fun c2 => ?_) (fun c2 => ?_)
  · have hf := it_t c2 hf
    refine lv_aload_n hx hb dX5_buys_24 rfl (lv_at hl 0 rfl) ?_
    refine q_ldc fx k_701 dX5_buys_25 ?_
    obtain ⟨r3, k3, hg, hf⟩ := bR_inv hf
    refine q_ci (rest := []) (ws' := (wX5_buys cI cJ cZ cS a_t a_s a_keptS a_statuses a_pile a_tape a_steps a_wish a_mark a_bitsOf a_sizeOf a_number a_moved v_isKept v_taped v_at v_fault v_laid v_open v_s k3 v_pile v_wish)) (w1 := (wX5_finds cI cJ cZ cS a_t a_s a_keptS a_statuses a_pile a_tape a_steps a_wish a_mark a_bitsOf a_sizeOf a_number a_moved v_isKept v_taped v_at v_fault v_laid v_open k3)) fx h [0, 2] rfl rfl rfl rfl (q_runV fx h hl.1 [0, 2] rfl rfl (tX5_finds l D cI cJ cZ cS tb a_t a_s a_keptS a_statuses a_pile a_tape a_steps a_wish a_mark a_bitsOf a_sizeOf a_number a_moved H.size v_isKept v_taped v_at v_fault v_laid v_open v_statuses (-1000000001) r3 k3 hg) mvX5_finds k_702 ⟨rfl, rfl⟩ ⟨Nat.le_of_ble_eq_true rfl, Nat.le_of_ble_eq_true rfl⟩ rfl rfl rfl rfl (Nat.le_of_ble_eq_true rfl) dX5_buys_27 ⟨Nat.le_of_ble_eq_true rfl, Nat.le_of_ble_eq_true rfl⟩) (fun H locs h => ?_)
    exact q_reti (fun k : (Nat → Int32) × (Nat → Int32) × (Nat → Int32) => (wX5_buys cI cJ cZ cS a_t a_s a_keptS a_statuses a_pile a_tape a_steps a_wish a_mark a_bitsOf a_sizeOf a_number a_moved v_isKept v_taped v_at v_fault v_laid v_open v_s k.1 k.2.1 k.2.2)) fx hf h dX5_buys_30
  have hf := it_f c2 hf
  refine lv_aload_n hx hb dX5_buys_12 rfl (lv_at hl 0 rfl) ?_
  refine lv_aload_n hx hb dX5_buys_13 rfl (lv_at hl 0 rfl) ?_
  refine lv_iload_n hx hb dX5_buys_14 rfl (lv_at hl 1 rfl) ?_
  obtain ⟨r4, k4, hg, hf⟩ := bR_inv hf
  refine q_ci (rest := [.ref a_t]) (ws' := (wX5_buys cI cJ cZ cS a_t a_s a_keptS a_statuses a_pile a_tape a_steps a_wish a_mark a_bitsOf a_sizeOf a_number a_moved v_isKept v_taped v_at v_fault v_laid v_open v_s v_statuses k4.1 k4.2)) (w1 := (wX5_bestBuy cI cJ cZ cS a_t a_s a_keptS a_statuses a_pile a_tape a_steps a_wish a_mark a_bitsOf a_sizeOf a_number a_moved v_isKept v_taped v_at v_fault v_laid v_open v_s k4.1 k4.2)) fx h [0, 1, 3, 4] rfl rfl rfl rfl (q_runV fx h hl.1 [0, 1, 3, 4] rfl rfl (tX5_bestBuy l D cI cJ cZ cS tb a_t a_s a_keptS a_statuses a_pile a_tape a_steps a_wish a_mark a_bitsOf a_sizeOf a_number a_moved H.size v_isKept v_taped v_at v_fault v_laid v_open v_s v_pile v_wish x1 r4 k4 hg) mvX5_bestBuy k_927 ⟨rfl, rfl⟩ ⟨Nat.le_of_ble_eq_true rfl, Nat.le_of_ble_eq_true rfl⟩ rfl rfl rfl rfl (Nat.le_of_ble_eq_true rfl) dX5_buys_15 ⟨Nat.le_of_ble_eq_true rfl, Nat.le_of_ble_eq_true rfl⟩) (fun H locs h => ?_)
  obtain ⟨r5, k5, hg, hf⟩ := bR_inv hf
  refine q_ci (rest := []) (ws' := (wX5_buys cI cJ cZ cS a_t a_s a_keptS a_statuses a_pile a_tape a_steps a_wish a_mark a_bitsOf a_sizeOf a_number a_moved v_isKept v_taped v_at v_fault v_laid v_open v_s k5 k4.1 k4.2)) (w1 := (wX5_orNone cI cJ cZ cS a_t a_s a_keptS a_statuses a_pile a_tape a_steps a_wish a_mark a_bitsOf a_sizeOf a_number a_moved v_isKept v_taped v_at v_fault v_laid v_open k5)) fx h [0, 2] rfl rfl rfl rfl (q_runV fx h hl.1 [0, 2] rfl rfl (tX5_orNone l D cI cJ cZ cS tb a_t a_s a_keptS a_statuses a_pile a_tape a_steps a_wish a_mark a_bitsOf a_sizeOf a_number a_moved H.size v_isKept v_taped v_at v_fault v_laid v_open v_statuses r4 r5 k5 hg) mvX5_orNone k_877 ⟨rfl, rfl⟩ ⟨Nat.le_of_ble_eq_true rfl, Nat.le_of_ble_eq_true rfl⟩ rfl rfl rfl rfl (Nat.le_of_ble_eq_true rfl) dX5_buys_18 ⟨Nat.le_of_ble_eq_true rfl, Nat.le_of_ble_eq_true rfl⟩) (fun H locs h => ?_)
  refine lv_goto (tgt := 30) hx hb dX5_buys_21 (by decide) ?_
  exact q_reti (fun k : (Nat → Int32) × (Nat → Int32) × (Nat → Int32) => (wX5_buys cI cJ cZ cS a_t a_s a_keptS a_statuses a_pile a_tape a_steps a_wish a_mark a_bitsOf a_sizeOf a_number a_moved v_isKept v_taped v_at v_fault v_laid v_open v_s k.1 k.2.1 k.2.2)) fx hf h dX5_buys_30
/-! X5_price -/
abbrev wX5_price (cI cJ cZ cS : ClassId) (a_t a_s a_keptS a_statuses a_pile a_tape a_steps a_wish a_mark a_bitsOf a_sizeOf a_number a_moved : Nat) (v_isKept : Int32) (v_taped : Int32) (v_at : Int32) (v_fault : Int32) (v_laid : Int32) (v_open : Int32) (v_s : Nat → Int32) (v_statuses : Nat → Int32) (v_pile : Nat → Int32) (v_wish : Nat → Int32) : va_W := [(a_t, .inr (5, [.ref a_s, .ref a_keptS, .ref a_statuses, .int v_isKept, .ref a_pile, .ref a_tape, .ref a_steps, .int v_taped, .int v_at, .int v_fault, .int v_laid, .int v_open, .ref a_wish, .ref a_mark, .ref a_bitsOf, .ref a_sizeOf, .ref a_number, .ref a_moved])), (a_s, .inl (cI, 538, .inl v_s)), (a_statuses, .inl (cI, 7, .inl v_statuses)), (a_pile, .inl (cZ, 64, .inl v_pile)), (a_wish, .inl (cI, 256, .inl v_wish))]
abbrev rX5_price : Room := { frames := 7, cells := 0, slots := 0, locals := 161 }
def fX5_price (v_s : Nat → Int32) (v_statuses : Nat → Int32) (v_pile : Nat → Int32) (v_wish : Nat → Int32) (x1 : Int32) : Option (Int32 × (Nat → Int32) × (Nat → Int32) × (Nat → Int32)) :=
  bR (fX5_in (x1.toInt64) 0 8) (fun r1 k1 =>
  (if r1 = 0 then (
  bR (fX5_finds v_statuses (-1000000001)) (fun r7 k7 =>
  some (r7, (k7, v_pile, v_wish))))
  else (
  bR (fX5_bestBuy v_s v_pile v_wish x1) (fun r3 k3 =>
  (if (0 : Int32) ≤ r3 then (
  bR (fX5_costOf v_s r3) (fun r5 k5 =>
  some (r5, (v_statuses, k3.1, k3.2))))
  else (
  bR (fX5_finds v_statuses (-1000000004)) (fun r6 k6 =>
  some (r6, (k6, k3.1, k3.2)))))))))
set_option maxRecDepth 100000 in
set_option maxHeartbeats 4000000 in
theorem tX5_price (l : Launch) (D : va_G) (cI cJ cZ cS : ClassId) (tb : Nat) (a_t a_s a_keptS a_statuses a_pile a_tape a_steps a_wish a_mark a_bitsOf a_sizeOf a_number a_moved : Nat) (sz : Nat) (v_isKept : Int32) (v_taped : Int32) (v_at : Int32) (v_fault : Int32) (v_laid : Int32) (v_open : Int32) (v_s : Nat → Int32) (v_statuses : Nat → Int32) (v_pile : Nat → Int32) (v_wish : Nat → Int32) (x1 : Int32) (rr : Int32) (kk' : (Nat → Int32) × (Nat → Int32) × (Nat → Int32)) (hf : fX5_price v_s v_statuses v_pile v_wish x1 = some (rr, kk')) : Met l yX5_price (Cond.code yX5_price cX5_price 3 (some .int) :: wA) rX5_price (q_Pre D cI cJ cZ cS tb [.ref a_t, .int x1] sz (wX5_price cI cJ cZ cS a_t a_s a_keptS a_statuses a_pile a_tape a_steps a_wish a_mark a_bitsOf a_sizeOf a_number a_moved v_isKept v_taped v_at v_fault v_laid v_open v_s v_statuses v_pile v_wish)) (q_Ri D rr (va_A (wX5_price cI cJ cZ cS a_t a_s a_keptS a_statuses a_pile a_tape a_steps a_wish a_mark a_bitsOf a_sizeOf a_number a_moved v_isKept v_taped v_at v_fault v_laid v_open v_s v_statuses v_pile v_wish) sz) ((fun k : (Nat → Int32) × (Nat → Int32) × (Nat → Int32) => (wX5_price cI cJ cZ cS a_t a_s a_keptS a_statuses a_pile a_tape a_steps a_wish a_mark a_bitsOf a_sizeOf a_number a_moved v_isKept v_taped v_at v_fault v_laid v_open v_s k.1 k.2.1 k.2.2)) kk')) 0 0 (va_A (wX5_price cI cJ cZ cS a_t a_s a_keptS a_statuses a_pile a_tape a_steps a_wish a_mark a_bitsOf a_sizeOf a_number a_moved v_isKept v_taped v_at v_fault v_laid v_open v_s v_statuses v_pile v_wish) sz) := by
  refine q_enter (Qf := fun A => (q_Ri D rr A ((fun k : (Nat → Int32) × (Nat → Int32) × (Nat → Int32) => (wX5_price cI cJ cZ cS a_t a_s a_keptS a_statuses a_pile a_tape a_steps a_wish a_mark a_bitsOf a_sizeOf a_number a_moved v_isKept v_taped v_at v_fault v_laid v_open v_s k.1 k.2.1 k.2.2)) kk'))) (by decide) rfl (Nat.le_of_ble_eq_true rfl) ?_
  intro p e s m below meth c A ls fx hname h hl
  have hx := fx.1
  have hb := fx.2.1
  have hl : lv_has ls 3 [(0, .ref a_t), (1, .int x1)] := hl
  generalize h9 : s.heap = H at h ⊢
  clear h9
  generalize h9 : ([] : List Loc) = locs at h ⊢
  clear h9
  unfold fX5_price at hf
  refine lv_iload_n hx hb dX5_price_0 rfl (lv_at hl 1 rfl) ?_
  refine lv_i2l hx hb dX5_price_1 rfl ?_
  refine lv_lconst (v := 0) hx hb dX5_price_2 (by decide) ?_
  refine q_ldc2 fx k_926 dX5_price_3 ?_
  obtain ⟨r1, k1, hg, hf⟩ := bR_inv hf
  refine q_ci (rest := []) (ws' := (wX5_price cI cJ cZ cS a_t a_s a_keptS a_statuses a_pile a_tape a_steps a_wish a_mark a_bitsOf a_sizeOf a_number a_moved v_isKept v_taped v_at v_fault v_laid v_open v_s v_statuses v_pile v_wish)) (w1 := (wX5_in cI cJ cZ cS)) fx h [] rfl rfl rfl rfl (q_runS fx h hl.1 [] rfl rfl (tX5_in l D cI cJ cZ cS tb H.size (x1.toInt64) 0 8 r1 k1 hg) msX5_in k_697 ⟨rfl, rfl⟩ ⟨Nat.le_of_ble_eq_true rfl, Nat.le_of_ble_eq_true rfl⟩ rfl rfl (Nat.le_of_ble_eq_true rfl) dX5_price_6 ⟨Nat.le_of_ble_eq_true rfl, Nat.le_of_ble_eq_true rfl⟩) (fun H locs h => ?_)
  refine lv_if_ne (tgt := 19) hx hb dX5_price_9 (by decide) (fun c2 => ?_) (fun c2 => ?_)
  · have hf := it_f c2 hf
    refine lv_aload_n hx hb dX5_price_19 rfl (lv_at hl 0 rfl) ?_
    refine lv_iload_n hx hb dX5_price_20 rfl (lv_at hl 1 rfl) ?_
    obtain ⟨r3, k3, hg, hf⟩ := bR_inv hf
    refine q_ci (rest := []) (ws' := (wX5_price cI cJ cZ cS a_t a_s a_keptS a_statuses a_pile a_tape a_steps a_wish a_mark a_bitsOf a_sizeOf a_number a_moved v_isKept v_taped v_at v_fault v_laid v_open v_s v_statuses k3.1 k3.2)) (w1 := (wX5_bestBuy cI cJ cZ cS a_t a_s a_keptS a_statuses a_pile a_tape a_steps a_wish a_mark a_bitsOf a_sizeOf a_number a_moved v_isKept v_taped v_at v_fault v_laid v_open v_s k3.1 k3.2)) fx h [0, 1, 3, 4] rfl rfl rfl rfl (q_runV fx h hl.1 [0, 1, 3, 4] rfl rfl (tX5_bestBuy l D cI cJ cZ cS tb a_t a_s a_keptS a_statuses a_pile a_tape a_steps a_wish a_mark a_bitsOf a_sizeOf a_number a_moved H.size v_isKept v_taped v_at v_fault v_laid v_open v_s v_pile v_wish x1 r3 k3 hg) mvX5_bestBuy k_927 ⟨rfl, rfl⟩ ⟨Nat.le_of_ble_eq_true rfl, Nat.le_of_ble_eq_true rfl⟩ rfl rfl rfl rfl (Nat.le_of_ble_eq_true rfl) dX5_price_21 ⟨Nat.le_of_ble_eq_true rfl, Nat.le_of_ble_eq_true rfl⟩) (fun H locs h => ?_)
    refine lv_istore_n (lv' := [(2, .int r3), (0, .ref a_t), (1, .int x1)]) hx hb dX5_price_24 rfl hl (by decide) rfl (fun ls hl => ?_)
    refine lv_iload_n hx hb dX5_price_25 rfl (lv_at hl 0 rfl) ?_
    refine lv_if_ge (tgt := 38) hx hb dX5_price_26 (by decide) (fun c4 => ?_) (fun c4 => ?_)
    · have hf := it_t c4 hf
      refine lv_aload_n hx hb dX5_price_38 rfl (lv_at hl 1 rfl) ?_
      refine lv_iload_n hx hb dX5_price_39 rfl (lv_at hl 0 rfl) ?_
      obtain ⟨r5, k5, hg, hf⟩ := bR_inv hf
      refine q_ci (rest := []) (ws' := (wX5_price cI cJ cZ cS a_t a_s a_keptS a_statuses a_pile a_tape a_steps a_wish a_mark a_bitsOf a_sizeOf a_number a_moved v_isKept v_taped v_at v_fault v_laid v_open v_s v_statuses k3.1 k3.2)) (w1 := (wX5_costOf cI cJ cZ cS a_t a_s a_keptS a_statuses a_pile a_tape a_steps a_wish a_mark a_bitsOf a_sizeOf a_number a_moved v_isKept v_taped v_at v_fault v_laid v_open v_s)) fx h [0, 1] rfl rfl rfl rfl (q_runV fx h hl.1 [0, 1] rfl rfl (tX5_costOf l D cI cJ cZ cS tb a_t a_s a_keptS a_statuses a_pile a_tape a_steps a_wish a_mark a_bitsOf a_sizeOf a_number a_moved H.size v_isKept v_taped v_at v_fault v_laid v_open v_s r3 r5 k5 hg) mvX5_costOf k_822 ⟨rfl, rfl⟩ ⟨Nat.le_of_ble_eq_true rfl, Nat.le_of_ble_eq_true rfl⟩ rfl rfl rfl rfl (Nat.le_of_ble_eq_true rfl) dX5_price_40 ⟨Nat.le_of_ble_eq_true rfl, Nat.le_of_ble_eq_true rfl⟩) (fun H locs h => ?_)
      exact q_reti (fun k : (Nat → Int32) × (Nat → Int32) × (Nat → Int32) => (wX5_price cI cJ cZ cS a_t a_s a_keptS a_statuses a_pile a_tape a_steps a_wish a_mark a_bitsOf a_sizeOf a_number a_moved v_isKept v_taped v_at v_fault v_laid v_open v_s k.1 k.2.1 k.2.2)) fx hf h dX5_price_43
    have hf := it_f c4 hf
    refine lv_aload_n hx hb dX5_price_29 rfl (lv_at hl 1 rfl) ?_
    refine q_ldc fx k_864 dX5_price_30 ?_
    obtain ⟨r6, k6, hg, hf⟩ := bR_inv hf
    refine q_ci (rest := []) (ws' := (wX5_price cI cJ cZ cS a_t a_s a_keptS a_statuses a_pile a_tape a_steps a_wish a_mark a_bitsOf a_sizeOf a_number a_moved v_isKept v_taped v_at v_fault v_laid v_open v_s k6 k3.1 k3.2)) (w1 := (wX5_finds cI cJ cZ cS a_t a_s a_keptS a_statuses a_pile a_tape a_steps a_wish a_mark a_bitsOf a_sizeOf a_number a_moved v_isKept v_taped v_at v_fault v_laid v_open k6)) fx h [0, 2] rfl rfl rfl rfl (q_runV fx h hl.1 [0, 2] rfl rfl (tX5_finds l D cI cJ cZ cS tb a_t a_s a_keptS a_statuses a_pile a_tape a_steps a_wish a_mark a_bitsOf a_sizeOf a_number a_moved H.size v_isKept v_taped v_at v_fault v_laid v_open v_statuses (-1000000004) r6 k6 hg) mvX5_finds k_702 ⟨rfl, rfl⟩ ⟨Nat.le_of_ble_eq_true rfl, Nat.le_of_ble_eq_true rfl⟩ rfl rfl rfl rfl (Nat.le_of_ble_eq_true rfl) dX5_price_32 ⟨Nat.le_of_ble_eq_true rfl, Nat.le_of_ble_eq_true rfl⟩) (fun H locs h => ?_)
    refine lv_goto (tgt := 43) hx hb dX5_price_35 (by decide) ?_
    exact q_reti (fun k : (Nat → Int32) × (Nat → Int32) × (Nat → Int32) => (wX5_price cI cJ cZ cS a_t a_s a_keptS a_statuses a_pile a_tape a_steps a_wish a_mark a_bitsOf a_sizeOf a_number a_moved v_isKept v_taped v_at v_fault v_laid v_open v_s k.1 k.2.1 k.2.2)) fx hf h dX5_price_43
  have hf := it_t c2 hf
  refine lv_aload_n hx hb dX5_price_12 rfl (lv_at hl 0 rfl) ?_
  refine q_ldc fx k_701 dX5_price_13 ?_
  obtain ⟨r7, k7, hg, hf⟩ := bR_inv hf
  refine q_ci (rest := []) (ws' := (wX5_price cI cJ cZ cS a_t a_s a_keptS a_statuses a_pile a_tape a_steps a_wish a_mark a_bitsOf a_sizeOf a_number a_moved v_isKept v_taped v_at v_fault v_laid v_open v_s k7 v_pile v_wish)) (w1 := (wX5_finds cI cJ cZ cS a_t a_s a_keptS a_statuses a_pile a_tape a_steps a_wish a_mark a_bitsOf a_sizeOf a_number a_moved v_isKept v_taped v_at v_fault v_laid v_open k7)) fx h [0, 2] rfl rfl rfl rfl (q_runV fx h hl.1 [0, 2] rfl rfl (tX5_finds l D cI cJ cZ cS tb a_t a_s a_keptS a_statuses a_pile a_tape a_steps a_wish a_mark a_bitsOf a_sizeOf a_number a_moved H.size v_isKept v_taped v_at v_fault v_laid v_open v_statuses (-1000000001) r7 k7 hg) mvX5_finds k_702 ⟨rfl, rfl⟩ ⟨Nat.le_of_ble_eq_true rfl, Nat.le_of_ble_eq_true rfl⟩ rfl rfl rfl rfl (Nat.le_of_ble_eq_true rfl) dX5_price_15 ⟨Nat.le_of_ble_eq_true rfl, Nat.le_of_ble_eq_true rfl⟩) (fun H locs h => ?_)
  exact q_reti (fun k : (Nat → Int32) × (Nat → Int32) × (Nat → Int32) => (wX5_price cI cJ cZ cS a_t a_s a_keptS a_statuses a_pile a_tape a_steps a_wish a_mark a_bitsOf a_sizeOf a_number a_moved v_isKept v_taped v_at v_fault v_laid v_open v_s k.1 k.2.1 k.2.2)) fx hf h dX5_price_18
/-! X5_spoils -/
abbrev wX5_spoils (cI cJ cZ cS : ClassId) (a_t a_s a_keptS a_statuses a_pile a_tape a_steps a_wish a_mark a_bitsOf a_sizeOf a_number a_moved : Nat) (v_isKept : Int32) (v_taped : Int32) (v_at : Int32) (v_fault : Int32) (v_laid : Int32) (v_open : Int32) (v_s : Nat → Int32) (v_statuses : Nat → Int32) (v_pile : Nat → Int32) (v_wish : Nat → Int32) : va_W := [(a_t, .inr (5, [.ref a_s, .ref a_keptS, .ref a_statuses, .int v_isKept, .ref a_pile, .ref a_tape, .ref a_steps, .int v_taped, .int v_at, .int v_fault, .int v_laid, .int v_open, .ref a_wish, .ref a_mark, .ref a_bitsOf, .ref a_sizeOf, .ref a_number, .ref a_moved])), (a_s, .inl (cI, 538, .inl v_s)), (a_statuses, .inl (cI, 7, .inl v_statuses)), (a_pile, .inl (cZ, 64, .inl v_pile)), (a_wish, .inl (cI, 256, .inl v_wish))]
abbrev rX5_spoils : Room := { frames := 6, cells := 0, slots := 0, locals := 137 }
def fX5_spoils_64 (v_s : Nat → Int32) (ag11 : (Nat → Int32) → (Nat → Int32) → (Nat → Int32) → Int32 → Int32 → Int32 → Option (Int32 × (Nat → Int32) × (Nat → Int32) × (Nat → Int32))) (v_statuses : Nat → Int32) (v_pile : Nat → Int32) (v_wish : Nat → Int32) (s0 : Int32) (y1 : Int32) (y3 : Int32) : Option (Int32 × (Nat → Int32) × (Nat → Int32) × (Nat → Int32)) :=
  nm (y3 + 1) (fun u1 =>
  ag11 v_statuses v_pile v_wish y1 s0 u1)
set_option maxRecDepth 100000 in
set_option maxHeartbeats 4000000 in
theorem LX5_spoils_64 {p : Program} {l : Launch} {e : Env} {s : State} {m : MethodId} {args : Array Value} {below : List Frame} {meth : Method} {c : Code} {D : va_G} {cI cJ cZ cS : ClassId} {tb : Nat} {A : Nat → Prop} {a_t a_s a_keptS a_statuses a_pile a_tape a_steps a_wish a_mark a_bitsOf a_sizeOf a_number a_moved : Nat} {v_isKept : Int32} {v_taped : Int32} {v_at : Int32} {v_fault : Int32} {v_laid : Int32} {v_open : Int32} {v_s : Nat → Int32} {rr : Int32} {kk' : (Nat → Int32) × (Nat → Int32) × (Nat → Int32)} (fx : q_Fx p s m args meth c cX5_spoils 5 RX5 (some .int) D cI cJ cZ cS tb A) {ag11 : (Nat → Int32) → (Nat → Int32) → (Nat → Int32) → Int32 → Int32 → Int32 → Option (Int32 × (Nat → Int32) × (Nat → Int32) × (Nat → Int32))} (hag11 : ∀ {v_statuses : Nat → Int32} {v_pile : Nat → Int32} {v_wish : Nat → Int32} {y1 : Int32} {y2 : Int32} {y3 : Int32} {H : Heap} {locs : List Loc} {ls : Array Slot}, q_H D A s (wX5_spoils cI cJ cZ cS a_t a_s a_keptS a_statuses a_pile a_tape a_steps a_wish a_mark a_bitsOf a_sizeOf a_number a_moved v_isKept v_taped v_at v_fault v_laid v_open v_s v_statuses v_pile v_wish) H locs → lv_has ls 5 [(0, .ref a_t), (1, .int y1), (2, .int y2), (3, .int y3)] → ag11 v_statuses v_pile v_wish y1 y2 y3 = some (rr, kk') → W p l e rX5_spoils s m args below meth c H locs 0 0 (MQ below (q_Ri D rr A ((fun k : (Nat → Int32) × (Nat → Int32) × (Nat → Int32) => (wX5_spoils cI cJ cZ cS a_t a_s a_keptS a_statuses a_pile a_tape a_steps a_wish a_mark a_bitsOf a_sizeOf a_number a_moved v_isKept v_taped v_at v_fault v_laid v_open v_s k.1 k.2.1 k.2.2)) kk')) args s 0 0 A) (F0 m 11 ls [])) : ∀ {v_statuses : Nat → Int32} {v_pile : Nat → Int32} {v_wish : Nat → Int32} {s0 : Int32} {y1 : Int32} {y3 : Int32} {H : Heap} {locs : List Loc} {ls : Array Slot}, q_H D A s (wX5_spoils cI cJ cZ cS a_t a_s a_keptS a_statuses a_pile a_tape a_steps a_wish a_mark a_bitsOf a_sizeOf a_number a_moved v_isKept v_taped v_at v_fault v_laid v_open v_s v_statuses v_pile v_wish) H locs → lv_has ls 5 [(0, .ref a_t), (1, .int y1), (3, .int y3)] → fX5_spoils_64 v_s ag11 v_statuses v_pile v_wish s0 y1 y3 = some (rr, kk') → W p l e rX5_spoils s m args below meth c H locs 0 0 (MQ below (q_Ri D rr A ((fun k : (Nat → Int32) × (Nat → Int32) × (Nat → Int32) => (wX5_spoils cI cJ cZ cS a_t a_s a_keptS a_statuses a_pile a_tape a_steps a_wish a_mark a_bitsOf a_sizeOf a_number a_moved v_isKept v_taped v_at v_fault v_laid v_open v_s k.1 k.2.1 k.2.2)) kk')) args s 0 0 A) (F0 m 64 ls [.int s0]) := by
  intro v_statuses v_pile v_wish s0 y1 y3 H locs ls h hl hf
  have hx := fx.1
  have hb := fx.2.1
  unfold fX5_spoils_64 at hf
  refine lv_istore_n (lv' := [(2, .int s0), (0, .ref a_t), (1, .int y1), (3, .int y3)]) hx hb dX5_spoils_64 rfl hl (by decide) rfl (fun ls hl => ?_)
  obtain ⟨u1, eu1, hf⟩ := nm_inv hf
  refine lv_iinc (v := u1) (lv' := [(3, .int u1), (2, .int s0), (0, .ref a_t), (1, .int y1)]) hx hb dX5_spoils_65 hl (k := 3) rfl (by rw [eu1]; rfl) (by decide) rfl (fun ls hl => ?_)
  refine lv_goto (tgt := 11) hx hb dX5_spoils_68 (by decide) ?_
  exact hag11 h (lv_sub hl [2, 3, 1, 0] rfl) hf
def fX5_spoils_51 (v_s : Nat → Int32) (ag11 : (Nat → Int32) → (Nat → Int32) → (Nat → Int32) → Int32 → Int32 → Int32 → Option (Int32 × (Nat → Int32) × (Nat → Int32) × (Nat → Int32))) (v_statuses : Nat → Int32) (v_pile : Nat → Int32) (v_wish : Nat → Int32) (s0 : Int32) (y2 : Int32) (y3 : Int32) (y4 : Int32) : Option (Int32 × (Nat → Int32) × (Nat → Int32) × (Nat → Int32)) :=
  (if y2 ≤ y4 then (
  fX5_spoils_64 v_s ag11 v_statuses v_pile v_wish y2 s0 y3)
  else (
  fX5_spoils_64 v_s ag11 v_statuses v_pile v_wish y4 s0 y3))
set_option maxRecDepth 100000 in
set_option maxHeartbeats 4000000 in
theorem LX5_spoils_51 {p : Program} {l : Launch} {e : Env} {s : State} {m : MethodId} {args : Array Value} {below : List Frame} {meth : Method} {c : Code} {D : va_G} {cI cJ cZ cS : ClassId} {tb : Nat} {A : Nat → Prop} {a_t a_s a_keptS a_statuses a_pile a_tape a_steps a_wish a_mark a_bitsOf a_sizeOf a_number a_moved : Nat} {v_isKept : Int32} {v_taped : Int32} {v_at : Int32} {v_fault : Int32} {v_laid : Int32} {v_open : Int32} {v_s : Nat → Int32} {rr : Int32} {kk' : (Nat → Int32) × (Nat → Int32) × (Nat → Int32)} (fx : q_Fx p s m args meth c cX5_spoils 5 RX5 (some .int) D cI cJ cZ cS tb A) {ag11 : (Nat → Int32) → (Nat → Int32) → (Nat → Int32) → Int32 → Int32 → Int32 → Option (Int32 × (Nat → Int32) × (Nat → Int32) × (Nat → Int32))} (hag11 : ∀ {v_statuses : Nat → Int32} {v_pile : Nat → Int32} {v_wish : Nat → Int32} {y1 : Int32} {y2 : Int32} {y3 : Int32} {H : Heap} {locs : List Loc} {ls : Array Slot}, q_H D A s (wX5_spoils cI cJ cZ cS a_t a_s a_keptS a_statuses a_pile a_tape a_steps a_wish a_mark a_bitsOf a_sizeOf a_number a_moved v_isKept v_taped v_at v_fault v_laid v_open v_s v_statuses v_pile v_wish) H locs → lv_has ls 5 [(0, .ref a_t), (1, .int y1), (2, .int y2), (3, .int y3)] → ag11 v_statuses v_pile v_wish y1 y2 y3 = some (rr, kk') → W p l e rX5_spoils s m args below meth c H locs 0 0 (MQ below (q_Ri D rr A ((fun k : (Nat → Int32) × (Nat → Int32) × (Nat → Int32) => (wX5_spoils cI cJ cZ cS a_t a_s a_keptS a_statuses a_pile a_tape a_steps a_wish a_mark a_bitsOf a_sizeOf a_number a_moved v_isKept v_taped v_at v_fault v_laid v_open v_s k.1 k.2.1 k.2.2)) kk')) args s 0 0 A) (F0 m 11 ls [])) : ∀ {v_statuses : Nat → Int32} {v_pile : Nat → Int32} {v_wish : Nat → Int32} {s0 : Int32} {y2 : Int32} {y3 : Int32} {y4 : Int32} {H : Heap} {locs : List Loc} {ls : Array Slot}, q_H D A s (wX5_spoils cI cJ cZ cS a_t a_s a_keptS a_statuses a_pile a_tape a_steps a_wish a_mark a_bitsOf a_sizeOf a_number a_moved v_isKept v_taped v_at v_fault v_laid v_open v_s v_statuses v_pile v_wish) H locs → lv_has ls 5 [(0, .ref a_t), (2, .int y2), (3, .int y3), (4, .int y4)] → fX5_spoils_51 v_s ag11 v_statuses v_pile v_wish s0 y2 y3 y4 = some (rr, kk') → W p l e rX5_spoils s m args below meth c H locs 0 0 (MQ below (q_Ri D rr A ((fun k : (Nat → Int32) × (Nat → Int32) × (Nat → Int32) => (wX5_spoils cI cJ cZ cS a_t a_s a_keptS a_statuses a_pile a_tape a_steps a_wish a_mark a_bitsOf a_sizeOf a_number a_moved v_isKept v_taped v_at v_fault v_laid v_open v_s k.1 k.2.1 k.2.2)) kk')) args s 0 0 A) (F0 m 51 ls [.int s0]) := by
  intro v_statuses v_pile v_wish s0 y2 y3 y4 H locs ls h hl hf
  have hx := fx.1
  have hb := fx.2.1
  unfold fX5_spoils_51 at hf
  refine lv_istore_n (lv' := [(1, .int s0), (0, .ref a_t), (2, .int y2), (3, .int y3), (4, .int y4)]) hx hb dX5_spoils_51 rfl hl (by decide) rfl (fun ls hl => ?_)
  refine lv_iload hx hb dX5_spoils_52 (lv_at hl 4 rfl) ?_
  refine lv_iload_n hx hb dX5_spoils_54 rfl (lv_at hl 2 rfl) ?_
  refine lv_icmp_ge (tgt := 63) hx hb dX5_spoils_55 (by decide) (fun c2 => ?_) (fun c2 => ?_)
  · have hf := it_t c2 hf
    refine lv_iload_n hx hb dX5_spoils_63 rfl (lv_at hl 2 rfl) ?_
    exact LX5_spoils_64 fx hag11 h (lv_sub hl [1, 0, 3] rfl) hf
  have hf := it_f c2 hf
  refine lv_iload hx hb dX5_spoils_58 (lv_at hl 4 rfl) ?_
  refine lv_goto (tgt := 64) hx hb dX5_spoils_60 (by decide) ?_
  exact LX5_spoils_64 fx hag11 h (lv_sub hl [1, 0, 3] rfl) hf
def fX5_spoils_11 (v_s : Nat → Int32) (ag11 : (Nat → Int32) → (Nat → Int32) → (Nat → Int32) → Int32 → Int32 → Int32 → Option (Int32 × (Nat → Int32) × (Nat → Int32) × (Nat → Int32))) (v_statuses : Nat → Int32) (v_pile : Nat → Int32) (v_wish : Nat → Int32) (y1 : Int32) (y2 : Int32) (y3 : Int32) : Option (Int32 × (Nat → Int32) × (Nat → Int32) × (Nat → Int32)) :=
  (if (v_s 0) ≤ y3 then (
  bR (fX5_orNone v_statuses y1) (fun r4 k4 =>
  some (r4, (k4, v_pile, v_wish))))
  else (
  bR (fX5_lastOf v_wish 0 (255 &&& ((jshl 1 y3) ^^^ (-1)))) (fun r5 k5 =>
  bR (fX5_ones r5) (fun r6 k6 =>
  (if y2 ≤ r6 then (
  fX5_spoils_51 v_s ag11 v_statuses v_pile v_wish y1 y2 y3 r6)
  else (
  fX5_spoils_51 v_s ag11 v_statuses v_pile v_wish y3 y2 y3 r6))))))
set_option maxRecDepth 100000 in
set_option maxHeartbeats 4000000 in
theorem LX5_spoils_11 {p : Program} {l : Launch} {e : Env} {s : State} {m : MethodId} {args : Array Value} {below : List Frame} {meth : Method} {c : Code} {D : va_G} {cI cJ cZ cS : ClassId} {tb : Nat} {A : Nat → Prop} {a_t a_s a_keptS a_statuses a_pile a_tape a_steps a_wish a_mark a_bitsOf a_sizeOf a_number a_moved : Nat} {v_isKept : Int32} {v_taped : Int32} {v_at : Int32} {v_fault : Int32} {v_laid : Int32} {v_open : Int32} {v_s : Nat → Int32} {rr : Int32} {kk' : (Nat → Int32) × (Nat → Int32) × (Nat → Int32)} (fx : q_Fx p s m args meth c cX5_spoils 5 RX5 (some .int) D cI cJ cZ cS tb A) {ag11 : (Nat → Int32) → (Nat → Int32) → (Nat → Int32) → Int32 → Int32 → Int32 → Option (Int32 × (Nat → Int32) × (Nat → Int32) × (Nat → Int32))} (hag11 : ∀ {v_statuses : Nat → Int32} {v_pile : Nat → Int32} {v_wish : Nat → Int32} {y1 : Int32} {y2 : Int32} {y3 : Int32} {H : Heap} {locs : List Loc} {ls : Array Slot}, q_H D A s (wX5_spoils cI cJ cZ cS a_t a_s a_keptS a_statuses a_pile a_tape a_steps a_wish a_mark a_bitsOf a_sizeOf a_number a_moved v_isKept v_taped v_at v_fault v_laid v_open v_s v_statuses v_pile v_wish) H locs → lv_has ls 5 [(0, .ref a_t), (1, .int y1), (2, .int y2), (3, .int y3)] → ag11 v_statuses v_pile v_wish y1 y2 y3 = some (rr, kk') → W p l e rX5_spoils s m args below meth c H locs 0 0 (MQ below (q_Ri D rr A ((fun k : (Nat → Int32) × (Nat → Int32) × (Nat → Int32) => (wX5_spoils cI cJ cZ cS a_t a_s a_keptS a_statuses a_pile a_tape a_steps a_wish a_mark a_bitsOf a_sizeOf a_number a_moved v_isKept v_taped v_at v_fault v_laid v_open v_s k.1 k.2.1 k.2.2)) kk')) args s 0 0 A) (F0 m 11 ls [])) : ∀ {v_statuses : Nat → Int32} {v_pile : Nat → Int32} {v_wish : Nat → Int32} {y1 : Int32} {y2 : Int32} {y3 : Int32} {H : Heap} {locs : List Loc} {ls : Array Slot}, q_H D A s (wX5_spoils cI cJ cZ cS a_t a_s a_keptS a_statuses a_pile a_tape a_steps a_wish a_mark a_bitsOf a_sizeOf a_number a_moved v_isKept v_taped v_at v_fault v_laid v_open v_s v_statuses v_pile v_wish) H locs → lv_has ls 5 [(0, .ref a_t), (1, .int y1), (2, .int y2), (3, .int y3)] → fX5_spoils_11 v_s ag11 v_statuses v_pile v_wish y1 y2 y3 = some (rr, kk') → W p l e rX5_spoils s m args below meth c H locs 0 0 (MQ below (q_Ri D rr A ((fun k : (Nat → Int32) × (Nat → Int32) × (Nat → Int32) => (wX5_spoils cI cJ cZ cS a_t a_s a_keptS a_statuses a_pile a_tape a_steps a_wish a_mark a_bitsOf a_sizeOf a_number a_moved v_isKept v_taped v_at v_fault v_laid v_open v_s k.1 k.2.1 k.2.2)) kk')) args s 0 0 A) (F0 m 11 ls []) := by
  intro v_statuses v_pile v_wish y1 y2 y3 H locs ls h hl hf
  have hx := fx.1
  have hb := fx.2.1
  unfold fX5_spoils_11 at hf
  refine lv_iload_n hx hb dX5_spoils_11 rfl (lv_at hl 3 rfl) ?_
  refine lv_aload_n hx hb dX5_spoils_12 rfl (lv_at hl 0 rfl) ?_
  refine q_get (v := .ref a_s) fx inX5 h 0 rfl rfl 0 (by decide) k_636 rfl dX5_spoils_13 ?_
  refine lv_iconst (v := 0) hx hb dX5_spoils_16 (by decide) ?_
  refine q_ialdK fx h 1 rfl 0 (vinK (by decide)) (by decide) dX5_spoils_17 ?_
  refine lv_icmp_ge (tgt := 71) hx hb dX5_spoils_18 (by decide) (fun c3 => ?_) (fun c3 => ?_)
  · have hf := it_t c3 hf
    refine lv_aload_n hx hb dX5_spoils_71 rfl (lv_at hl 0 rfl) ?_
    refine lv_iload_n hx hb dX5_spoils_72 rfl (lv_at hl 1 rfl) ?_
    obtain ⟨r4, k4, hg, hf⟩ := bR_inv hf
    refine q_ci (rest := []) (ws' := (wX5_spoils cI cJ cZ cS a_t a_s a_keptS a_statuses a_pile a_tape a_steps a_wish a_mark a_bitsOf a_sizeOf a_number a_moved v_isKept v_taped v_at v_fault v_laid v_open v_s k4 v_pile v_wish)) (w1 := (wX5_orNone cI cJ cZ cS a_t a_s a_keptS a_statuses a_pile a_tape a_steps a_wish a_mark a_bitsOf a_sizeOf a_number a_moved v_isKept v_taped v_at v_fault v_laid v_open k4)) fx h [0, 2] rfl rfl rfl rfl (q_runV fx h hl.1 [0, 2] rfl rfl (tX5_orNone l D cI cJ cZ cS tb a_t a_s a_keptS a_statuses a_pile a_tape a_steps a_wish a_mark a_bitsOf a_sizeOf a_number a_moved H.size v_isKept v_taped v_at v_fault v_laid v_open v_statuses y1 r4 k4 hg) mvX5_orNone k_877 ⟨rfl, rfl⟩ ⟨Nat.le_of_ble_eq_true rfl, Nat.le_of_ble_eq_true rfl⟩ rfl rfl rfl rfl (Nat.le_of_ble_eq_true rfl) dX5_spoils_73 ⟨Nat.le_of_ble_eq_true rfl, Nat.le_of_ble_eq_true rfl⟩) (fun H locs h => ?_)
    exact q_reti (fun k : (Nat → Int32) × (Nat → Int32) × (Nat → Int32) => (wX5_spoils cI cJ cZ cS a_t a_s a_keptS a_statuses a_pile a_tape a_steps a_wish a_mark a_bitsOf a_sizeOf a_number a_moved v_isKept v_taped v_at v_fault v_laid v_open v_s k.1 k.2.1 k.2.2)) fx hf h dX5_spoils_76
  have hf := it_f c3 hf
  refine lv_aload_n hx hb dX5_spoils_21 rfl (lv_at hl 0 rfl) ?_
  refine lv_iconst (v := 0) hx hb dX5_spoils_22 (by decide) ?_
  refine lv_sipush (v := 255) hx hb dX5_spoils_23 (by decide) ?_
  refine lv_iconst (v := 1) hx hb dX5_spoils_26 (by decide) ?_
  refine lv_iload_n hx hb dX5_spoils_27 rfl (lv_at hl 3 rfl) ?_
  refine lv_ishl hx hb dX5_spoils_28 ?_
  refine lv_iconst (v := -1) hx hb dX5_spoils_29 (by decide) ?_
  refine lv_ixor hx hb dX5_spoils_30 ?_
  refine lv_iand hx hb dX5_spoils_31 ?_
  obtain ⟨r5, k5, hg, hf⟩ := bR_inv hf
  refine q_ci (rest := []) (ws' := (wX5_spoils cI cJ cZ cS a_t a_s a_keptS a_statuses a_pile a_tape a_steps a_wish a_mark a_bitsOf a_sizeOf a_number a_moved v_isKept v_taped v_at v_fault v_laid v_open v_s v_statuses v_pile v_wish)) (w1 := (wX5_lastOf cI cJ cZ cS a_t a_s a_keptS a_statuses a_pile a_tape a_steps a_wish a_mark a_bitsOf a_sizeOf a_number a_moved v_isKept v_taped v_at v_fault v_laid v_open v_wish)) fx h [0, 4] rfl rfl rfl rfl (q_runV fx h hl.1 [0, 4] rfl rfl (tX5_lastOf l D cI cJ cZ cS tb a_t a_s a_keptS a_statuses a_pile a_tape a_steps a_wish a_mark a_bitsOf a_sizeOf a_number a_moved H.size v_isKept v_taped v_at v_fault v_laid v_open v_wish 0 (255 &&& ((jshl 1 y3) ^^^ (-1))) r5 k5 hg) mvX5_lastOf k_918 ⟨rfl, rfl⟩ ⟨Nat.le_of_ble_eq_true rfl, Nat.le_of_ble_eq_true rfl⟩ rfl rfl rfl rfl (Nat.le_of_ble_eq_true rfl) dX5_spoils_32 ⟨Nat.le_of_ble_eq_true rfl, Nat.le_of_ble_eq_true rfl⟩) (fun H locs h => ?_)
  obtain ⟨r6, k6, hg, hf⟩ := bR_inv hf
  refine q_ci (rest := []) (ws' := (wX5_spoils cI cJ cZ cS a_t a_s a_keptS a_statuses a_pile a_tape a_steps a_wish a_mark a_bitsOf a_sizeOf a_number a_moved v_isKept v_taped v_at v_fault v_laid v_open v_s v_statuses v_pile v_wish)) (w1 := (wX5_ones cI cJ cZ cS)) fx h [] rfl rfl rfl rfl (q_runS fx h hl.1 [] rfl rfl (tX5_ones l D cI cJ cZ cS tb H.size r5 r6 k6 hg) msX5_ones k_722 ⟨rfl, rfl⟩ ⟨Nat.le_of_ble_eq_true rfl, Nat.le_of_ble_eq_true rfl⟩ rfl rfl (Nat.le_of_ble_eq_true rfl) dX5_spoils_35 ⟨Nat.le_of_ble_eq_true rfl, Nat.le_of_ble_eq_true rfl⟩) (fun H locs h => ?_)
  refine lv_istore (lv' := [(4, .int r6), (0, .ref a_t), (1, .int y1), (2, .int y2), (3, .int y3)]) hx hb dX5_spoils_38 hl (by decide) rfl (fun ls hl => ?_)
  refine lv_iload hx hb dX5_spoils_40 (lv_at hl 0 rfl) ?_
  refine lv_iload_n hx hb dX5_spoils_42 rfl (lv_at hl 3 rfl) ?_
  refine lv_icmp_ge (tgt := 50) hx hb dX5_spoils_43 (by decide) (fun c7 => ?_) (fun c7 => ?_)
  · have hf := it_t c7 hf
    refine lv_iload_n hx hb dX5_spoils_50 rfl (lv_at hl 2 rfl) ?_
    exact LX5_spoils_51 fx hag11 h (lv_sub hl [1, 3, 4, 0] rfl) hf
  have hf := it_f c7 hf
  refine lv_iload_n hx hb dX5_spoils_46 rfl (lv_at hl 4 rfl) ?_
  refine lv_goto (tgt := 51) hx hb dX5_spoils_47 (by decide) ?_
  exact LX5_spoils_51 fx hag11 h (lv_sub hl [1, 3, 4, 0] rfl) hf
set_option maxRecDepth 100000 in
theorem EX5_spoils_11 {p : Program} {l : Launch} {e : Env} {s : State} {m : MethodId} {args : Array Value} {below : List Frame} {meth : Method} {c : Code} {D : va_G} {cI cJ cZ cS : ClassId} {tb : Nat} {A : Nat → Prop} {a_t a_s a_keptS a_statuses a_pile a_tape a_steps a_wish a_mark a_bitsOf a_sizeOf a_number a_moved : Nat} {v_isKept : Int32} {v_taped : Int32} {v_at : Int32} {v_fault : Int32} {v_laid : Int32} {v_open : Int32} {v_s : Nat → Int32} {rr : Int32} {kk' : (Nat → Int32) × (Nat → Int32) × (Nat → Int32)} (fx : q_Fx p s m args meth c cX5_spoils 5 RX5 (some .int) D cI cJ cZ cS tb A) : ∀ (n : Nat), ∀ {v_statuses : Nat → Int32} {v_pile : Nat → Int32} {v_wish : Nat → Int32} {y1 : Int32} {y2 : Int32} {y3 : Int32} {H : Heap} {locs : List Loc} {ls : Array Slot}, q_H D A s (wX5_spoils cI cJ cZ cS a_t a_s a_keptS a_statuses a_pile a_tape a_steps a_wish a_mark a_bitsOf a_sizeOf a_number a_moved v_isKept v_taped v_at v_fault v_laid v_open v_s v_statuses v_pile v_wish) H locs → lv_has ls 5 [(0, .ref a_t), (1, .int y1), (2, .int y2), (3, .int y3)] → ll6 (fX5_spoils_11 v_s) n v_statuses v_pile v_wish y1 y2 y3 = some (rr, kk') → W p l e rX5_spoils s m args below meth c H locs 0 0 (MQ below (q_Ri D rr A ((fun k : (Nat → Int32) × (Nat → Int32) × (Nat → Int32) => (wX5_spoils cI cJ cZ cS a_t a_s a_keptS a_statuses a_pile a_tape a_steps a_wish a_mark a_bitsOf a_sizeOf a_number a_moved v_isKept v_taped v_at v_fault v_laid v_open v_s k.1 k.2.1 k.2.2)) kk')) args s 0 0 A) (F0 m 11 ls []) := by
  intro n
  induction n with
  | zero => intro v_statuses v_pile v_wish y1 y2 y3 H locs ls h hl hf; exact (ll6_z hf).elim
  | succ n ih => intro v_statuses v_pile v_wish y1 y2 y3 H locs ls h hl hf; exact LX5_spoils_11 fx ih h hl (ll6_s hf)
def fX5_spoils (v_s : Nat → Int32) (v_statuses : Nat → Int32) (v_pile : Nat → Int32) (v_wish : Nat → Int32) : Option (Int32 × (Nat → Int32) × (Nat → Int32) × (Nat → Int32)) :=
  bV (fX5_looksAll v_s v_pile v_wish) (fun k8 =>
  ll6 (fX5_spoils_11 v_s) qF v_statuses k8.1 k8.2 (-1) 9 0)
set_option maxRecDepth 100000 in
set_option maxHeartbeats 4000000 in
theorem tX5_spoils (l : Launch) (D : va_G) (cI cJ cZ cS : ClassId) (tb : Nat) (a_t a_s a_keptS a_statuses a_pile a_tape a_steps a_wish a_mark a_bitsOf a_sizeOf a_number a_moved : Nat) (sz : Nat) (v_isKept : Int32) (v_taped : Int32) (v_at : Int32) (v_fault : Int32) (v_laid : Int32) (v_open : Int32) (v_s : Nat → Int32) (v_statuses : Nat → Int32) (v_pile : Nat → Int32) (v_wish : Nat → Int32) (rr : Int32) (kk' : (Nat → Int32) × (Nat → Int32) × (Nat → Int32)) (hf : fX5_spoils v_s v_statuses v_pile v_wish = some (rr, kk')) : Met l yX5_spoils (Cond.code yX5_spoils cX5_spoils 5 (some .int) :: wA) rX5_spoils (q_Pre D cI cJ cZ cS tb [.ref a_t] sz (wX5_spoils cI cJ cZ cS a_t a_s a_keptS a_statuses a_pile a_tape a_steps a_wish a_mark a_bitsOf a_sizeOf a_number a_moved v_isKept v_taped v_at v_fault v_laid v_open v_s v_statuses v_pile v_wish)) (q_Ri D rr (va_A (wX5_spoils cI cJ cZ cS a_t a_s a_keptS a_statuses a_pile a_tape a_steps a_wish a_mark a_bitsOf a_sizeOf a_number a_moved v_isKept v_taped v_at v_fault v_laid v_open v_s v_statuses v_pile v_wish) sz) ((fun k : (Nat → Int32) × (Nat → Int32) × (Nat → Int32) => (wX5_spoils cI cJ cZ cS a_t a_s a_keptS a_statuses a_pile a_tape a_steps a_wish a_mark a_bitsOf a_sizeOf a_number a_moved v_isKept v_taped v_at v_fault v_laid v_open v_s k.1 k.2.1 k.2.2)) kk')) 0 0 (va_A (wX5_spoils cI cJ cZ cS a_t a_s a_keptS a_statuses a_pile a_tape a_steps a_wish a_mark a_bitsOf a_sizeOf a_number a_moved v_isKept v_taped v_at v_fault v_laid v_open v_s v_statuses v_pile v_wish) sz) := by
  refine q_enter (Qf := fun A => (q_Ri D rr A ((fun k : (Nat → Int32) × (Nat → Int32) × (Nat → Int32) => (wX5_spoils cI cJ cZ cS a_t a_s a_keptS a_statuses a_pile a_tape a_steps a_wish a_mark a_bitsOf a_sizeOf a_number a_moved v_isKept v_taped v_at v_fault v_laid v_open v_s k.1 k.2.1 k.2.2)) kk'))) (by decide) rfl (Nat.le_of_ble_eq_true rfl) ?_
  intro p e s m below meth c A ls fx hname h hl
  have hx := fx.1
  have hb := fx.2.1
  have hl : lv_has ls 5 [(0, .ref a_t)] := hl
  generalize h9 : s.heap = H at h ⊢
  clear h9
  generalize h9 : ([] : List Loc) = locs at h ⊢
  clear h9
  unfold fX5_spoils at hf
  refine lv_aload_n hx hb dX5_spoils_0 rfl (lv_at hl 0 rfl) ?_
  obtain ⟨k8, hg, hf⟩ := bV_inv hf
  refine q_cv (rest := []) (ws' := (wX5_spoils cI cJ cZ cS a_t a_s a_keptS a_statuses a_pile a_tape a_steps a_wish a_mark a_bitsOf a_sizeOf a_number a_moved v_isKept v_taped v_at v_fault v_laid v_open v_s v_statuses k8.1 k8.2)) (w1 := (wX5_looksAll cI cJ cZ cS a_t a_s a_keptS a_statuses a_pile a_tape a_steps a_wish a_mark a_bitsOf a_sizeOf a_number a_moved v_isKept v_taped v_at v_fault v_laid v_open v_s k8.1 k8.2)) fx h [0, 1, 3, 4] rfl rfl rfl rfl (q_runV fx h hl.1 [0, 1, 3, 4] rfl rfl (tX5_looksAll l D cI cJ cZ cS tb a_t a_s a_keptS a_statuses a_pile a_tape a_steps a_wish a_mark a_bitsOf a_sizeOf a_number a_moved H.size v_isKept v_taped v_at v_fault v_laid v_open v_s v_pile v_wish k8 hg) mvX5_looksAll k_860 ⟨rfl, rfl⟩ ⟨Nat.le_of_ble_eq_true rfl, Nat.le_of_ble_eq_true rfl⟩ rfl rfl rfl rfl (Nat.le_of_ble_eq_true rfl) dX5_spoils_1 ⟨Nat.le_of_ble_eq_true rfl, Nat.le_of_ble_eq_true rfl⟩) (fun H locs h => ?_)
  refine lv_iconst (v := -1) hx hb dX5_spoils_4 (by decide) ?_
  refine lv_istore_n (lv' := [(1, .int (-1)), (0, .ref a_t)]) hx hb dX5_spoils_5 rfl hl (by decide) rfl (fun ls hl => ?_)
  refine lv_bipush (v := 9) hx hb dX5_spoils_6 (by decide) ?_
  refine lv_istore_n (lv' := [(2, .int 9), (1, .int (-1)), (0, .ref a_t)]) hx hb dX5_spoils_8 rfl hl (by decide) rfl (fun ls hl => ?_)
  refine lv_iconst (v := 0) hx hb dX5_spoils_9 (by decide) ?_
  refine lv_istore_n (lv' := [(3, .int 0), (2, .int 9), (1, .int (-1)), (0, .ref a_t)]) hx hb dX5_spoils_10 rfl hl (by decide) rfl (fun ls hl => ?_)
  exact EX5_spoils_11 fx qF h (lv_sub hl [3, 2, 1, 0] rfl) hf
/-! X5_invites -/
abbrev wX5_invites (cI cJ cZ cS : ClassId) (a_t a_s a_keptS a_statuses a_pile a_tape a_steps a_wish a_mark a_bitsOf a_sizeOf a_number a_moved : Nat) (v_isKept : Int32) (v_taped : Int32) (v_at : Int32) (v_fault : Int32) (v_laid : Int32) (v_open : Int32) (v_s : Nat → Int32) (v_statuses : Nat → Int32) (v_pile : Nat → Int32) (v_wish : Nat → Int32) : va_W := [(a_t, .inr (5, [.ref a_s, .ref a_keptS, .ref a_statuses, .int v_isKept, .ref a_pile, .ref a_tape, .ref a_steps, .int v_taped, .int v_at, .int v_fault, .int v_laid, .int v_open, .ref a_wish, .ref a_mark, .ref a_bitsOf, .ref a_sizeOf, .ref a_number, .ref a_moved])), (a_s, .inl (cI, 538, .inl v_s)), (a_statuses, .inl (cI, 7, .inl v_statuses)), (a_pile, .inl (cZ, 64, .inl v_pile)), (a_wish, .inl (cI, 256, .inl v_wish))]
abbrev rX5_invites : Room := { frames := 6, cells := 0, slots := 0, locals := 137 }
def fX5_invites_128 (v_s : Nat → Int32) (ag45 : (Nat → Int32) → (Nat → Int32) → (Nat → Int32) → Int32 → Int32 → Int32 → Int32 → Option (Int32 × (Nat → Int32) × (Nat → Int32) × (Nat → Int32))) (v_statuses : Nat → Int32) (v_pile : Nat → Int32) (v_wish : Nat → Int32) (s0 : Int32) (y1 : Int32) (y2 : Int32) (y4 : Int32) : Option (Int32 × (Nat → Int32) × (Nat → Int32) × (Nat → Int32)) :=
  nm (y4 + 1) (fun u1 =>
  ag45 v_statuses v_pile v_wish y1 y2 s0 u1)
set_option maxRecDepth 100000 in
set_option maxHeartbeats 4000000 in
theorem LX5_invites_128 {p : Program} {l : Launch} {e : Env} {s : State} {m : MethodId} {args : Array Value} {below : List Frame} {meth : Method} {c : Code} {D : va_G} {cI cJ cZ cS : ClassId} {tb : Nat} {A : Nat → Prop} {a_t a_s a_keptS a_statuses a_pile a_tape a_steps a_wish a_mark a_bitsOf a_sizeOf a_number a_moved : Nat} {v_isKept : Int32} {v_taped : Int32} {v_at : Int32} {v_fault : Int32} {v_laid : Int32} {v_open : Int32} {v_s : Nat → Int32} {rr : Int32} {kk' : (Nat → Int32) × (Nat → Int32) × (Nat → Int32)} (fx : q_Fx p s m args meth c cX5_invites 7 RX5 (some .int) D cI cJ cZ cS tb A) {ag45 : (Nat → Int32) → (Nat → Int32) → (Nat → Int32) → Int32 → Int32 → Int32 → Int32 → Option (Int32 × (Nat → Int32) × (Nat → Int32) × (Nat → Int32))} (hag45 : ∀ {v_statuses : Nat → Int32} {v_pile : Nat → Int32} {v_wish : Nat → Int32} {y1 : Int32} {y2 : Int32} {y3 : Int32} {y4 : Int32} {H : Heap} {locs : List Loc} {ls : Array Slot}, q_H D A s (wX5_invites cI cJ cZ cS a_t a_s a_keptS a_statuses a_pile a_tape a_steps a_wish a_mark a_bitsOf a_sizeOf a_number a_moved v_isKept v_taped v_at v_fault v_laid v_open v_s v_statuses v_pile v_wish) H locs → lv_has ls 7 [(0, .ref a_t), (1, .int y1), (2, .int y2), (3, .int y3), (4, .int y4)] → ag45 v_statuses v_pile v_wish y1 y2 y3 y4 = some (rr, kk') → W p l e rX5_invites s m args below meth c H locs 0 0 (MQ below (q_Ri D rr A ((fun k : (Nat → Int32) × (Nat → Int32) × (Nat → Int32) => (wX5_invites cI cJ cZ cS a_t a_s a_keptS a_statuses a_pile a_tape a_steps a_wish a_mark a_bitsOf a_sizeOf a_number a_moved v_isKept v_taped v_at v_fault v_laid v_open v_s k.1 k.2.1 k.2.2)) kk')) args s 0 0 A) (F0 m 45 ls [])) : ∀ {v_statuses : Nat → Int32} {v_pile : Nat → Int32} {v_wish : Nat → Int32} {s0 : Int32} {y1 : Int32} {y2 : Int32} {y4 : Int32} {H : Heap} {locs : List Loc} {ls : Array Slot}, q_H D A s (wX5_invites cI cJ cZ cS a_t a_s a_keptS a_statuses a_pile a_tape a_steps a_wish a_mark a_bitsOf a_sizeOf a_number a_moved v_isKept v_taped v_at v_fault v_laid v_open v_s v_statuses v_pile v_wish) H locs → lv_has ls 7 [(0, .ref a_t), (1, .int y1), (2, .int y2), (4, .int y4)] → fX5_invites_128 v_s ag45 v_statuses v_pile v_wish s0 y1 y2 y4 = some (rr, kk') → W p l e rX5_invites s m args below meth c H locs 0 0 (MQ below (q_Ri D rr A ((fun k : (Nat → Int32) × (Nat → Int32) × (Nat → Int32) => (wX5_invites cI cJ cZ cS a_t a_s a_keptS a_statuses a_pile a_tape a_steps a_wish a_mark a_bitsOf a_sizeOf a_number a_moved v_isKept v_taped v_at v_fault v_laid v_open v_s k.1 k.2.1 k.2.2)) kk')) args s 0 0 A) (F0 m 128 ls [.int s0]) := by
  intro v_statuses v_pile v_wish s0 y1 y2 y4 H locs ls h hl hf
  have hx := fx.1
  have hb := fx.2.1
  unfold fX5_invites_128 at hf
  refine lv_istore_n (lv' := [(3, .int s0), (0, .ref a_t), (1, .int y1), (2, .int y2), (4, .int y4)]) hx hb dX5_invites_128 rfl hl (by decide) rfl (fun ls hl => ?_)
  obtain ⟨u1, eu1, hf⟩ := nm_inv hf
  refine lv_iinc (v := u1) (lv' := [(4, .int u1), (3, .int s0), (0, .ref a_t), (1, .int y1), (2, .int y2)]) hx hb dX5_invites_129 hl (k := 4) rfl (by rw [eu1]; rfl) (by decide) rfl (fun ls hl => ?_)
  refine lv_goto (tgt := 45) hx hb dX5_invites_132 (by decide) ?_
  exact hag45 h (lv_sub hl [2, 3, 4, 1, 0] rfl) hf
def fX5_invites_127 (v_s : Nat → Int32) (ag45 : (Nat → Int32) → (Nat → Int32) → (Nat → Int32) → Int32 → Int32 → Int32 → Int32 → Option (Int32 × (Nat → Int32) × (Nat → Int32) × (Nat → Int32))) (v_statuses : Nat → Int32) (v_pile : Nat → Int32) (v_wish : Nat → Int32) (y1 : Int32) (y2 : Int32) (y3 : Int32) (y4 : Int32) : Option (Int32 × (Nat → Int32) × (Nat → Int32) × (Nat → Int32)) :=
  fX5_invites_128 v_s ag45 v_statuses v_pile v_wish y3 y1 y2 y4
set_option maxRecDepth 100000 in
set_option maxHeartbeats 4000000 in
theorem LX5_invites_127 {p : Program} {l : Launch} {e : Env} {s : State} {m : MethodId} {args : Array Value} {below : List Frame} {meth : Method} {c : Code} {D : va_G} {cI cJ cZ cS : ClassId} {tb : Nat} {A : Nat → Prop} {a_t a_s a_keptS a_statuses a_pile a_tape a_steps a_wish a_mark a_bitsOf a_sizeOf a_number a_moved : Nat} {v_isKept : Int32} {v_taped : Int32} {v_at : Int32} {v_fault : Int32} {v_laid : Int32} {v_open : Int32} {v_s : Nat → Int32} {rr : Int32} {kk' : (Nat → Int32) × (Nat → Int32) × (Nat → Int32)} (fx : q_Fx p s m args meth c cX5_invites 7 RX5 (some .int) D cI cJ cZ cS tb A) {ag45 : (Nat → Int32) → (Nat → Int32) → (Nat → Int32) → Int32 → Int32 → Int32 → Int32 → Option (Int32 × (Nat → Int32) × (Nat → Int32) × (Nat → Int32))} (hag45 : ∀ {v_statuses : Nat → Int32} {v_pile : Nat → Int32} {v_wish : Nat → Int32} {y1 : Int32} {y2 : Int32} {y3 : Int32} {y4 : Int32} {H : Heap} {locs : List Loc} {ls : Array Slot}, q_H D A s (wX5_invites cI cJ cZ cS a_t a_s a_keptS a_statuses a_pile a_tape a_steps a_wish a_mark a_bitsOf a_sizeOf a_number a_moved v_isKept v_taped v_at v_fault v_laid v_open v_s v_statuses v_pile v_wish) H locs → lv_has ls 7 [(0, .ref a_t), (1, .int y1), (2, .int y2), (3, .int y3), (4, .int y4)] → ag45 v_statuses v_pile v_wish y1 y2 y3 y4 = some (rr, kk') → W p l e rX5_invites s m args below meth c H locs 0 0 (MQ below (q_Ri D rr A ((fun k : (Nat → Int32) × (Nat → Int32) × (Nat → Int32) => (wX5_invites cI cJ cZ cS a_t a_s a_keptS a_statuses a_pile a_tape a_steps a_wish a_mark a_bitsOf a_sizeOf a_number a_moved v_isKept v_taped v_at v_fault v_laid v_open v_s k.1 k.2.1 k.2.2)) kk')) args s 0 0 A) (F0 m 45 ls [])) : ∀ {v_statuses : Nat → Int32} {v_pile : Nat → Int32} {v_wish : Nat → Int32} {y1 : Int32} {y2 : Int32} {y3 : Int32} {y4 : Int32} {H : Heap} {locs : List Loc} {ls : Array Slot}, q_H D A s (wX5_invites cI cJ cZ cS a_t a_s a_keptS a_statuses a_pile a_tape a_steps a_wish a_mark a_bitsOf a_sizeOf a_number a_moved v_isKept v_taped v_at v_fault v_laid v_open v_s v_statuses v_pile v_wish) H locs → lv_has ls 7 [(0, .ref a_t), (1, .int y1), (2, .int y2), (3, .int y3), (4, .int y4)] → fX5_invites_127 v_s ag45 v_statuses v_pile v_wish y1 y2 y3 y4 = some (rr, kk') → W p l e rX5_invites s m args below meth c H locs 0 0 (MQ below (q_Ri D rr A ((fun k : (Nat → Int32) × (Nat → Int32) × (Nat → Int32) => (wX5_invites cI cJ cZ cS a_t a_s a_keptS a_statuses a_pile a_tape a_steps a_wish a_mark a_bitsOf a_sizeOf a_number a_moved v_isKept v_taped v_at v_fault v_laid v_open v_s k.1 k.2.1 k.2.2)) kk')) args s 0 0 A) (F0 m 127 ls []) := by
  intro v_statuses v_pile v_wish y1 y2 y3 y4 H locs ls h hl hf
  have hx := fx.1
  have hb := fx.2.1
  unfold fX5_invites_127 at hf
  refine lv_iload_n hx hb dX5_invites_127 rfl (lv_at hl 3 rfl) ?_
  exact LX5_invites_128 fx hag45 h (lv_sub hl [0, 1, 2, 4] rfl) hf
def fX5_invites_122 (v_s : Nat → Int32) (ag45 : (Nat → Int32) → (Nat → Int32) → (Nat → Int32) → Int32 → Int32 → Int32 → Int32 → Option (Int32 × (Nat → Int32) × (Nat → Int32) × (Nat → Int32))) (v_statuses : Nat → Int32) (v_pile : Nat → Int32) (v_wish : Nat → Int32) (y1 : Int32) (y2 : Int32) (y4 : Int32) : Option (Int32 × (Nat → Int32) × (Nat → Int32) × (Nat → Int32)) :=
  fX5_invites_128 v_s ag45 v_statuses v_pile v_wish y4 y1 y2 y4
set_option maxRecDepth 100000 in
set_option maxHeartbeats 4000000 in
theorem LX5_invites_122 {p : Program} {l : Launch} {e : Env} {s : State} {m : MethodId} {args : Array Value} {below : List Frame} {meth : Method} {c : Code} {D : va_G} {cI cJ cZ cS : ClassId} {tb : Nat} {A : Nat → Prop} {a_t a_s a_keptS a_statuses a_pile a_tape a_steps a_wish a_mark a_bitsOf a_sizeOf a_number a_moved : Nat} {v_isKept : Int32} {v_taped : Int32} {v_at : Int32} {v_fault : Int32} {v_laid : Int32} {v_open : Int32} {v_s : Nat → Int32} {rr : Int32} {kk' : (Nat → Int32) × (Nat → Int32) × (Nat → Int32)} (fx : q_Fx p s m args meth c cX5_invites 7 RX5 (some .int) D cI cJ cZ cS tb A) {ag45 : (Nat → Int32) → (Nat → Int32) → (Nat → Int32) → Int32 → Int32 → Int32 → Int32 → Option (Int32 × (Nat → Int32) × (Nat → Int32) × (Nat → Int32))} (hag45 : ∀ {v_statuses : Nat → Int32} {v_pile : Nat → Int32} {v_wish : Nat → Int32} {y1 : Int32} {y2 : Int32} {y3 : Int32} {y4 : Int32} {H : Heap} {locs : List Loc} {ls : Array Slot}, q_H D A s (wX5_invites cI cJ cZ cS a_t a_s a_keptS a_statuses a_pile a_tape a_steps a_wish a_mark a_bitsOf a_sizeOf a_number a_moved v_isKept v_taped v_at v_fault v_laid v_open v_s v_statuses v_pile v_wish) H locs → lv_has ls 7 [(0, .ref a_t), (1, .int y1), (2, .int y2), (3, .int y3), (4, .int y4)] → ag45 v_statuses v_pile v_wish y1 y2 y3 y4 = some (rr, kk') → W p l e rX5_invites s m args below meth c H locs 0 0 (MQ below (q_Ri D rr A ((fun k : (Nat → Int32) × (Nat → Int32) × (Nat → Int32) => (wX5_invites cI cJ cZ cS a_t a_s a_keptS a_statuses a_pile a_tape a_steps a_wish a_mark a_bitsOf a_sizeOf a_number a_moved v_isKept v_taped v_at v_fault v_laid v_open v_s k.1 k.2.1 k.2.2)) kk')) args s 0 0 A) (F0 m 45 ls [])) : ∀ {v_statuses : Nat → Int32} {v_pile : Nat → Int32} {v_wish : Nat → Int32} {y1 : Int32} {y2 : Int32} {y4 : Int32} {H : Heap} {locs : List Loc} {ls : Array Slot}, q_H D A s (wX5_invites cI cJ cZ cS a_t a_s a_keptS a_statuses a_pile a_tape a_steps a_wish a_mark a_bitsOf a_sizeOf a_number a_moved v_isKept v_taped v_at v_fault v_laid v_open v_s v_statuses v_pile v_wish) H locs → lv_has ls 7 [(0, .ref a_t), (1, .int y1), (2, .int y2), (4, .int y4)] → fX5_invites_122 v_s ag45 v_statuses v_pile v_wish y1 y2 y4 = some (rr, kk') → W p l e rX5_invites s m args below meth c H locs 0 0 (MQ below (q_Ri D rr A ((fun k : (Nat → Int32) × (Nat → Int32) × (Nat → Int32) => (wX5_invites cI cJ cZ cS a_t a_s a_keptS a_statuses a_pile a_tape a_steps a_wish a_mark a_bitsOf a_sizeOf a_number a_moved v_isKept v_taped v_at v_fault v_laid v_open v_s k.1 k.2.1 k.2.2)) kk')) args s 0 0 A) (F0 m 122 ls []) := by
  intro v_statuses v_pile v_wish y1 y2 y4 H locs ls h hl hf
  have hx := fx.1
  have hb := fx.2.1
  unfold fX5_invites_122 at hf
  refine lv_iload hx hb dX5_invites_122 (lv_at hl 3 rfl) ?_
  refine lv_goto (tgt := 128) hx hb dX5_invites_124 (by decide) ?_
  exact LX5_invites_128 fx hag45 h (lv_sub hl [0, 1, 2, 3] rfl) hf
def fX5_invites_99 (v_s : Nat → Int32) (ag45 : (Nat → Int32) → (Nat → Int32) → (Nat → Int32) → Int32 → Int32 → Int32 → Int32 → Option (Int32 × (Nat → Int32) × (Nat → Int32) × (Nat → Int32))) (v_statuses : Nat → Int32) (v_pile : Nat → Int32) (v_wish : Nat → Int32) (s0 : Int32) (y1 : Int32) (y2 : Int32) (y3 : Int32) (y4 : Int32) : Option (Int32 × (Nat → Int32) × (Nat → Int32) × (Nat → Int32)) :=
  (if s0 = 0 then (
  fX5_invites_127 v_s ag45 v_statuses v_pile v_wish y1 y2 y3 y4)
  else (
  (if y3 < 0 then (
  fX5_invites_122 v_s ag45 v_statuses v_pile v_wish y1 y2 y4)
  else (
  bR (fX5_ones y4) (fun r4 k4 =>
  bR (fX5_ones y3) (fun r5 k5 =>
  (if r5 ≤ r4 then (
  fX5_invites_127 v_s ag45 v_statuses v_pile v_wish y1 y2 y3 y4)
  else (
  fX5_invites_122 v_s ag45 v_statuses v_pile v_wish y1 y2 y4))))))))
set_option maxRecDepth 100000 in
set_option maxHeartbeats 4000000 in
theorem LX5_invites_99 {p : Program} {l : Launch} {e : Env} {s : State} {m : MethodId} {args : Array Value} {below : List Frame} {meth : Method} {c : Code} {D : va_G} {cI cJ cZ cS : ClassId} {tb : Nat} {A : Nat → Prop} {a_t a_s a_keptS a_statuses a_pile a_tape a_steps a_wish a_mark a_bitsOf a_sizeOf a_number a_moved : Nat} {v_isKept : Int32} {v_taped : Int32} {v_at : Int32} {v_fault : Int32} {v_laid : Int32} {v_open : Int32} {v_s : Nat → Int32} {rr : Int32} {kk' : (Nat → Int32) × (Nat → Int32) × (Nat → Int32)} (fx : q_Fx p s m args meth c cX5_invites 7 RX5 (some .int) D cI cJ cZ cS tb A) {ag45 : (Nat → Int32) → (Nat → Int32) → (Nat → Int32) → Int32 → Int32 → Int32 → Int32 → Option (Int32 × (Nat → Int32) × (Nat → Int32) × (Nat → Int32))} (hag45 : ∀ {v_statuses : Nat → Int32} {v_pile : Nat → Int32} {v_wish : Nat → Int32} {y1 : Int32} {y2 : Int32} {y3 : Int32} {y4 : Int32} {H : Heap} {locs : List Loc} {ls : Array Slot}, q_H D A s (wX5_invites cI cJ cZ cS a_t a_s a_keptS a_statuses a_pile a_tape a_steps a_wish a_mark a_bitsOf a_sizeOf a_number a_moved v_isKept v_taped v_at v_fault v_laid v_open v_s v_statuses v_pile v_wish) H locs → lv_has ls 7 [(0, .ref a_t), (1, .int y1), (2, .int y2), (3, .int y3), (4, .int y4)] → ag45 v_statuses v_pile v_wish y1 y2 y3 y4 = some (rr, kk') → W p l e rX5_invites s m args below meth c H locs 0 0 (MQ below (q_Ri D rr A ((fun k : (Nat → Int32) × (Nat → Int32) × (Nat → Int32) => (wX5_invites cI cJ cZ cS a_t a_s a_keptS a_statuses a_pile a_tape a_steps a_wish a_mark a_bitsOf a_sizeOf a_number a_moved v_isKept v_taped v_at v_fault v_laid v_open v_s k.1 k.2.1 k.2.2)) kk')) args s 0 0 A) (F0 m 45 ls [])) : ∀ {v_statuses : Nat → Int32} {v_pile : Nat → Int32} {v_wish : Nat → Int32} {s0 : Int32} {y1 : Int32} {y2 : Int32} {y3 : Int32} {y4 : Int32} {H : Heap} {locs : List Loc} {ls : Array Slot}, q_H D A s (wX5_invites cI cJ cZ cS a_t a_s a_keptS a_statuses a_pile a_tape a_steps a_wish a_mark a_bitsOf a_sizeOf a_number a_moved v_isKept v_taped v_at v_fault v_laid v_open v_s v_statuses v_pile v_wish) H locs → lv_has ls 7 [(0, .ref a_t), (1, .int y1), (2, .int y2), (3, .int y3), (4, .int y4)] → fX5_invites_99 v_s ag45 v_statuses v_pile v_wish s0 y1 y2 y3 y4 = some (rr, kk') → W p l e rX5_invites s m args below meth c H locs 0 0 (MQ below (q_Ri D rr A ((fun k : (Nat → Int32) × (Nat → Int32) × (Nat → Int32) => (wX5_invites cI cJ cZ cS a_t a_s a_keptS a_statuses a_pile a_tape a_steps a_wish a_mark a_bitsOf a_sizeOf a_number a_moved v_isKept v_taped v_at v_fault v_laid v_open v_s k.1 k.2.1 k.2.2)) kk')) args s 0 0 A) (F0 m 99 ls [.int s0]) := by
  intro v_statuses v_pile v_wish s0 y1 y2 y3 y4 H locs ls h hl hf
  have hx := fx.1
  have hb := fx.2.1
  unfold fX5_invites_99 at hf
  refine lv_istore (lv' := [(6, .int s0), (0, .ref a_t), (1, .int y1), (2, .int y2), (3, .int y3), (4, .int y4)]) hx hb dX5_invites_99 hl (by decide) rfl (fun ls hl => ?_)
  refine lv_iload hx hb dX5_invites_101 (lv_at hl 0 rfl) ?_
  refine lv_if_eq (tgt := 127) hx hb dX5_invites_103 (by decide) (fun c2 => ?_) (fun c2 => ?_)
  · have hf := it_t c2 hf
    exact LX5_invites_127 fx hag45 h (lv_sub hl [1, 2, 3, 4, 5] rfl) hf
  have hf := it_f c2 hf
  refine lv_iload_n hx hb dX5_invites_106 rfl (lv_at hl 4 rfl) ?_
  refine lv_if_lt (tgt := 122) hx hb dX5_invites_107 (by decide) (fun c3 => ?_) (fun c3 => ?_)
  · have hf := it_t c3 hf
    exact LX5_invites_122 fx hag45 h (lv_sub hl [1, 2, 3, 5] rfl) hf
  have hf := it_f c3 hf
  refine lv_iload hx hb dX5_invites_110 (lv_at hl 5 rfl) ?_
  obtain ⟨r4, k4, hg, hf⟩ := bR_inv hf
  refine q_ci (rest := []) (ws' := (wX5_invites cI cJ cZ cS a_t a_s a_keptS a_statuses a_pile a_tape a_steps a_wish a_mark a_bitsOf a_sizeOf a_number a_moved v_isKept v_taped v_at v_fault v_laid v_open v_s v_statuses v_pile v_wish)) (w1 := (wX5_ones cI cJ cZ cS)) fx h [] rfl rfl rfl rfl (q_runS fx h hl.1 [] rfl rfl (tX5_ones l D cI cJ cZ cS tb H.size y4 r4 k4 hg) msX5_ones k_722 ⟨rfl, rfl⟩ ⟨Nat.le_of_ble_eq_true rfl, Nat.le_of_ble_eq_true rfl⟩ rfl rfl (Nat.le_of_ble_eq_true rfl) dX5_invites_112 ⟨Nat.le_of_ble_eq_true rfl, Nat.le_of_ble_eq_true rfl⟩) (fun H locs h => ?_)
  refine lv_iload_n hx hb dX5_invites_115 rfl (lv_at hl 4 rfl) ?_
  obtain ⟨r5, k5, hg, hf⟩ := bR_inv hf
  refine q_ci (rest := [.int r4]) (ws' := (wX5_invites cI cJ cZ cS a_t a_s a_keptS a_statuses a_pile a_tape a_steps a_wish a_mark a_bitsOf a_sizeOf a_number a_moved v_isKept v_taped v_at v_fault v_laid v_open v_s v_statuses v_pile v_wish)) (w1 := (wX5_ones cI cJ cZ cS)) fx h [] rfl rfl rfl rfl (q_runS fx h hl.1 [] rfl rfl (tX5_ones l D cI cJ cZ cS tb H.size y3 r5 k5 hg) msX5_ones k_722 ⟨rfl, rfl⟩ ⟨Nat.le_of_ble_eq_true rfl, Nat.le_of_ble_eq_true rfl⟩ rfl rfl (Nat.le_of_ble_eq_true rfl) dX5_invites_116 ⟨Nat.le_of_ble_eq_true rfl, Nat.le_of_ble_eq_true rfl⟩) (fun H locs h => ?_)
  refine lv_icmp_ge (tgt := 127) hx hb dX5_invites_119 (by decide) (fun c6 => ?_) (fun c6 => ?_)
  · have hf := it_t c6 hf
    exact LX5_invites_127 fx hag45 h (lv_sub hl [1, 2, 3, 4, 5] rfl) hf
  have hf := it_f c6 hf
  exact LX5_invites_122 fx hag45 h (lv_sub hl [1, 2, 3, 5] rfl) hf
def fX5_invites_98 (v_s : Nat → Int32) (ag45 : (Nat → Int32) → (Nat → Int32) → (Nat → Int32) → Int32 → Int32 → Int32 → Int32 → Option (Int32 × (Nat → Int32) × (Nat → Int32) × (Nat → Int32))) (v_statuses : Nat → Int32) (v_pile : Nat → Int32) (v_wish : Nat → Int32) (y1 : Int32) (y2 : Int32) (y3 : Int32) (y4 : Int32) : Option (Int32 × (Nat → Int32) × (Nat → Int32) × (Nat → Int32)) :=
  fX5_invites_99 v_s ag45 v_statuses v_pile v_wish 0 y1 y2 y3 y4
set_option maxRecDepth 100000 in
set_option maxHeartbeats 4000000 in
theorem LX5_invites_98 {p : Program} {l : Launch} {e : Env} {s : State} {m : MethodId} {args : Array Value} {below : List Frame} {meth : Method} {c : Code} {D : va_G} {cI cJ cZ cS : ClassId} {tb : Nat} {A : Nat → Prop} {a_t a_s a_keptS a_statuses a_pile a_tape a_steps a_wish a_mark a_bitsOf a_sizeOf a_number a_moved : Nat} {v_isKept : Int32} {v_taped : Int32} {v_at : Int32} {v_fault : Int32} {v_laid : Int32} {v_open : Int32} {v_s : Nat → Int32} {rr : Int32} {kk' : (Nat → Int32) × (Nat → Int32) × (Nat → Int32)} (fx : q_Fx p s m args meth c cX5_invites 7 RX5 (some .int) D cI cJ cZ cS tb A) {ag45 : (Nat → Int32) → (Nat → Int32) → (Nat → Int32) → Int32 → Int32 → Int32 → Int32 → Option (Int32 × (Nat → Int32) × (Nat → Int32) × (Nat → Int32))} (hag45 : ∀ {v_statuses : Nat → Int32} {v_pile : Nat → Int32} {v_wish : Nat → Int32} {y1 : Int32} {y2 : Int32} {y3 : Int32} {y4 : Int32} {H : Heap} {locs : List Loc} {ls : Array Slot}, q_H D A s (wX5_invites cI cJ cZ cS a_t a_s a_keptS a_statuses a_pile a_tape a_steps a_wish a_mark a_bitsOf a_sizeOf a_number a_moved v_isKept v_taped v_at v_fault v_laid v_open v_s v_statuses v_pile v_wish) H locs → lv_has ls 7 [(0, .ref a_t), (1, .int y1), (2, .int y2), (3, .int y3), (4, .int y4)] → ag45 v_statuses v_pile v_wish y1 y2 y3 y4 = some (rr, kk') → W p l e rX5_invites s m args below meth c H locs 0 0 (MQ below (q_Ri D rr A ((fun k : (Nat → Int32) × (Nat → Int32) × (Nat → Int32) => (wX5_invites cI cJ cZ cS a_t a_s a_keptS a_statuses a_pile a_tape a_steps a_wish a_mark a_bitsOf a_sizeOf a_number a_moved v_isKept v_taped v_at v_fault v_laid v_open v_s k.1 k.2.1 k.2.2)) kk')) args s 0 0 A) (F0 m 45 ls [])) : ∀ {v_statuses : Nat → Int32} {v_pile : Nat → Int32} {v_wish : Nat → Int32} {y1 : Int32} {y2 : Int32} {y3 : Int32} {y4 : Int32} {H : Heap} {locs : List Loc} {ls : Array Slot}, q_H D A s (wX5_invites cI cJ cZ cS a_t a_s a_keptS a_statuses a_pile a_tape a_steps a_wish a_mark a_bitsOf a_sizeOf a_number a_moved v_isKept v_taped v_at v_fault v_laid v_open v_s v_statuses v_pile v_wish) H locs → lv_has ls 7 [(0, .ref a_t), (1, .int y1), (2, .int y2), (3, .int y3), (4, .int y4)] → fX5_invites_98 v_s ag45 v_statuses v_pile v_wish y1 y2 y3 y4 = some (rr, kk') → W p l e rX5_invites s m args below meth c H locs 0 0 (MQ below (q_Ri D rr A ((fun k : (Nat → Int32) × (Nat → Int32) × (Nat → Int32) => (wX5_invites cI cJ cZ cS a_t a_s a_keptS a_statuses a_pile a_tape a_steps a_wish a_mark a_bitsOf a_sizeOf a_number a_moved v_isKept v_taped v_at v_fault v_laid v_open v_s k.1 k.2.1 k.2.2)) kk')) args s 0 0 A) (F0 m 98 ls []) := by
  intro v_statuses v_pile v_wish y1 y2 y3 y4 H locs ls h hl hf
  have hx := fx.1
  have hb := fx.2.1
  unfold fX5_invites_98 at hf
  refine lv_iconst (v := 0) hx hb dX5_invites_98 (by decide) ?_
  exact LX5_invites_99 fx hag45 h (lv_sub hl [0, 1, 2, 3, 4] rfl) hf
def fX5_invites_45 (v_s : Nat → Int32) (ag45 : (Nat → Int32) → (Nat → Int32) → (Nat → Int32) → Int32 → Int32 → Int32 → Int32 → Option (Int32 × (Nat → Int32) × (Nat → Int32) × (Nat → Int32))) (v_statuses : Nat → Int32) (v_pile : Nat → Int32) (v_wish : Nat → Int32) (y1 : Int32) (y2 : Int32) (y3 : Int32) (y4 : Int32) : Option (Int32 × (Nat → Int32) × (Nat → Int32) × (Nat → Int32)) :=
  bR (fX5_lists v_s) (fun r7 k7 =>
  (if r7 ≤ y4 then (
  bR (fX5_orNone v_statuses y3) (fun r9 k9 =>
  some (r9, (k9, v_pile, v_wish))))
  else (
  bR (fX5_lastOf v_wish 0 y4) (fun r10 k10 =>
  bR (fX5_ones r10) (fun r11 k11 =>
  bR (fX5_in (r11.toInt64) (y1.toInt64) (y2.toInt64)) (fun r12 k12 =>
  (if r12 = 0 then (
  fX5_invites_98 v_s ag45 v_statuses v_pile v_wish y1 y2 y3 y4)
  else (
  gIn r10 256 (
  (if ((v_wish r10.toNatClampNeg) &&& y4) = r10 then (
  fX5_invites_99 v_s ag45 v_statuses v_pile v_wish 1 y1 y2 y3 y4)
  else (
  fX5_invites_98 v_s ag45 v_statuses v_pile v_wish y1 y2 y3 y4)))))))))))
set_option maxRecDepth 100000 in
set_option maxHeartbeats 4000000 in
theorem LX5_invites_45 {p : Program} {l : Launch} {e : Env} {s : State} {m : MethodId} {args : Array Value} {below : List Frame} {meth : Method} {c : Code} {D : va_G} {cI cJ cZ cS : ClassId} {tb : Nat} {A : Nat → Prop} {a_t a_s a_keptS a_statuses a_pile a_tape a_steps a_wish a_mark a_bitsOf a_sizeOf a_number a_moved : Nat} {v_isKept : Int32} {v_taped : Int32} {v_at : Int32} {v_fault : Int32} {v_laid : Int32} {v_open : Int32} {v_s : Nat → Int32} {rr : Int32} {kk' : (Nat → Int32) × (Nat → Int32) × (Nat → Int32)} (fx : q_Fx p s m args meth c cX5_invites 7 RX5 (some .int) D cI cJ cZ cS tb A) {ag45 : (Nat → Int32) → (Nat → Int32) → (Nat → Int32) → Int32 → Int32 → Int32 → Int32 → Option (Int32 × (Nat → Int32) × (Nat → Int32) × (Nat → Int32))} (hag45 : ∀ {v_statuses : Nat → Int32} {v_pile : Nat → Int32} {v_wish : Nat → Int32} {y1 : Int32} {y2 : Int32} {y3 : Int32} {y4 : Int32} {H : Heap} {locs : List Loc} {ls : Array Slot}, q_H D A s (wX5_invites cI cJ cZ cS a_t a_s a_keptS a_statuses a_pile a_tape a_steps a_wish a_mark a_bitsOf a_sizeOf a_number a_moved v_isKept v_taped v_at v_fault v_laid v_open v_s v_statuses v_pile v_wish) H locs → lv_has ls 7 [(0, .ref a_t), (1, .int y1), (2, .int y2), (3, .int y3), (4, .int y4)] → ag45 v_statuses v_pile v_wish y1 y2 y3 y4 = some (rr, kk') → W p l e rX5_invites s m args below meth c H locs 0 0 (MQ below (q_Ri D rr A ((fun k : (Nat → Int32) × (Nat → Int32) × (Nat → Int32) => (wX5_invites cI cJ cZ cS a_t a_s a_keptS a_statuses a_pile a_tape a_steps a_wish a_mark a_bitsOf a_sizeOf a_number a_moved v_isKept v_taped v_at v_fault v_laid v_open v_s k.1 k.2.1 k.2.2)) kk')) args s 0 0 A) (F0 m 45 ls [])) : ∀ {v_statuses : Nat → Int32} {v_pile : Nat → Int32} {v_wish : Nat → Int32} {y1 : Int32} {y2 : Int32} {y3 : Int32} {y4 : Int32} {H : Heap} {locs : List Loc} {ls : Array Slot}, q_H D A s (wX5_invites cI cJ cZ cS a_t a_s a_keptS a_statuses a_pile a_tape a_steps a_wish a_mark a_bitsOf a_sizeOf a_number a_moved v_isKept v_taped v_at v_fault v_laid v_open v_s v_statuses v_pile v_wish) H locs → lv_has ls 7 [(0, .ref a_t), (1, .int y1), (2, .int y2), (3, .int y3), (4, .int y4)] → fX5_invites_45 v_s ag45 v_statuses v_pile v_wish y1 y2 y3 y4 = some (rr, kk') → W p l e rX5_invites s m args below meth c H locs 0 0 (MQ below (q_Ri D rr A ((fun k : (Nat → Int32) × (Nat → Int32) × (Nat → Int32) => (wX5_invites cI cJ cZ cS a_t a_s a_keptS a_statuses a_pile a_tape a_steps a_wish a_mark a_bitsOf a_sizeOf a_number a_moved v_isKept v_taped v_at v_fault v_laid v_open v_s k.1 k.2.1 k.2.2)) kk')) args s 0 0 A) (F0 m 45 ls []) := by
  intro v_statuses v_pile v_wish y1 y2 y3 y4 H locs ls h hl hf
  have hx := fx.1
  have hb := fx.2.1
  unfold fX5_invites_45 at hf
  refine lv_iload hx hb dX5_invites_45 (lv_at hl 4 rfl) ?_
  refine lv_aload_n hx hb dX5_invites_47 rfl (lv_at hl 0 rfl) ?_
  obtain ⟨r7, k7, hg, hf⟩ := bR_inv hf
  refine q_ci (rest := [.int y4]) (ws' := (wX5_invites cI cJ cZ cS a_t a_s a_keptS a_statuses a_pile a_tape a_steps a_wish a_mark a_bitsOf a_sizeOf a_number a_moved v_isKept v_taped v_at v_fault v_laid v_open v_s v_statuses v_pile v_wish)) (w1 := (wX5_lists cI cJ cZ cS a_t a_s a_keptS a_statuses a_pile a_tape a_steps a_wish a_mark a_bitsOf a_sizeOf a_number a_moved v_isKept v_taped v_at v_fault v_laid v_open v_s)) fx h [0, 1] rfl rfl rfl rfl (q_runV fx h hl.1 [0, 1] rfl rfl (tX5_lists l D cI cJ cZ cS tb a_t a_s a_keptS a_statuses a_pile a_tape a_steps a_wish a_mark a_bitsOf a_sizeOf a_number a_moved H.size v_isKept v_taped v_at v_fault v_laid v_open v_s r7 k7 hg) mvX5_lists k_810 ⟨rfl, rfl⟩ ⟨Nat.le_of_ble_eq_true rfl, Nat.le_of_ble_eq_true rfl⟩ rfl rfl rfl rfl (Nat.le_of_ble_eq_true rfl) dX5_invites_48 ⟨Nat.le_of_ble_eq_true rfl, Nat.le_of_ble_eq_true rfl⟩) (fun H locs h => ?_)
  refine lv_icmp_ge (tgt := 135) hx hb dX5_invites_51 (by decide) (fun c8 => ?_) (fun c8 => ?_)
  · have hf := it_t c8 hf
    refine lv_aload_n hx hb dX5_invites_135 rfl (lv_at hl 0 rfl) ?_
    refine lv_iload_n hx hb dX5_invites_136 rfl (lv_at hl 3 rfl) ?_
    obtain ⟨r9, k9, hg, hf⟩ := bR_inv hf
    refine q_ci (rest := []) (ws' := (wX5_invites cI cJ cZ cS a_t a_s a_keptS a_statuses a_pile a_tape a_steps a_wish a_mark a_bitsOf a_sizeOf a_number a_moved v_isKept v_taped v_at v_fault v_laid v_open v_s k9 v_pile v_wish)) (w1 := (wX5_orNone cI cJ cZ cS a_t a_s a_keptS a_statuses a_pile a_tape a_steps a_wish a_mark a_bitsOf a_sizeOf a_number a_moved v_isKept v_taped v_at v_fault v_laid v_open k9)) fx h [0, 2] rfl rfl rfl rfl (q_runV fx h hl.1 [0, 2] rfl rfl (tX5_orNone l D cI cJ cZ cS tb a_t a_s a_keptS a_statuses a_pile a_tape a_steps a_wish a_mark a_bitsOf a_sizeOf a_number a_moved H.size v_isKept v_taped v_at v_fault v_laid v_open v_statuses y3 r9 k9 hg) mvX5_orNone k_877 ⟨rfl, rfl⟩ ⟨Nat.le_of_ble_eq_true rfl, Nat.le_of_ble_eq_true rfl⟩ rfl rfl rfl rfl (Nat.le_of_ble_eq_true rfl) dX5_invites_137 ⟨Nat.le_of_ble_eq_true rfl, Nat.le_of_ble_eq_true rfl⟩) (fun H locs h => ?_)
    exact q_reti (fun k : (Nat → Int32) × (Nat → Int32) × (Nat → Int32) => (wX5_invites cI cJ cZ cS a_t a_s a_keptS a_statuses a_pile a_tape a_steps a_wish a_mark a_bitsOf a_sizeOf a_number a_moved v_isKept v_taped v_at v_fault v_laid v_open v_s k.1 k.2.1 k.2.2)) fx hf h dX5_invites_140
  have hf := it_f c8 hf
  refine lv_aload_n hx hb dX5_invites_54 rfl (lv_at hl 0 rfl) ?_
  refine lv_iconst (v := 0) hx hb dX5_invites_55 (by decide) ?_
  refine lv_iload hx hb dX5_invites_56 (lv_at hl 4 rfl) ?_
  obtain ⟨r10, k10, hg, hf⟩ := bR_inv hf
  refine q_ci (rest := []) (ws' := (wX5_invites cI cJ cZ cS a_t a_s a_keptS a_statuses a_pile a_tape a_steps a_wish a_mark a_bitsOf a_sizeOf a_number a_moved v_isKept v_taped v_at v_fault v_laid v_open v_s v_statuses v_pile v_wish)) (w1 := (wX5_lastOf cI cJ cZ cS a_t a_s a_keptS a_statuses a_pile a_tape a_steps a_wish a_mark a_bitsOf a_sizeOf a_number a_moved v_isKept v_taped v_at v_fault v_laid v_open v_wish)) fx h [0, 4] rfl rfl rfl rfl (q_runV fx h hl.1 [0, 4] rfl rfl (tX5_lastOf l D cI cJ cZ cS tb a_t a_s a_keptS a_statuses a_pile a_tape a_steps a_wish a_mark a_bitsOf a_sizeOf a_number a_moved H.size v_isKept v_taped v_at v_fault v_laid v_open v_wish 0 y4 r10 k10 hg) mvX5_lastOf k_918 ⟨rfl, rfl⟩ ⟨Nat.le_of_ble_eq_true rfl, Nat.le_of_ble_eq_true rfl⟩ rfl rfl rfl rfl (Nat.le_of_ble_eq_true rfl) dX5_invites_58 ⟨Nat.le_of_ble_eq_true rfl, Nat.le_of_ble_eq_true rfl⟩) (fun H locs h => ?_)
  refine lv_istore (lv' := [(5, .int r10), (0, .ref a_t), (1, .int y1), (2, .int y2), (3, .int y3), (4, .int y4)]) hx hb dX5_invites_61 hl (by decide) rfl (fun ls hl => ?_)
  refine lv_iload hx hb dX5_invites_63 (lv_at hl 0 rfl) ?_
  obtain ⟨r11, k11, hg, hf⟩ := bR_inv hf
  refine q_ci (rest := []) (ws' := (wX5_invites cI cJ cZ cS a_t a_s a_keptS a_statuses a_pile a_tape a_steps a_wish a_mark a_bitsOf a_sizeOf a_number a_moved v_isKept v_taped v_at v_fault v_laid v_open v_s v_statuses v_pile v_wish)) (w1 := (wX5_ones cI cJ cZ cS)) fx h [] rfl rfl rfl rfl (q_runS fx h hl.1 [] rfl rfl (tX5_ones l D cI cJ cZ cS tb H.size r10 r11 k11 hg) msX5_ones k_722 ⟨rfl, rfl⟩ ⟨Nat.le_of_ble_eq_true rfl, Nat.le_of_ble_eq_true rfl⟩ rfl rfl (Nat.le_of_ble_eq_true rfl) dX5_invites_65 ⟨Nat.le_of_ble_eq_true rfl, Nat.le_of_ble_eq_true rfl⟩) (fun H locs h => ?_)
  refine lv_i2l hx hb dX5_invites_68 rfl ?_
  refine lv_iload_n hx hb dX5_invites_69 rfl (lv_at hl 2 rfl) ?_
  refine lv_i2l hx hb dX5_invites_70 rfl ?_
  refine lv_iload_n hx hb dX5_invites_71 rfl (lv_at hl 3 rfl) ?_
  refine lv_i2l hx hb dX5_invites_72 rfl ?_
  obtain ⟨r12, k12, hg, hf⟩ := bR_inv hf
  refine q_ci (rest := []) (ws' := (wX5_invites cI cJ cZ cS a_t a_s a_keptS a_statuses a_pile a_tape a_steps a_wish a_mark a_bitsOf a_sizeOf a_number a_moved v_isKept v_taped v_at v_fault v_laid v_open v_s v_statuses v_pile v_wish)) (w1 := (wX5_in cI cJ cZ cS)) fx h [] rfl rfl rfl rfl (q_runS fx h hl.1 [] rfl rfl (tX5_in l D cI cJ cZ cS tb H.size (r11.toInt64) (y1.toInt64) (y2.toInt64) r12 k12 hg) msX5_in k_697 ⟨rfl, rfl⟩ ⟨Nat.le_of_ble_eq_true rfl, Nat.le_of_ble_eq_true rfl⟩ rfl rfl (Nat.le_of_ble_eq_true rfl) dX5_invites_73 ⟨Nat.le_of_ble_eq_true rfl, Nat.le_of_ble_eq_true rfl⟩) (fun H locs h => ?_)
  refine lv_if_eq (tgt := 98) hx hb dX5_invites_76 (by decide) (fun c13 => ?_) (fun c13 => ?_)
  · have hf := it_t c13 hf
    exact LX5_invites_98 fx hag45 h (lv_sub hl [1, 2, 3, 4, 5] rfl) hf
  have hf := it_f c13 hf
  refine lv_aload_n hx hb dX5_invites_79 rfl (lv_at hl 1 rfl) ?_
  refine q_get (v := .ref a_wish) fx inX5 h 0 rfl rfl 12 (by decide) k_648 rfl dX5_invites_80 ?_
  refine lv_iload hx hb dX5_invites_83 (lv_at hl 0 rfl) ?_
  obtain ⟨i14, hf⟩ := gIn_inv hf
  refine q_iald fx h 4 rfl i14 dX5_invites_85 ?_
  refine lv_iload hx hb dX5_invites_86 (lv_at hl 5 rfl) ?_
  refine lv_iand hx hb dX5_invites_88 ?_
  refine lv_iload hx hb dX5_invites_89 (lv_at hl 0 rfl) ?_
  refine lv_icmp_ne (tgt := 98) hx hb dX5_invites_91 (by decide) (fun c15 => ?_) (fun c15 => ?_)
  · have hf := it_f c15 hf
    exact LX5_invites_98 fx hag45 h (lv_sub hl [1, 2, 3, 4, 5] rfl) hf
  have hf := it_t c15 hf
  refine lv_iconst (v := 1) hx hb dX5_invites_94 (by decide) ?_
  refine lv_goto (tgt := 99) hx hb dX5_invites_95 (by decide) ?_
  exact LX5_invites_99 fx hag45 h (lv_sub hl [1, 2, 3, 4, 5] rfl) hf
set_option maxRecDepth 100000 in
theorem EX5_invites_45 {p : Program} {l : Launch} {e : Env} {s : State} {m : MethodId} {args : Array Value} {below : List Frame} {meth : Method} {c : Code} {D : va_G} {cI cJ cZ cS : ClassId} {tb : Nat} {A : Nat → Prop} {a_t a_s a_keptS a_statuses a_pile a_tape a_steps a_wish a_mark a_bitsOf a_sizeOf a_number a_moved : Nat} {v_isKept : Int32} {v_taped : Int32} {v_at : Int32} {v_fault : Int32} {v_laid : Int32} {v_open : Int32} {v_s : Nat → Int32} {rr : Int32} {kk' : (Nat → Int32) × (Nat → Int32) × (Nat → Int32)} (fx : q_Fx p s m args meth c cX5_invites 7 RX5 (some .int) D cI cJ cZ cS tb A) : ∀ (n : Nat), ∀ {v_statuses : Nat → Int32} {v_pile : Nat → Int32} {v_wish : Nat → Int32} {y1 : Int32} {y2 : Int32} {y3 : Int32} {y4 : Int32} {H : Heap} {locs : List Loc} {ls : Array Slot}, q_H D A s (wX5_invites cI cJ cZ cS a_t a_s a_keptS a_statuses a_pile a_tape a_steps a_wish a_mark a_bitsOf a_sizeOf a_number a_moved v_isKept v_taped v_at v_fault v_laid v_open v_s v_statuses v_pile v_wish) H locs → lv_has ls 7 [(0, .ref a_t), (1, .int y1), (2, .int y2), (3, .int y3), (4, .int y4)] → ll7 (fX5_invites_45 v_s) n v_statuses v_pile v_wish y1 y2 y3 y4 = some (rr, kk') → W p l e rX5_invites s m args below meth c H locs 0 0 (MQ below (q_Ri D rr A ((fun k : (Nat → Int32) × (Nat → Int32) × (Nat → Int32) => (wX5_invites cI cJ cZ cS a_t a_s a_keptS a_statuses a_pile a_tape a_steps a_wish a_mark a_bitsOf a_sizeOf a_number a_moved v_isKept v_taped v_at v_fault v_laid v_open v_s k.1 k.2.1 k.2.2)) kk')) args s 0 0 A) (F0 m 45 ls []) := by
  intro n
  induction n with
  | zero => intro v_statuses v_pile v_wish y1 y2 y3 y4 H locs ls h hl hf; exact (ll7_z hf).elim
  | succ n ih => intro v_statuses v_pile v_wish y1 y2 y3 y4 H locs ls h hl hf; exact LX5_invites_45 fx ih h hl (ll7_s hf)
def fX5_invites_29 (v_s : Nat → Int32) (v_statuses : Nat → Int32) (v_pile : Nat → Int32) (v_wish : Nat → Int32) : Option (Int32 × (Nat → Int32) × (Nat → Int32) × (Nat → Int32)) :=
  bR (fX5_finds v_statuses (-1000000001)) (fun r16 k16 =>
  some (r16, (k16, v_pile, v_wish)))
set_option maxRecDepth 100000 in
set_option maxHeartbeats 4000000 in
theorem LX5_invites_29 {p : Program} {l : Launch} {e : Env} {s : State} {m : MethodId} {args : Array Value} {below : List Frame} {meth : Method} {c : Code} {D : va_G} {cI cJ cZ cS : ClassId} {tb : Nat} {A : Nat → Prop} {a_t a_s a_keptS a_statuses a_pile a_tape a_steps a_wish a_mark a_bitsOf a_sizeOf a_number a_moved : Nat} {v_isKept : Int32} {v_taped : Int32} {v_at : Int32} {v_fault : Int32} {v_laid : Int32} {v_open : Int32} {v_s : Nat → Int32} {rr : Int32} {kk' : (Nat → Int32) × (Nat → Int32) × (Nat → Int32)} (fx : q_Fx p s m args meth c cX5_invites 7 RX5 (some .int) D cI cJ cZ cS tb A) : ∀ {v_statuses : Nat → Int32} {v_pile : Nat → Int32} {v_wish : Nat → Int32} {H : Heap} {locs : List Loc} {ls : Array Slot}, q_H D A s (wX5_invites cI cJ cZ cS a_t a_s a_keptS a_statuses a_pile a_tape a_steps a_wish a_mark a_bitsOf a_sizeOf a_number a_moved v_isKept v_taped v_at v_fault v_laid v_open v_s v_statuses v_pile v_wish) H locs → lv_has ls 7 [(0, .ref a_t)] → fX5_invites_29 v_s v_statuses v_pile v_wish = some (rr, kk') → W p l e rX5_invites s m args below meth c H locs 0 0 (MQ below (q_Ri D rr A ((fun k : (Nat → Int32) × (Nat → Int32) × (Nat → Int32) => (wX5_invites cI cJ cZ cS a_t a_s a_keptS a_statuses a_pile a_tape a_steps a_wish a_mark a_bitsOf a_sizeOf a_number a_moved v_isKept v_taped v_at v_fault v_laid v_open v_s k.1 k.2.1 k.2.2)) kk')) args s 0 0 A) (F0 m 29 ls []) := by
  intro v_statuses v_pile v_wish H locs ls h hl hf
  have hx := fx.1
  have hb := fx.2.1
  unfold fX5_invites_29 at hf
  refine lv_aload_n hx hb dX5_invites_29 rfl (lv_at hl 0 rfl) ?_
  refine q_ldc fx k_701 dX5_invites_30 ?_
  obtain ⟨r16, k16, hg, hf⟩ := bR_inv hf
  refine q_ci (rest := []) (ws' := (wX5_invites cI cJ cZ cS a_t a_s a_keptS a_statuses a_pile a_tape a_steps a_wish a_mark a_bitsOf a_sizeOf a_number a_moved v_isKept v_taped v_at v_fault v_laid v_open v_s k16 v_pile v_wish)) (w1 := (wX5_finds cI cJ cZ cS a_t a_s a_keptS a_statuses a_pile a_tape a_steps a_wish a_mark a_bitsOf a_sizeOf a_number a_moved v_isKept v_taped v_at v_fault v_laid v_open k16)) fx h [0, 2] rfl rfl rfl rfl (q_runV fx h hl.1 [0, 2] rfl rfl (tX5_finds l D cI cJ cZ cS tb a_t a_s a_keptS a_statuses a_pile a_tape a_steps a_wish a_mark a_bitsOf a_sizeOf a_number a_moved H.size v_isKept v_taped v_at v_fault v_laid v_open v_statuses (-1000000001) r16 k16 hg) mvX5_finds k_702 ⟨rfl, rfl⟩ ⟨Nat.le_of_ble_eq_true rfl, Nat.le_of_ble_eq_true rfl⟩ rfl rfl rfl rfl (Nat.le_of_ble_eq_true rfl) dX5_invites_32 ⟨Nat.le_of_ble_eq_true rfl, Nat.le_of_ble_eq_true rfl⟩) (fun H locs h => ?_)
  exact q_reti (fun k : (Nat → Int32) × (Nat → Int32) × (Nat → Int32) => (wX5_invites cI cJ cZ cS a_t a_s a_keptS a_statuses a_pile a_tape a_steps a_wish a_mark a_bitsOf a_sizeOf a_number a_moved v_isKept v_taped v_at v_fault v_laid v_open v_s k.1 k.2.1 k.2.2)) fx hf h dX5_invites_35
def fX5_invites (v_s : Nat → Int32) (v_statuses : Nat → Int32) (v_pile : Nat → Int32) (v_wish : Nat → Int32) (x1 : Int32) (x2 : Int32) : Option (Int32 × (Nat → Int32) × (Nat → Int32) × (Nat → Int32)) :=
  bR (fX5_in (x1.toInt64) 0 8) (fun r17 k17 =>
  (if r17 = 0 then (
  fX5_invites_29 v_s v_statuses v_pile v_wish)
  else (
  bR (fX5_in (x2.toInt64) 0 8) (fun r19 k19 =>
  (if r19 = 0 then (
  fX5_invites_29 v_s v_statuses v_pile v_wish)
  else (
  (if x1 ≤ x2 then (
  bV (fX5_looksAll v_s v_pile v_wish) (fun k22 =>
  ll7 (fX5_invites_45 v_s) qF v_statuses k22.1 k22.2 x1 x2 (-1) 0))
  else (
  fX5_invites_29 v_s v_statuses v_pile v_wish))))))))
set_option maxRecDepth 100000 in
set_option maxHeartbeats 4000000 in
theorem tX5_invites (l : Launch) (D : va_G) (cI cJ cZ cS : ClassId) (tb : Nat) (a_t a_s a_keptS a_statuses a_pile a_tape a_steps a_wish a_mark a_bitsOf a_sizeOf a_number a_moved : Nat) (sz : Nat) (v_isKept : Int32) (v_taped : Int32) (v_at : Int32) (v_fault : Int32) (v_laid : Int32) (v_open : Int32) (v_s : Nat → Int32) (v_statuses : Nat → Int32) (v_pile : Nat → Int32) (v_wish : Nat → Int32) (x1 : Int32) (x2 : Int32) (rr : Int32) (kk' : (Nat → Int32) × (Nat → Int32) × (Nat → Int32)) (hf : fX5_invites v_s v_statuses v_pile v_wish x1 x2 = some (rr, kk')) : Met l yX5_invites (Cond.code yX5_invites cX5_invites 7 (some .int) :: wA) rX5_invites (q_Pre D cI cJ cZ cS tb [.ref a_t, .int x1, .int x2] sz (wX5_invites cI cJ cZ cS a_t a_s a_keptS a_statuses a_pile a_tape a_steps a_wish a_mark a_bitsOf a_sizeOf a_number a_moved v_isKept v_taped v_at v_fault v_laid v_open v_s v_statuses v_pile v_wish)) (q_Ri D rr (va_A (wX5_invites cI cJ cZ cS a_t a_s a_keptS a_statuses a_pile a_tape a_steps a_wish a_mark a_bitsOf a_sizeOf a_number a_moved v_isKept v_taped v_at v_fault v_laid v_open v_s v_statuses v_pile v_wish) sz) ((fun k : (Nat → Int32) × (Nat → Int32) × (Nat → Int32) => (wX5_invites cI cJ cZ cS a_t a_s a_keptS a_statuses a_pile a_tape a_steps a_wish a_mark a_bitsOf a_sizeOf a_number a_moved v_isKept v_taped v_at v_fault v_laid v_open v_s k.1 k.2.1 k.2.2)) kk')) 0 0 (va_A (wX5_invites cI cJ cZ cS a_t a_s a_keptS a_statuses a_pile a_tape a_steps a_wish a_mark a_bitsOf a_sizeOf a_number a_moved v_isKept v_taped v_at v_fault v_laid v_open v_s v_statuses v_pile v_wish) sz) := by
  refine q_enter (Qf := fun A => (q_Ri D rr A ((fun k : (Nat → Int32) × (Nat → Int32) × (Nat → Int32) => (wX5_invites cI cJ cZ cS a_t a_s a_keptS a_statuses a_pile a_tape a_steps a_wish a_mark a_bitsOf a_sizeOf a_number a_moved v_isKept v_taped v_at v_fault v_laid v_open v_s k.1 k.2.1 k.2.2)) kk'))) (by decide) rfl (Nat.le_of_ble_eq_true rfl) ?_
  intro p e s m below meth c A ls fx hname h hl
  have hx := fx.1
  have hb := fx.2.1
  have hl : lv_has ls 7 [(0, .ref a_t), (1, .int x1), (2, .int x2)] := hl
  generalize h9 : s.heap = H at h ⊢
  clear h9
  generalize h9 : ([] : List Loc) = locs at h ⊢
  clear h9
  unfold fX5_invites at hf
  refine lv_iload_n hx hb dX5_invites_0 rfl (lv_at hl 1 rfl) ?_
  refine lv_i2l hx hb dX5_invites_1 rfl ?_
  refine lv_lconst (v := 0) hx hb dX5_invites_2 (by decide) ?_
  refine q_ldc2 fx k_926 dX5_invites_3 ?_
  obtain ⟨r17, k17, hg, hf⟩ := bR_inv hf
  refine q_ci (rest := []) (ws' := (wX5_invites cI cJ cZ cS a_t a_s a_keptS a_statuses a_pile a_tape a_steps a_wish a_mark a_bitsOf a_sizeOf a_number a_moved v_isKept v_taped v_at v_fault v_laid v_open v_s v_statuses v_pile v_wish)) (w1 := (wX5_in cI cJ cZ cS)) fx h [] rfl rfl rfl rfl (q_runS fx h hl.1 [] rfl rfl (tX5_in l D cI cJ cZ cS tb H.size (x1.toInt64) 0 8 r17 k17 hg) msX5_in k_697 ⟨rfl, rfl⟩ ⟨Nat.le_of_ble_eq_true rfl, Nat.le_of_ble_eq_true rfl⟩ rfl rfl (Nat.le_of_ble_eq_true rfl) dX5_invites_6 ⟨Nat.le_of_ble_eq_true rfl, Nat.le_of_ble_eq_true rfl⟩) (fun H locs h => ?_)
  refine lv_if_eq (tgt := 29) hx hb dX5_invites_9 (by decide) (fun c18 => ?_) (fun c18 => ?_)
  · have hf := it_t c18 hf
    exact LX5_invites_29 fx h (lv_sub hl [0] rfl) hf
  have hf := it_f c18 hf
  refine lv_iload_n hx hb dX5_invites_12 rfl (lv_at hl 2 rfl) ?_
  refine lv_i2l hx hb dX5_invites_13 rfl ?_
  refine lv_lconst (v := 0) hx hb dX5_invites_14 (by decide) ?_
  refine q_ldc2 fx k_926 dX5_invites_15 ?_
  obtain ⟨r19, k19, hg, hf⟩ := bR_inv hf
  refine q_ci (rest := []) (ws' := (wX5_invites cI cJ cZ cS a_t a_s a_keptS a_statuses a_pile a_tape a_steps a_wish a_mark a_bitsOf a_sizeOf a_number a_moved v_isKept v_taped v_at v_fault v_laid v_open v_s v_statuses v_pile v_wish)) (w1 := (wX5_in cI cJ cZ cS)) fx h [] rfl rfl rfl rfl (q_runS fx h hl.1 [] rfl rfl (tX5_in l D cI cJ cZ cS tb H.size (x2.toInt64) 0 8 r19 k19 hg) msX5_in k_697 ⟨rfl, rfl⟩ ⟨Nat.le_of_ble_eq_true rfl, Nat.le_of_ble_eq_true rfl⟩ rfl rfl (Nat.le_of_ble_eq_true rfl) dX5_invites_18 ⟨Nat.le_of_ble_eq_true rfl, Nat.le_of_ble_eq_true rfl⟩) (fun H locs h => ?_)
  refine lv_if_eq (tgt := 29) hx hb dX5_invites_21 (by decide) (fun c20 => ?_) (fun c20 => ?_)
  · have hf := it_t c20 hf
    exact LX5_invites_29 fx h (lv_sub hl [0] rfl) hf
  have hf := it_f c20 hf
  refine lv_iload_n hx hb dX5_invites_24 rfl (lv_at hl 1 rfl) ?_
  refine lv_iload_n hx hb dX5_invites_25 rfl (lv_at hl 2 rfl) ?_
  refine lv_icmp_le (tgt := 36) hx hb dX5_invites_26 (by decide) (fun c21 => ?_) (fun c21 => ?_)
  · have hf := it_t c21 hf
    refine lv_aload_n hx hb dX5_invites_36 rfl (lv_at hl 0 rfl) ?_
    obtain ⟨k22, hg, hf⟩ := bV_inv hf
    refine q_cv (rest := []) (ws' := (wX5_invites cI cJ cZ cS a_t a_s a_keptS a_statuses a_pile a_tape a_steps a_wish a_mark a_bitsOf a_sizeOf a_number a_moved v_isKept v_taped v_at v_fault v_laid v_open v_s v_statuses k22.1 k22.2)) (w1 := (wX5_looksAll cI cJ cZ cS a_t a_s a_keptS a_statuses a_pile a_tape a_steps a_wish a_mark a_bitsOf a_sizeOf a_number a_moved v_isKept v_taped v_at v_fault v_laid v_open v_s k22.1 k22.2)) fx h [0, 1, 3, 4] rfl rfl rfl rfl (q_runV fx h hl.1 [0, 1, 3, 4] rfl rfl (tX5_looksAll l D cI cJ cZ cS tb a_t a_s a_keptS a_statuses a_pile a_tape a_steps a_wish a_mark a_bitsOf a_sizeOf a_number a_moved H.size v_isKept v_taped v_at v_fault v_laid v_open v_s v_pile v_wish k22 hg) mvX5_looksAll k_860 ⟨rfl, rfl⟩ ⟨Nat.le_of_ble_eq_true rfl, Nat.le_of_ble_eq_true rfl⟩ rfl rfl rfl rfl (Nat.le_of_ble_eq_true rfl) dX5_invites_37 ⟨Nat.le_of_ble_eq_true rfl, Nat.le_of_ble_eq_true rfl⟩) (fun H locs h => ?_)
    refine lv_iconst (v := -1) hx hb dX5_invites_40 (by decide) ?_
    refine lv_istore_n (lv' := [(3, .int (-1)), (0, .ref a_t), (1, .int x1), (2, .int x2)]) hx hb dX5_invites_41 rfl hl (by decide) rfl (fun ls hl => ?_)
    refine lv_iconst (v := 0) hx hb dX5_invites_42 (by decide) ?_
    refine lv_istore (lv' := [(4, .int 0), (3, .int (-1)), (0, .ref a_t), (1, .int x1), (2, .int x2)]) hx hb dX5_invites_43 hl (by decide) rfl (fun ls hl => ?_)
    exact EX5_invites_45 fx qF h (lv_sub hl [2, 3, 4, 1, 0] rfl) hf
  have hf := it_f c21 hf
  exact LX5_invites_29 fx h (lv_sub hl [0] rfl) hf
