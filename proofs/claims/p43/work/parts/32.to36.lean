section
/-! X5_sure -/
abbrev wX5_sure (cI cJ cZ cS : ClassId) (a_t a_s a_keptS a_statuses a_pile a_tape a_steps a_wish a_mark a_bitsOf a_sizeOf a_number a_moved : Nat) (v_isKept : Int32) (v_taped : Int32) (v_at : Int32) (v_fault : Int32) (v_laid : Int32) (v_open : Int32) (v_s : Nat → Int32) (v_statuses : Nat → Int32) (v_pile : Nat → Int32) (v_wish : Nat → Int32) : va_W := [(a_t, .inr (5, [.ref a_s, .ref a_keptS, .ref a_statuses, .int v_isKept, .ref a_pile, .ref a_tape, .ref a_steps, .int v_taped, .int v_at, .int v_fault, .int v_laid, .int v_open, .ref a_wish, .ref a_mark, .ref a_bitsOf, .ref a_sizeOf, .ref a_number, .ref a_moved])), (a_s, .inl (cI, 538, .inl v_s)), (a_statuses, .inl (cI, 7, .inl v_statuses)), (a_pile, .inl (cZ, 64, .inl v_pile)), (a_wish, .inl (cI, 256, .inl v_wish))]
abbrev rX5_sure : Room := { frames := 7, cells := 0, slots := 0, locals := 159 }
def fX5_sure_127 (v_s : Nat → Int32) (ag52 : (Nat → Int32) → (Nat → Int32) → (Nat → Int32) → Int32 → Int32 → Int32 → Int32 → Int32 → Int32 → Option (Int32 × (Nat → Int32) × (Nat → Int32) × (Nat → Int32))) (v_statuses : Nat → Int32) (v_pile : Nat → Int32) (v_wish : Nat → Int32) (y1 : Int32) (y2 : Int32) (y3 : Int32) (y4 : Int32) (y5 : Int32) (y6 : Int32) : Option (Int32 × (Nat → Int32) × (Nat → Int32) × (Nat → Int32)) :=
  nm (y6 + 1) (fun u1 =>
  ag52 v_statuses v_pile v_wish y1 y2 y3 y4 y5 u1)
set_option maxRecDepth 100000 in
set_option maxHeartbeats 4000000 in
theorem LX5_sure_127 {p : Program} {l : Launch} {e : Env} {s : State} {m : MethodId} {args : Array Value} {below : List Frame} {meth : Method} {c : Code} {D : va_G} {cI cJ cZ cS : ClassId} {tb : Nat} {A : Nat → Prop} {a_t a_s a_keptS a_statuses a_pile a_tape a_steps a_wish a_mark a_bitsOf a_sizeOf a_number a_moved : Nat} {v_isKept : Int32} {v_taped : Int32} {v_at : Int32} {v_fault : Int32} {v_laid : Int32} {v_open : Int32} {v_s : Nat → Int32} {rr : Int32} {kk' : (Nat → Int32) × (Nat → Int32) × (Nat → Int32)} (fx : q_Fx p s m args meth c cX5_sure 7 RX5 (some .int) D cI cJ cZ cS tb A) {ag52 : (Nat → Int32) → (Nat → Int32) → (Nat → Int32) → Int32 → Int32 → Int32 → Int32 → Int32 → Int32 → Option (Int32 × (Nat → Int32) × (Nat → Int32) × (Nat → Int32))} (hag52 : ∀ {v_statuses : Nat → Int32} {v_pile : Nat → Int32} {v_wish : Nat → Int32} {y1 : Int32} {y2 : Int32} {y3 : Int32} {y4 : Int32} {y5 : Int32} {y6 : Int32} {H : Heap} {locs : List Loc} {ls : Array Slot}, q_H D A s (wX5_sure cI cJ cZ cS a_t a_s a_keptS a_statuses a_pile a_tape a_steps a_wish a_mark a_bitsOf a_sizeOf a_number a_moved v_isKept v_taped v_at v_fault v_laid v_open v_s v_statuses v_pile v_wish) H locs → lv_has ls 7 [(0, .ref a_t), (1, .int y1), (2, .int y2), (3, .int y3), (4, .int y4), (5, .int y5), (6, .int y6)] → ag52 v_statuses v_pile v_wish y1 y2 y3 y4 y5 y6 = some (rr, kk') → W p l e rX5_sure s m args below meth c H locs 0 0 (MQ below (q_Ri D rr A ((fun k : (Nat → Int32) × (Nat → Int32) × (Nat → Int32) => (wX5_sure cI cJ cZ cS a_t a_s a_keptS a_statuses a_pile a_tape a_steps a_wish a_mark a_bitsOf a_sizeOf a_number a_moved v_isKept v_taped v_at v_fault v_laid v_open v_s k.1 k.2.1 k.2.2)) kk')) args s 0 0 A) (F0 m 52 ls [])) : ∀ {v_statuses : Nat → Int32} {v_pile : Nat → Int32} {v_wish : Nat → Int32} {y1 : Int32} {y2 : Int32} {y3 : Int32} {y4 : Int32} {y5 : Int32} {y6 : Int32} {H : Heap} {locs : List Loc} {ls : Array Slot}, q_H D A s (wX5_sure cI cJ cZ cS a_t a_s a_keptS a_statuses a_pile a_tape a_steps a_wish a_mark a_bitsOf a_sizeOf a_number a_moved v_isKept v_taped v_at v_fault v_laid v_open v_s v_statuses v_pile v_wish) H locs → lv_has ls 7 [(0, .ref a_t), (1, .int y1), (2, .int y2), (3, .int y3), (4, .int y4), (5, .int y5), (6, .int y6)] → fX5_sure_127 v_s ag52 v_statuses v_pile v_wish y1 y2 y3 y4 y5 y6 = some (rr, kk') → W p l e rX5_sure s m args below meth c H locs 0 0 (MQ below (q_Ri D rr A ((fun k : (Nat → Int32) × (Nat → Int32) × (Nat → Int32) => (wX5_sure cI cJ cZ cS a_t a_s a_keptS a_statuses a_pile a_tape a_steps a_wish a_mark a_bitsOf a_sizeOf a_number a_moved v_isKept v_taped v_at v_fault v_laid v_open v_s k.1 k.2.1 k.2.2)) kk')) args s 0 0 A) (F0 m 127 ls []) := by
  intro v_statuses v_pile v_wish y1 y2 y3 y4 y5 y6 H locs ls h hl hf
  have hx := fx.1
  have hb := fx.2.1
  unfold fX5_sure_127 at hf
  obtain ⟨u1, eu1, hf⟩ := nm_inv hf
  refine lv_iinc (v := u1) (lv' := [(6, .int u1), (0, .ref a_t), (1, .int y1), (2, .int y2), (3, .int y3), (4, .int y4), (5, .int y5)]) hx hb dX5_sure_127 hl (k := 6) rfl (by rw [eu1]; rfl) (by decide) rfl (fun ls hl => ?_)
  refine lv_goto (tgt := 52) hx hb dX5_sure_130 (by decide) ?_
  exact hag52 h (lv_sub hl [1, 2, 3, 4, 5, 6, 0] rfl) hf
def fX5_sure_125 (v_s : Nat → Int32) (ag52 : (Nat → Int32) → (Nat → Int32) → (Nat → Int32) → Int32 → Int32 → Int32 → Int32 → Int32 → Int32 → Option (Int32 × (Nat → Int32) × (Nat → Int32) × (Nat → Int32))) (v_statuses : Nat → Int32) (v_pile : Nat → Int32) (v_wish : Nat → Int32) (s0 : Int32) (y1 : Int32) (y2 : Int32) (y3 : Int32) (y4 : Int32) (y6 : Int32) : Option (Int32 × (Nat → Int32) × (Nat → Int32) × (Nat → Int32)) :=
  fX5_sure_127 v_s ag52 v_statuses v_pile v_wish y1 y2 y3 y4 s0 y6
set_option maxRecDepth 100000 in
set_option maxHeartbeats 4000000 in
theorem LX5_sure_125 {p : Program} {l : Launch} {e : Env} {s : State} {m : MethodId} {args : Array Value} {below : List Frame} {meth : Method} {c : Code} {D : va_G} {cI cJ cZ cS : ClassId} {tb : Nat} {A : Nat → Prop} {a_t a_s a_keptS a_statuses a_pile a_tape a_steps a_wish a_mark a_bitsOf a_sizeOf a_number a_moved : Nat} {v_isKept : Int32} {v_taped : Int32} {v_at : Int32} {v_fault : Int32} {v_laid : Int32} {v_open : Int32} {v_s : Nat → Int32} {rr : Int32} {kk' : (Nat → Int32) × (Nat → Int32) × (Nat → Int32)} (fx : q_Fx p s m args meth c cX5_sure 7 RX5 (some .int) D cI cJ cZ cS tb A) {ag52 : (Nat → Int32) → (Nat → Int32) → (Nat → Int32) → Int32 → Int32 → Int32 → Int32 → Int32 → Int32 → Option (Int32 × (Nat → Int32) × (Nat → Int32) × (Nat → Int32))} (hag52 : ∀ {v_statuses : Nat → Int32} {v_pile : Nat → Int32} {v_wish : Nat → Int32} {y1 : Int32} {y2 : Int32} {y3 : Int32} {y4 : Int32} {y5 : Int32} {y6 : Int32} {H : Heap} {locs : List Loc} {ls : Array Slot}, q_H D A s (wX5_sure cI cJ cZ cS a_t a_s a_keptS a_statuses a_pile a_tape a_steps a_wish a_mark a_bitsOf a_sizeOf a_number a_moved v_isKept v_taped v_at v_fault v_laid v_open v_s v_statuses v_pile v_wish) H locs → lv_has ls 7 [(0, .ref a_t), (1, .int y1), (2, .int y2), (3, .int y3), (4, .int y4), (5, .int y5), (6, .int y6)] → ag52 v_statuses v_pile v_wish y1 y2 y3 y4 y5 y6 = some (rr, kk') → W p l e rX5_sure s m args below meth c H locs 0 0 (MQ below (q_Ri D rr A ((fun k : (Nat → Int32) × (Nat → Int32) × (Nat → Int32) => (wX5_sure cI cJ cZ cS a_t a_s a_keptS a_statuses a_pile a_tape a_steps a_wish a_mark a_bitsOf a_sizeOf a_number a_moved v_isKept v_taped v_at v_fault v_laid v_open v_s k.1 k.2.1 k.2.2)) kk')) args s 0 0 A) (F0 m 52 ls [])) : ∀ {v_statuses : Nat → Int32} {v_pile : Nat → Int32} {v_wish : Nat → Int32} {s0 : Int32} {y1 : Int32} {y2 : Int32} {y3 : Int32} {y4 : Int32} {y6 : Int32} {H : Heap} {locs : List Loc} {ls : Array Slot}, q_H D A s (wX5_sure cI cJ cZ cS a_t a_s a_keptS a_statuses a_pile a_tape a_steps a_wish a_mark a_bitsOf a_sizeOf a_number a_moved v_isKept v_taped v_at v_fault v_laid v_open v_s v_statuses v_pile v_wish) H locs → lv_has ls 7 [(0, .ref a_t), (1, .int y1), (2, .int y2), (3, .int y3), (4, .int y4), (6, .int y6)] → fX5_sure_125 v_s ag52 v_statuses v_pile v_wish s0 y1 y2 y3 y4 y6 = some (rr, kk') → W p l e rX5_sure s m args below meth c H locs 0 0 (MQ below (q_Ri D rr A ((fun k : (Nat → Int32) × (Nat → Int32) × (Nat → Int32) => (wX5_sure cI cJ cZ cS a_t a_s a_keptS a_statuses a_pile a_tape a_steps a_wish a_mark a_bitsOf a_sizeOf a_number a_moved v_isKept v_taped v_at v_fault v_laid v_open v_s k.1 k.2.1 k.2.2)) kk')) args s 0 0 A) (F0 m 125 ls [.int s0]) := by
  intro v_statuses v_pile v_wish s0 y1 y2 y3 y4 y6 H locs ls h hl hf
  have hx := fx.1
  have hb := fx.2.1
  unfold fX5_sure_125 at hf
  refine lv_istore (lv' := [(5, .int s0), (0, .ref a_t), (1, .int y1), (2, .int y2), (3, .int y3), (4, .int y4), (6, .int y6)]) hx hb dX5_sure_125 hl (by decide) rfl (fun ls hl => ?_)
  exact LX5_sure_127 fx hag52 h (lv_sub hl [1, 2, 3, 4, 5, 0, 6] rfl) hf
def fX5_sure_103 (v_s : Nat → Int32) (ag52 : (Nat → Int32) → (Nat → Int32) → (Nat → Int32) → Int32 → Int32 → Int32 → Int32 → Int32 → Int32 → Option (Int32 × (Nat → Int32) × (Nat → Int32) × (Nat → Int32))) (v_statuses : Nat → Int32) (v_pile : Nat → Int32) (v_wish : Nat → Int32) (s0 : Int32) (y1 : Int32) (y2 : Int32) (y3 : Int32) (y5 : Int32) (y6 : Int32) : Option (Int32 × (Nat → Int32) × (Nat → Int32) × (Nat → Int32)) :=
  bR (fX5_ones y6) (fun r2 k2 =>
  (if y5 ≤ r2 then (
  fX5_sure_125 v_s ag52 v_statuses v_pile v_wish y5 y1 y2 y3 s0 y6)
  else (
  bR (fX5_ones y6) (fun r4 k4 =>
  fX5_sure_125 v_s ag52 v_statuses v_pile v_wish r4 y1 y2 y3 s0 y6))))
set_option maxRecDepth 100000 in
set_option maxHeartbeats 4000000 in
theorem LX5_sure_103 {p : Program} {l : Launch} {e : Env} {s : State} {m : MethodId} {args : Array Value} {below : List Frame} {meth : Method} {c : Code} {D : va_G} {cI cJ cZ cS : ClassId} {tb : Nat} {A : Nat → Prop} {a_t a_s a_keptS a_statuses a_pile a_tape a_steps a_wish a_mark a_bitsOf a_sizeOf a_number a_moved : Nat} {v_isKept : Int32} {v_taped : Int32} {v_at : Int32} {v_fault : Int32} {v_laid : Int32} {v_open : Int32} {v_s : Nat → Int32} {rr : Int32} {kk' : (Nat → Int32) × (Nat → Int32) × (Nat → Int32)} (fx : q_Fx p s m args meth c cX5_sure 7 RX5 (some .int) D cI cJ cZ cS tb A) {ag52 : (Nat → Int32) → (Nat → Int32) → (Nat → Int32) → Int32 → Int32 → Int32 → Int32 → Int32 → Int32 → Option (Int32 × (Nat → Int32) × (Nat → Int32) × (Nat → Int32))} (hag52 : ∀ {v_statuses : Nat → Int32} {v_pile : Nat → Int32} {v_wish : Nat → Int32} {y1 : Int32} {y2 : Int32} {y3 : Int32} {y4 : Int32} {y5 : Int32} {y6 : Int32} {H : Heap} {locs : List Loc} {ls : Array Slot}, q_H D A s (wX5_sure cI cJ cZ cS a_t a_s a_keptS a_statuses a_pile a_tape a_steps a_wish a_mark a_bitsOf a_sizeOf a_number a_moved v_isKept v_taped v_at v_fault v_laid v_open v_s v_statuses v_pile v_wish) H locs → lv_has ls 7 [(0, .ref a_t), (1, .int y1), (2, .int y2), (3, .int y3), (4, .int y4), (5, .int y5), (6, .int y6)] → ag52 v_statuses v_pile v_wish y1 y2 y3 y4 y5 y6 = some (rr, kk') → W p l e rX5_sure s m args below meth c H locs 0 0 (MQ below (q_Ri D rr A ((fun k : (Nat → Int32) × (Nat → Int32) × (Nat → Int32) => (wX5_sure cI cJ cZ cS a_t a_s a_keptS a_statuses a_pile a_tape a_steps a_wish a_mark a_bitsOf a_sizeOf a_number a_moved v_isKept v_taped v_at v_fault v_laid v_open v_s k.1 k.2.1 k.2.2)) kk')) args s 0 0 A) (F0 m 52 ls [])) : ∀ {v_statuses : Nat → Int32} {v_pile : Nat → Int32} {v_wish : Nat → Int32} {s0 : Int32} {y1 : Int32} {y2 : Int32} {y3 : Int32} {y5 : Int32} {y6 : Int32} {H : Heap} {locs : List Loc} {ls : Array Slot}, q_H D A s (wX5_sure cI cJ cZ cS a_t a_s a_keptS a_statuses a_pile a_tape a_steps a_wish a_mark a_bitsOf a_sizeOf a_number a_moved v_isKept v_taped v_at v_fault v_laid v_open v_s v_statuses v_pile v_wish) H locs → lv_has ls 7 [(0, .ref a_t), (1, .int y1), (2, .int y2), (3, .int y3), (5, .int y5), (6, .int y6)] → fX5_sure_103 v_s ag52 v_statuses v_pile v_wish s0 y1 y2 y3 y5 y6 = some (rr, kk') → W p l e rX5_sure s m args below meth c H locs 0 0 (MQ below (q_Ri D rr A ((fun k : (Nat → Int32) × (Nat → Int32) × (Nat → Int32) => (wX5_sure cI cJ cZ cS a_t a_s a_keptS a_statuses a_pile a_tape a_steps a_wish a_mark a_bitsOf a_sizeOf a_number a_moved v_isKept v_taped v_at v_fault v_laid v_open v_s k.1 k.2.1 k.2.2)) kk')) args s 0 0 A) (F0 m 103 ls [.int s0]) := by
  intro v_statuses v_pile v_wish s0 y1 y2 y3 y5 y6 H locs ls h hl hf
  have hx := fx.1
  have hb := fx.2.1
  unfold fX5_sure_103 at hf
  refine lv_istore (lv' := [(4, .int s0), (0, .ref a_t), (1, .int y1), (2, .int y2), (3, .int y3), (5, .int y5), (6, .int y6)]) hx hb dX5_sure_103 hl (by decide) rfl (fun ls hl => ?_)
  refine lv_iload hx hb dX5_sure_105 (lv_at hl 6 rfl) ?_
  obtain ⟨r2, k2, hg, hf⟩ := bR_inv hf
  refine q_ci (rest := []) (ws' := (wX5_sure cI cJ cZ cS a_t a_s a_keptS a_statuses a_pile a_tape a_steps a_wish a_mark a_bitsOf a_sizeOf a_number a_moved v_isKept v_taped v_at v_fault v_laid v_open v_s v_statuses v_pile v_wish)) (w1 := (wX5_ones cI cJ cZ cS)) fx h [] rfl rfl rfl rfl (q_runS fx h hl.1 [] rfl rfl (tX5_ones l D cI cJ cZ cS tb H.size y6 r2 k2 hg) msX5_ones k_722 ⟨rfl, rfl⟩ ⟨Nat.le_of_ble_eq_true rfl, Nat.le_of_ble_eq_true rfl⟩ rfl rfl (Nat.le_of_ble_eq_true rfl) dX5_sure_107 ⟨Nat.le_of_ble_eq_true rfl, Nat.le_of_ble_eq_true rfl⟩) (fun H locs h => ?_)
  refine lv_iload hx hb dX5_sure_110 (lv_at hl 5 rfl) ?_
  refine lv_icmp_ge (tgt := 123) hx hb dX5_sure_112 (by decide) (fun c3 => ?_) (fun c3 => ?_)
  · have hf := it_t c3 hf
    refine lv_iload hx hb dX5_sure_123 (lv_at hl 5 rfl) ?_
    exact LX5_sure_125 fx hag52 h (lv_sub hl [1, 2, 3, 4, 0, 6] rfl) hf
  have hf := it_f c3 hf
  refine lv_iload hx hb dX5_sure_115 (lv_at hl 6 rfl) ?_
  obtain ⟨r4, k4, hg, hf⟩ := bR_inv hf
  refine q_ci (rest := []) (ws' := (wX5_sure cI cJ cZ cS a_t a_s a_keptS a_statuses a_pile a_tape a_steps a_wish a_mark a_bitsOf a_sizeOf a_number a_moved v_isKept v_taped v_at v_fault v_laid v_open v_s v_statuses v_pile v_wish)) (w1 := (wX5_ones cI cJ cZ cS)) fx h [] rfl rfl rfl rfl (q_runS fx h hl.1 [] rfl rfl (tX5_ones l D cI cJ cZ cS tb H.size y6 r4 k4 hg) msX5_ones k_722 ⟨rfl, rfl⟩ ⟨Nat.le_of_ble_eq_true rfl, Nat.le_of_ble_eq_true rfl⟩ rfl rfl (Nat.le_of_ble_eq_true rfl) dX5_sure_117 ⟨Nat.le_of_ble_eq_true rfl, Nat.le_of_ble_eq_true rfl⟩) (fun H locs h => ?_)
  refine lv_goto (tgt := 125) hx hb dX5_sure_120 (by decide) ?_
  exact LX5_sure_125 fx hag52 h (lv_sub hl [1, 2, 3, 4, 0, 6] rfl) hf
def fX5_sure_52 (v_s : Nat → Int32) (ag52 : (Nat → Int32) → (Nat → Int32) → (Nat → Int32) → Int32 → Int32 → Int32 → Int32 → Int32 → Int32 → Option (Int32 × (Nat → Int32) × (Nat → Int32) × (Nat → Int32))) (v_statuses : Nat → Int32) (v_pile : Nat → Int32) (v_wish : Nat → Int32) (y1 : Int32) (y2 : Int32) (y3 : Int32) (y4 : Int32) (y5 : Int32) (y6 : Int32) : Option (Int32 × (Nat → Int32) × (Nat → Int32) × (Nat → Int32)) :=
  bR (fX5_lists v_s) (fun r5 k5 =>
  (if r5 ≤ y6 then (
  (if y1 = 0 then (
  some (y2, (v_statuses, v_pile, v_wish)))
  else (
  (if y1 = 1 then (
  some (y3, (v_statuses, v_pile, v_wish)))
  else (
  (if y1 = 2 then (
  some (y4, (v_statuses, v_pile, v_wish)))
  else (
  some (y5, (v_statuses, v_pile, v_wish)))))))))
  else (
  gIn y6 256 (
  (if (v_wish y6.toNatClampNeg) = y6 then (
  nm (y2 &&& y6) (fun u12 =>
  nm (y3 ||| y6) (fun u13 =>
  bR (fX5_ones y6) (fun r14 k14 =>
  (if r14 ≤ y4 then (
  fX5_sure_103 v_s ag52 v_statuses v_pile v_wish y4 y1 u12 u13 y5 y6)
  else (
  bR (fX5_ones y6) (fun r16 k16 =>
  fX5_sure_103 v_s ag52 v_statuses v_pile v_wish r16 y1 u12 u13 y5 y6)))))))
  else (
  fX5_sure_127 v_s ag52 v_statuses v_pile v_wish y1 y2 y3 y4 y5 y6))))))
set_option maxRecDepth 100000 in
set_option maxHeartbeats 4000000 in
theorem LX5_sure_52 {p : Program} {l : Launch} {e : Env} {s : State} {m : MethodId} {args : Array Value} {below : List Frame} {meth : Method} {c : Code} {D : va_G} {cI cJ cZ cS : ClassId} {tb : Nat} {A : Nat → Prop} {a_t a_s a_keptS a_statuses a_pile a_tape a_steps a_wish a_mark a_bitsOf a_sizeOf a_number a_moved : Nat} {v_isKept : Int32} {v_taped : Int32} {v_at : Int32} {v_fault : Int32} {v_laid : Int32} {v_open : Int32} {v_s : Nat → Int32} {rr : Int32} {kk' : (Nat → Int32) × (Nat → Int32) × (Nat → Int32)} (fx : q_Fx p s m args meth c cX5_sure 7 RX5 (some .int) D cI cJ cZ cS tb A) {ag52 : (Nat → Int32) → (Nat → Int32) → (Nat → Int32) → Int32 → Int32 → Int32 → Int32 → Int32 → Int32 → Option (Int32 × (Nat → Int32) × (Nat → Int32) × (Nat → Int32))} (hag52 : ∀ {v_statuses : Nat → Int32} {v_pile : Nat → Int32} {v_wish : Nat → Int32} {y1 : Int32} {y2 : Int32} {y3 : Int32} {y4 : Int32} {y5 : Int32} {y6 : Int32} {H : Heap} {locs : List Loc} {ls : Array Slot}, q_H D A s (wX5_sure cI cJ cZ cS a_t a_s a_keptS a_statuses a_pile a_tape a_steps a_wish a_mark a_bitsOf a_sizeOf a_number a_moved v_isKept v_taped v_at v_fault v_laid v_open v_s v_statuses v_pile v_wish) H locs → lv_has ls 7 [(0, .ref a_t), (1, .int y1), (2, .int y2), (3, .int y3), (4, .int y4), (5, .int y5), (6, .int y6)] → ag52 v_statuses v_pile v_wish y1 y2 y3 y4 y5 y6 = some (rr, kk') → W p l e rX5_sure s m args below meth c H locs 0 0 (MQ below (q_Ri D rr A ((fun k : (Nat → Int32) × (Nat → Int32) × (Nat → Int32) => (wX5_sure cI cJ cZ cS a_t a_s a_keptS a_statuses a_pile a_tape a_steps a_wish a_mark a_bitsOf a_sizeOf a_number a_moved v_isKept v_taped v_at v_fault v_laid v_open v_s k.1 k.2.1 k.2.2)) kk')) args s 0 0 A) (F0 m 52 ls [])) : ∀ {v_statuses : Nat → Int32} {v_pile : Nat → Int32} {v_wish : Nat → Int32} {y1 : Int32} {y2 : Int32} {y3 : Int32} {y4 : Int32} {y5 : Int32} {y6 : Int32} {H : Heap} {locs : List Loc} {ls : Array Slot}, q_H D A s (wX5_sure cI cJ cZ cS a_t a_s a_keptS a_statuses a_pile a_tape a_steps a_wish a_mark a_bitsOf a_sizeOf a_number a_moved v_isKept v_taped v_at v_fault v_laid v_open v_s v_statuses v_pile v_wish) H locs → lv_has ls 7 [(0, .ref a_t), (1, .int y1), (2, .int y2), (3, .int y3), (4, .int y4), (5, .int y5), (6, .int y6)] → fX5_sure_52 v_s ag52 v_statuses v_pile v_wish y1 y2 y3 y4 y5 y6 = some (rr, kk') → W p l e rX5_sure s m args below meth c H locs 0 0 (MQ below (q_Ri D rr A ((fun k : (Nat → Int32) × (Nat → Int32) × (Nat → Int32) => (wX5_sure cI cJ cZ cS a_t a_s a_keptS a_statuses a_pile a_tape a_steps a_wish a_mark a_bitsOf a_sizeOf a_number a_moved v_isKept v_taped v_at v_fault v_laid v_open v_s k.1 k.2.1 k.2.2)) kk')) args s 0 0 A) (F0 m 52 ls []) := by
  intro v_statuses v_pile v_wish y1 y2 y3 y4 y5 y6 H locs ls h hl hf
  have hx := fx.1
  have hb := fx.2.1
  unfold fX5_sure_52 at hf
  refine lv_iload hx hb dX5_sure_52 (lv_at hl 6 rfl) ?_
  refine lv_aload_n hx hb dX5_sure_54 rfl (lv_at hl 0 rfl) ?_
  obtain ⟨r5, k5, hg, hf⟩ := bR_inv hf
  refine q_ci (rest := [.int y6]) (ws' := (wX5_sure cI cJ cZ cS a_t a_s a_keptS a_statuses a_pile a_tape a_steps a_wish a_mark a_bitsOf a_sizeOf a_number a_moved v_isKept v_taped v_at v_fault v_laid v_open v_s v_statuses v_pile v_wish)) (w1 := (wX5_lists cI cJ cZ cS a_t a_s a_keptS a_statuses a_pile a_tape a_steps a_wish a_mark a_bitsOf a_sizeOf a_number a_moved v_isKept v_taped v_at v_fault v_laid v_open v_s)) fx h [0, 1] rfl rfl rfl rfl (q_runV fx h hl.1 [0, 1] rfl rfl (tX5_lists l D cI cJ cZ cS tb a_t a_s a_keptS a_statuses a_pile a_tape a_steps a_wish a_mark a_bitsOf a_sizeOf a_number a_moved H.size v_isKept v_taped v_at v_fault v_laid v_open v_s r5 k5 hg) mvX5_lists k_810 ⟨rfl, rfl⟩ ⟨Nat.le_of_ble_eq_true rfl, Nat.le_of_ble_eq_true rfl⟩ rfl rfl rfl rfl (Nat.le_of_ble_eq_true rfl) dX5_sure_55 ⟨Nat.le_of_ble_eq_true rfl, Nat.le_of_ble_eq_true rfl⟩) (fun H locs h => ?_)
  refine lv_icmp_ge (tgt := 133) hx hb dX5_sure_58 (by decide) (fun c6 => ?_) (fun c6 => ?_)
  · have hf := it_t c6 hf
    refine lv_iload_n hx hb dX5_sure_133 rfl (lv_at hl 1 rfl) ?_
    refine lv_if_ne (tgt := 141) hx hb dX5_sure_134 (by decide) (fun c7 => ?_) (fun c7 => ?_)
    · have hf := it_f c7 hf
      refine lv_iload_n hx hb dX5_sure_141 rfl (lv_at hl 1 rfl) ?_
      refine lv_iconst (v := 1) hx hb dX5_sure_142 (by decide) ?_
      refine lv_icmp_ne (tgt := 150) hx hb dX5_sure_143 (by decide) (fun c8 => ?_) (fun c8 => ?_)
      · have hf := it_f c8 hf
        refine lv_iload_n hx hb dX5_sure_150 rfl (lv_at hl 1 rfl) ?_
        refine lv_iconst (v := 2) hx hb dX5_sure_151 (by decide) ?_
        refine lv_icmp_ne (tgt := 160) hx hb dX5_sure_152 (by decide) (fun c9 => ?_) (fun c9 => ?_)
        · have hf := it_f c9 hf
          refine lv_iload hx hb dX5_sure_160 (lv_at hl 5 rfl) ?_
          exact q_reti (fun k : (Nat → Int32) × (Nat → Int32) × (Nat → Int32) => (wX5_sure cI cJ cZ cS a_t a_s a_keptS a_statuses a_pile a_tape a_steps a_wish a_mark a_bitsOf a_sizeOf a_number a_moved v_isKept v_taped v_at v_fault v_laid v_open v_s k.1 k.2.1 k.2.2)) fx hf h dX5_sure_162
        have hf := it_t c9 hf
        refine lv_iload hx hb dX5_sure_155 (lv_at hl 4 rfl) ?_
        refine lv_goto (tgt := 162) hx hb dX5_sure_157 (by decide) ?_
        exact q_reti (fun k : (Nat → Int32) × (Nat → Int32) × (Nat → Int32) => (wX5_sure cI cJ cZ cS a_t a_s a_keptS a_statuses a_pile a_tape a_steps a_wish a_mark a_bitsOf a_sizeOf a_number a_moved v_isKept v_taped v_at v_fault v_laid v_open v_s k.1 k.2.1 k.2.2)) fx hf h dX5_sure_162
      have hf := it_t c8 hf
      refine lv_iload_n hx hb dX5_sure_146 rfl (lv_at hl 3 rfl) ?_
      refine lv_goto (tgt := 162) hx hb dX5_sure_147 (by decide) ?_
      exact q_reti (fun k : (Nat → Int32) × (Nat → Int32) × (Nat → Int32) => (wX5_sure cI cJ cZ cS a_t a_s a_keptS a_statuses a_pile a_tape a_steps a_wish a_mark a_bitsOf a_sizeOf a_number a_moved v_isKept v_taped v_at v_fault v_laid v_open v_s k.1 k.2.1 k.2.2)) fx hf h dX5_sure_162
    have hf := it_t c7 hf
    refine lv_iload_n hx hb dX5_sure_137 rfl (lv_at hl 2 rfl) ?_
    refine lv_goto (tgt := 162) hx hb dX5_sure_138 (by decide) ?_
    exact q_reti (fun k : (Nat → Int32) × (Nat → Int32) × (Nat → Int32) => (wX5_sure cI cJ cZ cS a_t a_s a_keptS a_statuses a_pile a_tape a_steps a_wish a_mark a_bitsOf a_sizeOf a_number a_moved v_isKept v_taped v_at v_fault v_laid v_open v_s k.1 k.2.1 k.2.2)) fx hf h dX5_sure_162
  have hf := it_f c6 hf
  refine lv_aload_n hx hb dX5_sure_61 rfl (lv_at hl 0 rfl) ?_
  refine q_get (v := .ref a_wish) fx inX5 h 0 rfl rfl 12 (by decide) k_648 rfl dX5_sure_62 ?_
  refine lv_iload hx hb dX5_sure_65 (lv_at hl 6 rfl) ?_
  obtain ⟨i10, hf⟩ := gIn_inv hf
  refine q_iald fx h 4 rfl i10 dX5_sure_67 ?_
  refine lv_iload hx hb dX5_sure_68 (lv_at hl 6 rfl) ?_
  refine lv_icmp_ne (tgt := 127) hx hb dX5_sure_70 (by decide) (fun c11 => ?_) (fun c11 => ?_)
  · have hf := it_f c11 hf
    exact LX5_sure_127 fx hag52 h (lv_sub hl [0, 1, 2, 3, 4, 5, 6] rfl) hf
  have hf := it_t c11 hf
  refine lv_iload_n hx hb dX5_sure_73 rfl (lv_at hl 2 rfl) ?_
  refine lv_iload hx hb dX5_sure_74 (lv_at hl 6 rfl) ?_
  refine lv_iand hx hb dX5_sure_76 ?_
  obtain ⟨u12, eu12, hf⟩ := nm_inv hf
  refine lv_eqi eu12 ?_
  refine lv_istore_n (lv' := [(2, .int u12), (0, .ref a_t), (1, .int y1), (3, .int y3), (4, .int y4), (5, .int y5), (6, .int y6)]) hx hb dX5_sure_77 rfl hl (by decide) rfl (fun ls hl => ?_)
  refine lv_iload_n hx hb dX5_sure_78 rfl (lv_at hl 3 rfl) ?_
  refine lv_iload hx hb dX5_sure_79 (lv_at hl 6 rfl) ?_
  refine lv_ior hx hb dX5_sure_81 ?_
  obtain ⟨u13, eu13, hf⟩ := nm_inv hf
  refine lv_eqi eu13 ?_
  refine lv_istore_n (lv' := [(3, .int u13), (2, .int u12), (0, .ref a_t), (1, .int y1), (4, .int y4), (5, .int y5), (6, .int y6)]) hx hb dX5_sure_82 rfl hl (by decide) rfl (fun ls hl => ?_)
  refine lv_iload hx hb dX5_sure_83 (lv_at hl 6 rfl) ?_
  obtain ⟨r14, k14, hg, hf⟩ := bR_inv hf
  refine q_ci (rest := []) (ws' := (wX5_sure cI cJ cZ cS a_t a_s a_keptS a_statuses a_pile a_tape a_steps a_wish a_mark a_bitsOf a_sizeOf a_number a_moved v_isKept v_taped v_at v_fault v_laid v_open v_s v_statuses v_pile v_wish)) (w1 := (wX5_ones cI cJ cZ cS)) fx h [] rfl rfl rfl rfl (q_runS fx h hl.1 [] rfl rfl (tX5_ones l D cI cJ cZ cS tb H.size y6 r14 k14 hg) msX5_ones k_722 ⟨rfl, rfl⟩ ⟨Nat.le_of_ble_eq_true rfl, Nat.le_of_ble_eq_true rfl⟩ rfl rfl (Nat.le_of_ble_eq_true rfl) dX5_sure_85 ⟨Nat.le_of_ble_eq_true rfl, Nat.le_of_ble_eq_true rfl⟩) (fun H locs h => ?_)
  refine lv_iload hx hb dX5_sure_88 (lv_at hl 4 rfl) ?_
  refine lv_icmp_le (tgt := 101) hx hb dX5_sure_90 (by decide) (fun c15 => ?_) (fun c15 => ?_)
  · have hf := it_t c15 hf
    refine lv_iload hx hb dX5_sure_101 (lv_at hl 4 rfl) ?_
    exact LX5_sure_103 fx hag52 h (lv_sub hl [2, 3, 1, 0, 5, 6] rfl) hf
  have hf := it_f c15 hf
  refine lv_iload hx hb dX5_sure_93 (lv_at hl 6 rfl) ?_
  obtain ⟨r16, k16, hg, hf⟩ := bR_inv hf
  refine q_ci (rest := []) (ws' := (wX5_sure cI cJ cZ cS a_t a_s a_keptS a_statuses a_pile a_tape a_steps a_wish a_mark a_bitsOf a_sizeOf a_number a_moved v_isKept v_taped v_at v_fault v_laid v_open v_s v_statuses v_pile v_wish)) (w1 := (wX5_ones cI cJ cZ cS)) fx h [] rfl rfl rfl rfl (q_runS fx h hl.1 [] rfl rfl (tX5_ones l D cI cJ cZ cS tb H.size y6 r16 k16 hg) msX5_ones k_722 ⟨rfl, rfl⟩ ⟨Nat.le_of_ble_eq_true rfl, Nat.le_of_ble_eq_true rfl⟩ rfl rfl (Nat.le_of_ble_eq_true rfl) dX5_sure_95 ⟨Nat.le_of_ble_eq_true rfl, Nat.le_of_ble_eq_true rfl⟩) (fun H locs h => ?_)
  refine lv_goto (tgt := 103) hx hb dX5_sure_98 (by decide) ?_
  exact LX5_sure_103 fx hag52 h (lv_sub hl [2, 3, 1, 0, 5, 6] rfl) hf
set_option maxRecDepth 100000 in
theorem EX5_sure_52 {p : Program} {l : Launch} {e : Env} {s : State} {m : MethodId} {args : Array Value} {below : List Frame} {meth : Method} {c : Code} {D : va_G} {cI cJ cZ cS : ClassId} {tb : Nat} {A : Nat → Prop} {a_t a_s a_keptS a_statuses a_pile a_tape a_steps a_wish a_mark a_bitsOf a_sizeOf a_number a_moved : Nat} {v_isKept : Int32} {v_taped : Int32} {v_at : Int32} {v_fault : Int32} {v_laid : Int32} {v_open : Int32} {v_s : Nat → Int32} {rr : Int32} {kk' : (Nat → Int32) × (Nat → Int32) × (Nat → Int32)} (fx : q_Fx p s m args meth c cX5_sure 7 RX5 (some .int) D cI cJ cZ cS tb A) : ∀ (n : Nat), ∀ {v_statuses : Nat → Int32} {v_pile : Nat → Int32} {v_wish : Nat → Int32} {y1 : Int32} {y2 : Int32} {y3 : Int32} {y4 : Int32} {y5 : Int32} {y6 : Int32} {H : Heap} {locs : List Loc} {ls : Array Slot}, q_H D A s (wX5_sure cI cJ cZ cS a_t a_s a_keptS a_statuses a_pile a_tape a_steps a_wish a_mark a_bitsOf a_sizeOf a_number a_moved v_isKept v_taped v_at v_fault v_laid v_open v_s v_statuses v_pile v_wish) H locs → lv_has ls 7 [(0, .ref a_t), (1, .int y1), (2, .int y2), (3, .int y3), (4, .int y4), (5, .int y5), (6, .int y6)] → ll9 (fX5_sure_52 v_s) n v_statuses v_pile v_wish y1 y2 y3 y4 y5 y6 = some (rr, kk') → W p l e rX5_sure s m args below meth c H locs 0 0 (MQ below (q_Ri D rr A ((fun k : (Nat → Int32) × (Nat → Int32) × (Nat → Int32) => (wX5_sure cI cJ cZ cS a_t a_s a_keptS a_statuses a_pile a_tape a_steps a_wish a_mark a_bitsOf a_sizeOf a_number a_moved v_isKept v_taped v_at v_fault v_laid v_open v_s k.1 k.2.1 k.2.2)) kk')) args s 0 0 A) (F0 m 52 ls []) := by
  intro n
  induction n with
  | zero => intro v_statuses v_pile v_wish y1 y2 y3 y4 y5 y6 H locs ls h hl hf; exact (ll9_z hf).elim
  | succ n ih => intro v_statuses v_pile v_wish y1 y2 y3 y4 y5 y6 H locs ls h hl hf; exact LX5_sure_52 fx ih h hl (ll9_s hf)
def fX5_sure (v_s : Nat → Int32) (v_statuses : Nat → Int32) (v_pile : Nat → Int32) (v_wish : Nat → Int32) (x1 : Int32) : Option (Int32 × (Nat → Int32) × (Nat → Int32) × (Nat → Int32)) :=
  bR (fX5_in (x1.toInt64) 0 3) (fun r17 k17 =>
  (if r17 = 0 then (
  bR (fX5_finds v_statuses (-1000000001)) (fun r24 k24 =>
  some (r24, (k24, v_pile, v_wish))))
  else (
  bR (fX5_manySettled v_s v_pile v_wish) (fun r19 k19 =>
  (if r19 = 0 then (
  bR (fX5_finds v_statuses (-1000000004)) (fun r23 k23 =>
  some (r23, (k23, k19.1, k19.2))))
  else (
  bR (fX5_lists v_s) (fun r21 k21 =>
  nm (r21 - 1) (fun u22 =>
  ll9 (fX5_sure_52 v_s) qF v_statuses k19.1 k19.2 x1 u22 0 0 8 0))))))))
set_option maxRecDepth 100000 in
set_option maxHeartbeats 4000000 in
theorem tX5_sure (l : Launch) (D : va_G) (cI cJ cZ cS : ClassId) (tb : Nat) (a_t a_s a_keptS a_statuses a_pile a_tape a_steps a_wish a_mark a_bitsOf a_sizeOf a_number a_moved : Nat) (sz : Nat) (v_isKept : Int32) (v_taped : Int32) (v_at : Int32) (v_fault : Int32) (v_laid : Int32) (v_open : Int32) (v_s : Nat → Int32) (v_statuses : Nat → Int32) (v_pile : Nat → Int32) (v_wish : Nat → Int32) (x1 : Int32) (rr : Int32) (kk' : (Nat → Int32) × (Nat → Int32) × (Nat → Int32)) (hf : fX5_sure v_s v_statuses v_pile v_wish x1 = some (rr, kk')) : Met l yX5_sure (Cond.code yX5_sure cX5_sure 7 (some .int) :: wA) rX5_sure (q_Pre D cI cJ cZ cS tb [.ref a_t, .int x1] sz (wX5_sure cI cJ cZ cS a_t a_s a_keptS a_statuses a_pile a_tape a_steps a_wish a_mark a_bitsOf a_sizeOf a_number a_moved v_isKept v_taped v_at v_fault v_laid v_open v_s v_statuses v_pile v_wish)) (q_Ri D rr (va_A (wX5_sure cI cJ cZ cS a_t a_s a_keptS a_statuses a_pile a_tape a_steps a_wish a_mark a_bitsOf a_sizeOf a_number a_moved v_isKept v_taped v_at v_fault v_laid v_open v_s v_statuses v_pile v_wish) sz) ((fun k : (Nat → Int32) × (Nat → Int32) × (Nat → Int32) => (wX5_sure cI cJ cZ cS a_t a_s a_keptS a_statuses a_pile a_tape a_steps a_wish a_mark a_bitsOf a_sizeOf a_number a_moved v_isKept v_taped v_at v_fault v_laid v_open v_s k.1 k.2.1 k.2.2)) kk')) 0 0 (va_A (wX5_sure cI cJ cZ cS a_t a_s a_keptS a_statuses a_pile a_tape a_steps a_wish a_mark a_bitsOf a_sizeOf a_number a_moved v_isKept v_taped v_at v_fault v_laid v_open v_s v_statuses v_pile v_wish) sz) := by
  refine q_enter (Qf := fun A => (q_Ri D rr A ((fun k : (Nat → Int32) × (Nat → Int32) × (Nat → Int32) => (wX5_sure cI cJ cZ cS a_t a_s a_keptS a_statuses a_pile a_tape a_steps a_wish a_mark a_bitsOf a_sizeOf a_number a_moved v_isKept v_taped v_at v_fault v_laid v_open v_s k.1 k.2.1 k.2.2)) kk'))) (by decide) rfl (Nat.le_of_ble_eq_true rfl) ?_
  intro p e s m below meth c A ls fx hname h hl
  have hx := fx.1
  have hb := fx.2.1
  have hl : lv_has ls 7 [(0, .ref a_t), (1, .int x1)] := hl
  generalize h9 : s.heap = H at h ⊢
  clear h9
  generalize h9 : ([] : List Loc) = locs at h ⊢
  clear h9
  unfold fX5_sure at hf
  refine lv_iload_n hx hb dX5_sure_0 rfl (lv_at hl 1 rfl) ?_
  refine lv_i2l hx hb dX5_sure_1 rfl ?_
  refine lv_lconst (v := 0) hx hb dX5_sure_2 (by decide) ?_
  refine q_ldc2 fx k_901 dX5_sure_3 ?_
  obtain ⟨r17, k17, hg, hf⟩ := bR_inv hf
  refine q_ci (rest := []) (ws' := (wX5_sure cI cJ cZ cS a_t a_s a_keptS a_statuses a_pile a_tape a_steps a_wish a_mark a_bitsOf a_sizeOf a_number a_moved v_isKept v_taped v_at v_fault v_laid v_open v_s v_statuses v_pile v_wish)) (w1 := (wX5_in cI cJ cZ cS)) fx h [] rfl rfl rfl rfl (q_runS fx h hl.1 [] rfl rfl (tX5_in l D cI cJ cZ cS tb H.size (x1.toInt64) 0 3 r17 k17 hg) msX5_in k_697 ⟨rfl, rfl⟩ ⟨Nat.le_of_ble_eq_true rfl, Nat.le_of_ble_eq_true rfl⟩ rfl rfl (Nat.le_of_ble_eq_true rfl) dX5_sure_6 ⟨Nat.le_of_ble_eq_true rfl, Nat.le_of_ble_eq_true rfl⟩) (fun H locs h => ?_)
  refine lv_if_ne (tgt := 19) hx hb dX5_sure_9 (by decide) (fun c18 => ?_) (fun c18 => ?_)
  · have hf := it_f c18 hf
    refine lv_aload_n hx hb dX5_sure_19 rfl (lv_at hl 0 rfl) ?_
    obtain ⟨r19, k19, hg, hf⟩ := bR_inv hf
    refine q_ci (rest := []) (ws' := (wX5_sure cI cJ cZ cS a_t a_s a_keptS a_statuses a_pile a_tape a_steps a_wish a_mark a_bitsOf a_sizeOf a_number a_moved v_isKept v_taped v_at v_fault v_laid v_open v_s v_statuses k19.1 k19.2)) (w1 := (wX5_manySettled cI cJ cZ cS a_t a_s a_keptS a_statuses a_pile a_tape a_steps a_wish a_mark a_bitsOf a_sizeOf a_number a_moved v_isKept v_taped v_at v_fault v_laid v_open v_s k19.1 k19.2)) fx h [0, 1, 3, 4] rfl rfl rfl rfl (q_runV fx h hl.1 [0, 1, 3, 4] rfl rfl (tX5_manySettled l D cI cJ cZ cS tb a_t a_s a_keptS a_statuses a_pile a_tape a_steps a_wish a_mark a_bitsOf a_sizeOf a_number a_moved H.size v_isKept v_taped v_at v_fault v_laid v_open v_s v_pile v_wish r19 k19 hg) mvX5_manySettled k_889 ⟨rfl, rfl⟩ ⟨Nat.le_of_ble_eq_true rfl, Nat.le_of_ble_eq_true rfl⟩ rfl rfl rfl rfl (Nat.le_of_ble_eq_true rfl) dX5_sure_20 ⟨Nat.le_of_ble_eq_true rfl, Nat.le_of_ble_eq_true rfl⟩) (fun H locs h => ?_)
    refine lv_if_ne (tgt := 33) hx hb dX5_sure_23 (by decide) (fun c20 => ?_) (fun c20 => ?_)
    · have hf := it_f c20 hf
      refine lv_aload_n hx hb dX5_sure_33 rfl (lv_at hl 0 rfl) ?_
      obtain ⟨r21, k21, hg, hf⟩ := bR_inv hf
      refine q_ci (rest := []) (ws' := (wX5_sure cI cJ cZ cS a_t a_s a_keptS a_statuses a_pile a_tape a_steps a_wish a_mark a_bitsOf a_sizeOf a_number a_moved v_isKept v_taped v_at v_fault v_laid v_open v_s v_statuses k19.1 k19.2)) (w1 := (wX5_lists cI cJ cZ cS a_t a_s a_keptS a_statuses a_pile a_tape a_steps a_wish a_mark a_bitsOf a_sizeOf a_number a_moved v_isKept v_taped v_at v_fault v_laid v_open v_s)) fx h [0, 1] rfl rfl rfl rfl (q_runV fx h hl.1 [0, 1] rfl rfl (tX5_lists l D cI cJ cZ cS tb a_t a_s a_keptS a_statuses a_pile a_tape a_steps a_wish a_mark a_bitsOf a_sizeOf a_number a_moved H.size v_isKept v_taped v_at v_fault v_laid v_open v_s r21 k21 hg) mvX5_lists k_810 ⟨rfl, rfl⟩ ⟨Nat.le_of_ble_eq_true rfl, Nat.le_of_ble_eq_true rfl⟩ rfl rfl rfl rfl (Nat.le_of_ble_eq_true rfl) dX5_sure_34 ⟨Nat.le_of_ble_eq_true rfl, Nat.le_of_ble_eq_true rfl⟩) (fun H locs h => ?_)
      refine lv_iconst (v := 1) hx hb dX5_sure_37 (by decide) ?_
      refine lv_isub hx hb dX5_sure_38 ?_
      obtain ⟨u22, eu22, hf⟩ := nm_inv hf
      refine lv_eqi eu22 ?_
      refine lv_istore_n (lv' := [(2, .int u22), (0, .ref a_t), (1, .int x1)]) hx hb dX5_sure_39 rfl hl (by decide) rfl (fun ls hl => ?_)
      refine lv_iconst (v := 0) hx hb dX5_sure_40 (by decide) ?_
      refine lv_istore_n (lv' := [(3, .int 0), (2, .int u22), (0, .ref a_t), (1, .int x1)]) hx hb dX5_sure_41 rfl hl (by decide) rfl (fun ls hl => ?_)
      refine lv_iconst (v := 0) hx hb dX5_sure_42 (by decide) ?_
      refine lv_istore (lv' := [(4, .int 0), (3, .int 0), (2, .int u22), (0, .ref a_t), (1, .int x1)]) hx hb dX5_sure_43 hl (by decide) rfl (fun ls hl => ?_)
      refine lv_bipush (v := 8) hx hb dX5_sure_45 (by decide) ?_
      refine lv_istore (lv' := [(5, .int 8), (4, .int 0), (3, .int 0), (2, .int u22), (0, .ref a_t), (1, .int x1)]) hx hb dX5_sure_47 hl (by decide) rfl (fun ls hl => ?_)
      refine lv_iconst (v := 0) hx hb dX5_sure_49 (by decide) ?_
      refine lv_istore (lv' := [(6, .int 0), (5, .int 8), (4, .int 0), (3, .int 0), (2, .int u22), (0, .ref a_t), (1, .int x1)]) hx hb dX5_sure_50 hl (by decide) rfl (fun ls hl => ?_)
      exact EX5_sure_52 fx qF h (lv_sub hl [5, 6, 4, 3, 2, 1, 0] rfl) hf
    have hf := it_t c20 hf
    refine lv_aload_n hx hb dX5_sure_26 rfl (lv_at hl 0 rfl) ?_
    refine q_ldc fx k_864 dX5_sure_27 ?_
    obtain ⟨r23, k23, hg, hf⟩ := bR_inv hf
    refine q_ci (rest := []) (ws' := (wX5_sure cI cJ cZ cS a_t a_s a_keptS a_statuses a_pile a_tape a_steps a_wish a_mark a_bitsOf a_sizeOf a_number a_moved v_isKept v_taped v_at v_fault v_laid v_open v_s k23 k19.1 k19.2)) (w1 := (wX5_finds cI cJ cZ cS a_t a_s a_keptS a_statuses a_pile a_tape a_steps a_wish a_mark a_bitsOf a_sizeOf a_number a_moved v_isKept v_taped v_at v_fault v_laid v_open k23)) fx h [0, 2] rfl rfl rfl rfl (q_runV fx h hl.1 [0, 2] rfl rfl (tX5_finds l D cI cJ cZ cS tb a_t a_s a_keptS a_statuses a_pile a_tape a_steps a_wish a_mark a_bitsOf a_sizeOf a_number a_moved H.size v_isKept v_taped v_at v_fault v_laid v_open v_statuses (-1000000004) r23 k23 hg) mvX5_finds k_702 ⟨rfl, rfl⟩ ⟨Nat.le_of_ble_eq_true rfl, Nat.le_of_ble_eq_true rfl⟩ rfl rfl rfl rfl (Nat.le_of_ble_eq_true rfl) dX5_sure_29 ⟨Nat.le_of_ble_eq_true rfl, Nat.le_of_ble_eq_true rfl⟩) (fun H locs h => ?_)
    exact q_reti (fun k : (Nat → Int32) × (Nat → Int32) × (Nat → Int32) => (wX5_sure cI cJ cZ cS a_t a_s a_keptS a_statuses a_pile a_tape a_steps a_wish a_mark a_bitsOf a_sizeOf a_number a_moved v_isKept v_taped v_at v_fault v_laid v_open v_s k.1 k.2.1 k.2.2)) fx hf h dX5_sure_32
  have hf := it_t c18 hf
  refine lv_aload_n hx hb dX5_sure_12 rfl (lv_at hl 0 rfl) ?_
  refine q_ldc fx k_701 dX5_sure_13 ?_
  obtain ⟨r24, k24, hg, hf⟩ := bR_inv hf
  refine q_ci (rest := []) (ws' := (wX5_sure cI cJ cZ cS a_t a_s a_keptS a_statuses a_pile a_tape a_steps a_wish a_mark a_bitsOf a_sizeOf a_number a_moved v_isKept v_taped v_at v_fault v_laid v_open v_s k24 v_pile v_wish)) (w1 := (wX5_finds cI cJ cZ cS a_t a_s a_keptS a_statuses a_pile a_tape a_steps a_wish a_mark a_bitsOf a_sizeOf a_number a_moved v_isKept v_taped v_at v_fault v_laid v_open k24)) fx h [0, 2] rfl rfl rfl rfl (q_runV fx h hl.1 [0, 2] rfl rfl (tX5_finds l D cI cJ cZ cS tb a_t a_s a_keptS a_statuses a_pile a_tape a_steps a_wish a_mark a_bitsOf a_sizeOf a_number a_moved H.size v_isKept v_taped v_at v_fault v_laid v_open v_statuses (-1000000001) r24 k24 hg) mvX5_finds k_702 ⟨rfl, rfl⟩ ⟨Nat.le_of_ble_eq_true rfl, Nat.le_of_ble_eq_true rfl⟩ rfl rfl rfl rfl (Nat.le_of_ble_eq_true rfl) dX5_sure_15 ⟨Nat.le_of_ble_eq_true rfl, Nat.le_of_ble_eq_true rfl⟩) (fun H locs h => ?_)
  exact q_reti (fun k : (Nat → Int32) × (Nat → Int32) × (Nat → Int32) => (wX5_sure cI cJ cZ cS a_t a_s a_keptS a_statuses a_pile a_tape a_steps a_wish a_mark a_bitsOf a_sizeOf a_number a_moved v_isKept v_taped v_at v_fault v_laid v_open v_s k.1 k.2.1 k.2.2)) fx hf h dX5_sure_18
/-! X5_looksWhere -/
abbrev wX5_looksWhere (cI cJ cZ cS : ClassId) (a_t a_s a_keptS a_statuses a_pile a_tape a_steps a_wish a_mark a_bitsOf a_sizeOf a_number a_moved : Nat) (v_isKept : Int32) (v_taped : Int32) (v_at : Int32) (v_fault : Int32) (v_laid : Int32) (v_open : Int32) (v_s : Nat → Int32) (v_pile : Nat → Int32) (v_wish : Nat → Int32) (v_mark : Nat → Int32) : va_W := [(a_t, .inr (5, [.ref a_s, .ref a_keptS, .ref a_statuses, .int v_isKept, .ref a_pile, .ref a_tape, .ref a_steps, .int v_taped, .int v_at, .int v_fault, .int v_laid, .int v_open, .ref a_wish, .ref a_mark, .ref a_bitsOf, .ref a_sizeOf, .ref a_number, .ref a_moved])), (a_s, .inl (cI, 538, .inl v_s)), (a_pile, .inl (cZ, 64, .inl v_pile)), (a_wish, .inl (cI, 256, .inl v_wish)), (a_mark, .inl (cI, 256, .inl v_mark))]
abbrev rX5_looksWhere : Room := { frames := 6, cells := 0, slots := 0, locals := 137 }
def fX5_looksWhere_68 (v_s : Nat → Int32) (ag6 : (Nat → Int32) → (Nat → Int32) → (Nat → Int32) → Int32 → Option ((Nat → Int32) × (Nat → Int32) × (Nat → Int32))) (v_pile : Nat → Int32) (v_wish : Nat → Int32) (v_mark : Nat → Int32) (s1 : Int32) (s2 : Int32) (y1 : Int32) : Option ((Nat → Int32) × (Nat → Int32) × (Nat → Int32)) :=
  gIn s1 256 (
  nm (y1 + 1) (fun u2 =>
  ag6 v_pile v_wish (upd v_mark s1.toNatClampNeg s2) u2))
set_option maxRecDepth 100000 in
set_option maxHeartbeats 4000000 in
theorem LX5_looksWhere_68 {p : Program} {l : Launch} {e : Env} {s : State} {m : MethodId} {args : Array Value} {below : List Frame} {meth : Method} {c : Code} {D : va_G} {cI cJ cZ cS : ClassId} {tb : Nat} {A : Nat → Prop} {a_t a_s a_keptS a_statuses a_pile a_tape a_steps a_wish a_mark a_bitsOf a_sizeOf a_number a_moved : Nat} {v_isKept : Int32} {v_taped : Int32} {v_at : Int32} {v_fault : Int32} {v_laid : Int32} {v_open : Int32} {v_s : Nat → Int32} {kk' : (Nat → Int32) × (Nat → Int32) × (Nat → Int32)} (fx : q_Fx p s m args meth c cX5_looksWhere 4 RX5 none D cI cJ cZ cS tb A) {ag6 : (Nat → Int32) → (Nat → Int32) → (Nat → Int32) → Int32 → Option ((Nat → Int32) × (Nat → Int32) × (Nat → Int32))} (hag6 : ∀ {v_pile : Nat → Int32} {v_wish : Nat → Int32} {v_mark : Nat → Int32} {y1 : Int32} {H : Heap} {locs : List Loc} {ls : Array Slot}, q_H D A s (wX5_looksWhere cI cJ cZ cS a_t a_s a_keptS a_statuses a_pile a_tape a_steps a_wish a_mark a_bitsOf a_sizeOf a_number a_moved v_isKept v_taped v_at v_fault v_laid v_open v_s v_pile v_wish v_mark) H locs → lv_has ls 4 [(0, .ref a_t), (1, .int y1)] → ag6 v_pile v_wish v_mark y1 = some kk' → W p l e rX5_looksWhere s m args below meth c H locs 0 0 (MQ below (q_Rv D A ((fun k : (Nat → Int32) × (Nat → Int32) × (Nat → Int32) => (wX5_looksWhere cI cJ cZ cS a_t a_s a_keptS a_statuses a_pile a_tape a_steps a_wish a_mark a_bitsOf a_sizeOf a_number a_moved v_isKept v_taped v_at v_fault v_laid v_open v_s k.1 k.2.1 k.2.2)) kk')) args s 0 0 A) (F0 m 6 ls [])) : ∀ {v_pile : Nat → Int32} {v_wish : Nat → Int32} {v_mark : Nat → Int32} {s1 : Int32} {s2 : Int32} {y1 : Int32} {H : Heap} {locs : List Loc} {ls : Array Slot}, q_H D A s (wX5_looksWhere cI cJ cZ cS a_t a_s a_keptS a_statuses a_pile a_tape a_steps a_wish a_mark a_bitsOf a_sizeOf a_number a_moved v_isKept v_taped v_at v_fault v_laid v_open v_s v_pile v_wish v_mark) H locs → lv_has ls 4 [(0, .ref a_t), (1, .int y1)] → fX5_looksWhere_68 v_s ag6 v_pile v_wish v_mark s1 s2 y1 = some kk' → W p l e rX5_looksWhere s m args below meth c H locs 0 0 (MQ below (q_Rv D A ((fun k : (Nat → Int32) × (Nat → Int32) × (Nat → Int32) => (wX5_looksWhere cI cJ cZ cS a_t a_s a_keptS a_statuses a_pile a_tape a_steps a_wish a_mark a_bitsOf a_sizeOf a_number a_moved v_isKept v_taped v_at v_fault v_laid v_open v_s k.1 k.2.1 k.2.2)) kk')) args s 0 0 A) (F0 m 68 ls [.int s2, .int s1, .ref a_mark]) := by
  intro v_pile v_wish v_mark s1 s2 y1 H locs ls h hl hf
  have hx := fx.1
  have hb := fx.2.1
  unfold fX5_looksWhere_68 at hf
  obtain ⟨i1, hf⟩ := gIn_inv hf
  refine q_iast (ws' := (wX5_looksWhere cI cJ cZ cS a_t a_s a_keptS a_statuses a_pile a_tape a_steps a_wish a_mark a_bitsOf a_sizeOf a_number a_moved v_isKept v_taped v_at v_fault v_laid v_open v_s v_pile v_wish (upd v_mark s1.toNatClampNeg s2))) fx h 4 rfl i1 rfl dX5_looksWhere_68 (fun H locs h => ?_)
  obtain ⟨u2, eu2, hf⟩ := nm_inv hf
  refine lv_iinc (v := u2) (lv' := [(1, .int u2), (0, .ref a_t)]) hx hb dX5_looksWhere_69 hl (k := 1) rfl (by rw [eu2]; rfl) (by decide) rfl (fun ls hl => ?_)
  refine lv_goto (tgt := 6) hx hb dX5_looksWhere_72 (by decide) ?_
  exact hag6 h (lv_sub hl [1, 0] rfl) hf
def fX5_looksWhere_48 (v_s : Nat → Int32) (ag6 : (Nat → Int32) → (Nat → Int32) → (Nat → Int32) → Int32 → Option ((Nat → Int32) × (Nat → Int32) × (Nat → Int32))) (v_pile : Nat → Int32) (v_wish : Nat → Int32) (v_mark : Nat → Int32) (y1 : Int32) (y2 : Int32) : Option ((Nat → Int32) × (Nat → Int32) × (Nat → Int32)) :=
  gIn y2 256 (
  (if (v_wish y2.toNatClampNeg) = y2 then (
  fX5_looksWhere_68 v_s ag6 v_pile v_wish v_mark y1 y2 y1)
  else (
  fX5_looksWhere_68 v_s ag6 v_pile v_wish v_mark y1 (-1) y1)))
set_option maxRecDepth 100000 in
set_option maxHeartbeats 4000000 in
theorem LX5_looksWhere_48 {p : Program} {l : Launch} {e : Env} {s : State} {m : MethodId} {args : Array Value} {below : List Frame} {meth : Method} {c : Code} {D : va_G} {cI cJ cZ cS : ClassId} {tb : Nat} {A : Nat → Prop} {a_t a_s a_keptS a_statuses a_pile a_tape a_steps a_wish a_mark a_bitsOf a_sizeOf a_number a_moved : Nat} {v_isKept : Int32} {v_taped : Int32} {v_at : Int32} {v_fault : Int32} {v_laid : Int32} {v_open : Int32} {v_s : Nat → Int32} {kk' : (Nat → Int32) × (Nat → Int32) × (Nat → Int32)} (fx : q_Fx p s m args meth c cX5_looksWhere 4 RX5 none D cI cJ cZ cS tb A) {ag6 : (Nat → Int32) → (Nat → Int32) → (Nat → Int32) → Int32 → Option ((Nat → Int32) × (Nat → Int32) × (Nat → Int32))} (hag6 : ∀ {v_pile : Nat → Int32} {v_wish : Nat → Int32} {v_mark : Nat → Int32} {y1 : Int32} {H : Heap} {locs : List Loc} {ls : Array Slot}, q_H D A s (wX5_looksWhere cI cJ cZ cS a_t a_s a_keptS a_statuses a_pile a_tape a_steps a_wish a_mark a_bitsOf a_sizeOf a_number a_moved v_isKept v_taped v_at v_fault v_laid v_open v_s v_pile v_wish v_mark) H locs → lv_has ls 4 [(0, .ref a_t), (1, .int y1)] → ag6 v_pile v_wish v_mark y1 = some kk' → W p l e rX5_looksWhere s m args below meth c H locs 0 0 (MQ below (q_Rv D A ((fun k : (Nat → Int32) × (Nat → Int32) × (Nat → Int32) => (wX5_looksWhere cI cJ cZ cS a_t a_s a_keptS a_statuses a_pile a_tape a_steps a_wish a_mark a_bitsOf a_sizeOf a_number a_moved v_isKept v_taped v_at v_fault v_laid v_open v_s k.1 k.2.1 k.2.2)) kk')) args s 0 0 A) (F0 m 6 ls [])) : ∀ {v_pile : Nat → Int32} {v_wish : Nat → Int32} {v_mark : Nat → Int32} {y1 : Int32} {y2 : Int32} {H : Heap} {locs : List Loc} {ls : Array Slot}, q_H D A s (wX5_looksWhere cI cJ cZ cS a_t a_s a_keptS a_statuses a_pile a_tape a_steps a_wish a_mark a_bitsOf a_sizeOf a_number a_moved v_isKept v_taped v_at v_fault v_laid v_open v_s v_pile v_wish v_mark) H locs → lv_has ls 4 [(0, .ref a_t), (1, .int y1), (2, .int y2)] → fX5_looksWhere_48 v_s ag6 v_pile v_wish v_mark y1 y2 = some kk' → W p l e rX5_looksWhere s m args below meth c H locs 0 0 (MQ below (q_Rv D A ((fun k : (Nat → Int32) × (Nat → Int32) × (Nat → Int32) => (wX5_looksWhere cI cJ cZ cS a_t a_s a_keptS a_statuses a_pile a_tape a_steps a_wish a_mark a_bitsOf a_sizeOf a_number a_moved v_isKept v_taped v_at v_fault v_laid v_open v_s k.1 k.2.1 k.2.2)) kk')) args s 0 0 A) (F0 m 48 ls []) := by
  intro v_pile v_wish v_mark y1 y2 H locs ls h hl hf
  have hx := fx.1
  have hb := fx.2.1
  unfold fX5_looksWhere_48 at hf
  refine lv_aload_n hx hb dX5_looksWhere_48 rfl (lv_at hl 0 rfl) ?_
  refine q_get (v := .ref a_mark) fx inX5 h 0 rfl rfl 13 (by decide) k_649 rfl dX5_looksWhere_49 ?_
  refine lv_iload_n hx hb dX5_looksWhere_52 rfl (lv_at hl 1 rfl) ?_
  refine lv_aload_n hx hb dX5_looksWhere_53 rfl (lv_at hl 0 rfl) ?_
  refine q_get (v := .ref a_wish) fx inX5 h 0 rfl rfl 12 (by decide) k_648 rfl dX5_looksWhere_54 ?_
  refine lv_iload_n hx hb dX5_looksWhere_57 rfl (lv_at hl 2 rfl) ?_
  obtain ⟨i3, hf⟩ := gIn_inv hf
  refine q_iald fx h 3 rfl i3 dX5_looksWhere_58 ?_
  refine lv_iload_n hx hb dX5_looksWhere_59 rfl (lv_at hl 2 rfl) ?_
  refine lv_icmp_ne (tgt := 67) hx hb dX5_looksWhere_60 (by decide) (fun c4 => ?_) (fun c4 => ?_)
  · have hf := it_f c4 hf
    refine lv_iconst (v := -1) hx hb dX5_looksWhere_67 (by decide) ?_
    exact LX5_looksWhere_68 fx hag6 h (lv_sub hl [0, 1] rfl) hf
  have hf := it_t c4 hf
  refine lv_iload_n hx hb dX5_looksWhere_63 rfl (lv_at hl 2 rfl) ?_
  refine lv_goto (tgt := 68) hx hb dX5_looksWhere_64 (by decide) ?_
  exact LX5_looksWhere_68 fx hag6 h (lv_sub hl [0, 1] rfl) hf
def fX5_looksWhere_18 (v_s : Nat → Int32) (ag6 : (Nat → Int32) → (Nat → Int32) → (Nat → Int32) → Int32 → Option ((Nat → Int32) × (Nat → Int32) × (Nat → Int32))) (ag18 : (Nat → Int32) → (Nat → Int32) → (Nat → Int32) → Int32 → Int32 → Int32 → Option ((Nat → Int32) × (Nat → Int32) × (Nat → Int32))) (v_pile : Nat → Int32) (v_wish : Nat → Int32) (v_mark : Nat → Int32) (y1 : Int32) (y2 : Int32) (y3 : Int32) : Option ((Nat → Int32) × (Nat → Int32) × (Nat → Int32)) :=
  (if (256 : Int32) ≤ y3 then (
  fX5_looksWhere_48 v_s ag6 v_pile v_wish v_mark y1 y2)
  else (
  gIn y2 256 (
  (if (v_wish y2.toNatClampNeg) = y2 then (
  fX5_looksWhere_48 v_s ag6 v_pile v_wish v_mark y1 y2)
  else (
  gIn y2 256 (
  nm (v_wish y2.toNatClampNeg) (fun u9 =>
  nm (y3 + 1) (fun u10 =>
  ag18 v_pile v_wish v_mark y1 u9 u10))))))))
set_option maxRecDepth 100000 in
set_option maxHeartbeats 4000000 in
theorem LX5_looksWhere_18 {p : Program} {l : Launch} {e : Env} {s : State} {m : MethodId} {args : Array Value} {below : List Frame} {meth : Method} {c : Code} {D : va_G} {cI cJ cZ cS : ClassId} {tb : Nat} {A : Nat → Prop} {a_t a_s a_keptS a_statuses a_pile a_tape a_steps a_wish a_mark a_bitsOf a_sizeOf a_number a_moved : Nat} {v_isKept : Int32} {v_taped : Int32} {v_at : Int32} {v_fault : Int32} {v_laid : Int32} {v_open : Int32} {v_s : Nat → Int32} {kk' : (Nat → Int32) × (Nat → Int32) × (Nat → Int32)} (fx : q_Fx p s m args meth c cX5_looksWhere 4 RX5 none D cI cJ cZ cS tb A) {ag6 : (Nat → Int32) → (Nat → Int32) → (Nat → Int32) → Int32 → Option ((Nat → Int32) × (Nat → Int32) × (Nat → Int32))} (hag6 : ∀ {v_pile : Nat → Int32} {v_wish : Nat → Int32} {v_mark : Nat → Int32} {y1 : Int32} {H : Heap} {locs : List Loc} {ls : Array Slot}, q_H D A s (wX5_looksWhere cI cJ cZ cS a_t a_s a_keptS a_statuses a_pile a_tape a_steps a_wish a_mark a_bitsOf a_sizeOf a_number a_moved v_isKept v_taped v_at v_fault v_laid v_open v_s v_pile v_wish v_mark) H locs → lv_has ls 4 [(0, .ref a_t), (1, .int y1)] → ag6 v_pile v_wish v_mark y1 = some kk' → W p l e rX5_looksWhere s m args below meth c H locs 0 0 (MQ below (q_Rv D A ((fun k : (Nat → Int32) × (Nat → Int32) × (Nat → Int32) => (wX5_looksWhere cI cJ cZ cS a_t a_s a_keptS a_statuses a_pile a_tape a_steps a_wish a_mark a_bitsOf a_sizeOf a_number a_moved v_isKept v_taped v_at v_fault v_laid v_open v_s k.1 k.2.1 k.2.2)) kk')) args s 0 0 A) (F0 m 6 ls [])) {ag18 : (Nat → Int32) → (Nat → Int32) → (Nat → Int32) → Int32 → Int32 → Int32 → Option ((Nat → Int32) × (Nat → Int32) × (Nat → Int32))} (hag18 : ∀ {v_pile : Nat → Int32} {v_wish : Nat → Int32} {v_mark : Nat → Int32} {y1 : Int32} {y2 : Int32} {y3 : Int32} {H : Heap} {locs : List Loc} {ls : Array Slot}, q_H D A s (wX5_looksWhere cI cJ cZ cS a_t a_s a_keptS a_statuses a_pile a_tape a_steps a_wish a_mark a_bitsOf a_sizeOf a_number a_moved v_isKept v_taped v_at v_fault v_laid v_open v_s v_pile v_wish v_mark) H locs → lv_has ls 4 [(0, .ref a_t), (1, .int y1), (2, .int y2), (3, .int y3)] → ag18 v_pile v_wish v_mark y1 y2 y3 = some kk' → W p l e rX5_looksWhere s m args below meth c H locs 0 0 (MQ below (q_Rv D A ((fun k : (Nat → Int32) × (Nat → Int32) × (Nat → Int32) => (wX5_looksWhere cI cJ cZ cS a_t a_s a_keptS a_statuses a_pile a_tape a_steps a_wish a_mark a_bitsOf a_sizeOf a_number a_moved v_isKept v_taped v_at v_fault v_laid v_open v_s k.1 k.2.1 k.2.2)) kk')) args s 0 0 A) (F0 m 18 ls [])) : ∀ {v_pile : Nat → Int32} {v_wish : Nat → Int32} {v_mark : Nat → Int32} {y1 : Int32} {y2 : Int32} {y3 : Int32} {H : Heap} {locs : List Loc} {ls : Array Slot}, q_H D A s (wX5_looksWhere cI cJ cZ cS a_t a_s a_keptS a_statuses a_pile a_tape a_steps a_wish a_mark a_bitsOf a_sizeOf a_number a_moved v_isKept v_taped v_at v_fault v_laid v_open v_s v_pile v_wish v_mark) H locs → lv_has ls 4 [(0, .ref a_t), (1, .int y1), (2, .int y2), (3, .int y3)] → fX5_looksWhere_18 v_s ag6 ag18 v_pile v_wish v_mark y1 y2 y3 = some kk' → W p l e rX5_looksWhere s m args below meth c H locs 0 0 (MQ below (q_Rv D A ((fun k : (Nat → Int32) × (Nat → Int32) × (Nat → Int32) => (wX5_looksWhere cI cJ cZ cS a_t a_s a_keptS a_statuses a_pile a_tape a_steps a_wish a_mark a_bitsOf a_sizeOf a_number a_moved v_isKept v_taped v_at v_fault v_laid v_open v_s k.1 k.2.1 k.2.2)) kk')) args s 0 0 A) (F0 m 18 ls []) := by
  intro v_pile v_wish v_mark y1 y2 y3 H locs ls h hl hf
  have hx := fx.1
  have hb := fx.2.1
  unfold fX5_looksWhere_18 at hf
  refine lv_iload_n hx hb dX5_looksWhere_18 rfl (lv_at hl 3 rfl) ?_
  refine lv_sipush (v := 256) hx hb dX5_looksWhere_19 (by decide) ?_
  refine lv_icmp_ge (tgt := 48) hx hb dX5_looksWhere_22 (by decide) (fun c5 => ?_) (fun c5 => ?_)
  · have hf := it_t c5 hf
    exact LX5_looksWhere_48 fx hag6 h (lv_sub hl [0, 1, 2] rfl) hf
  have hf := it_f c5 hf
  refine lv_aload_n hx hb dX5_looksWhere_25 rfl (lv_at hl 0 rfl) ?_
  refine q_get (v := .ref a_wish) fx inX5 h 0 rfl rfl 12 (by decide) k_648 rfl dX5_looksWhere_26 ?_
  refine lv_iload_n hx hb dX5_looksWhere_29 rfl (lv_at hl 2 rfl) ?_
  obtain ⟨i6, hf⟩ := gIn_inv hf
  refine q_iald fx h 3 rfl i6 dX5_looksWhere_30 ?_
  refine lv_iload_n hx hb dX5_looksWhere_31 rfl (lv_at hl 2 rfl) ?_
  refine lv_icmp_eq (tgt := 48) hx hb dX5_looksWhere_32 (by decide) (fun c7 => ?_) (fun c7 => ?_)
  · have hf := it_t c7 hf
    exact LX5_looksWhere_48 fx hag6 h (lv_sub hl [0, 1, 2] rfl) hf
  have hf := it_f c7 hf
  refine lv_aload_n hx hb dX5_looksWhere_35 rfl (lv_at hl 0 rfl) ?_
  refine q_get (v := .ref a_wish) fx inX5 h 0 rfl rfl 12 (by decide) k_648 rfl dX5_looksWhere_36 ?_
  refine lv_iload_n hx hb dX5_looksWhere_39 rfl (lv_at hl 2 rfl) ?_
  obtain ⟨i8, hf⟩ := gIn_inv hf
  refine q_iald fx h 3 rfl i8 dX5_looksWhere_40 ?_
  obtain ⟨u9, eu9, hf⟩ := nm_inv hf
  refine lv_eqi eu9 ?_
  refine lv_istore_n (lv' := [(2, .int u9), (0, .ref a_t), (1, .int y1), (3, .int y3)]) hx hb dX5_looksWhere_41 rfl hl (by decide) rfl (fun ls hl => ?_)
  obtain ⟨u10, eu10, hf⟩ := nm_inv hf
  refine lv_iinc (v := u10) (lv' := [(3, .int u10), (2, .int u9), (0, .ref a_t), (1, .int y1)]) hx hb dX5_looksWhere_42 hl (k := 3) rfl (by rw [eu10]; rfl) (by decide) rfl (fun ls hl => ?_)
  refine lv_goto (tgt := 18) hx hb dX5_looksWhere_45 (by decide) ?_
  exact hag18 h (lv_sub hl [2, 3, 1, 0] rfl) hf
set_option maxRecDepth 100000 in
theorem EX5_looksWhere_18 {p : Program} {l : Launch} {e : Env} {s : State} {m : MethodId} {args : Array Value} {below : List Frame} {meth : Method} {c : Code} {D : va_G} {cI cJ cZ cS : ClassId} {tb : Nat} {A : Nat → Prop} {a_t a_s a_keptS a_statuses a_pile a_tape a_steps a_wish a_mark a_bitsOf a_sizeOf a_number a_moved : Nat} {v_isKept : Int32} {v_taped : Int32} {v_at : Int32} {v_fault : Int32} {v_laid : Int32} {v_open : Int32} {v_s : Nat → Int32} {kk' : (Nat → Int32) × (Nat → Int32) × (Nat → Int32)} (fx : q_Fx p s m args meth c cX5_looksWhere 4 RX5 none D cI cJ cZ cS tb A) {ag6 : (Nat → Int32) → (Nat → Int32) → (Nat → Int32) → Int32 → Option ((Nat → Int32) × (Nat → Int32) × (Nat → Int32))} (hag6 : ∀ {v_pile : Nat → Int32} {v_wish : Nat → Int32} {v_mark : Nat → Int32} {y1 : Int32} {H : Heap} {locs : List Loc} {ls : Array Slot}, q_H D A s (wX5_looksWhere cI cJ cZ cS a_t a_s a_keptS a_statuses a_pile a_tape a_steps a_wish a_mark a_bitsOf a_sizeOf a_number a_moved v_isKept v_taped v_at v_fault v_laid v_open v_s v_pile v_wish v_mark) H locs → lv_has ls 4 [(0, .ref a_t), (1, .int y1)] → ag6 v_pile v_wish v_mark y1 = some kk' → W p l e rX5_looksWhere s m args below meth c H locs 0 0 (MQ below (q_Rv D A ((fun k : (Nat → Int32) × (Nat → Int32) × (Nat → Int32) => (wX5_looksWhere cI cJ cZ cS a_t a_s a_keptS a_statuses a_pile a_tape a_steps a_wish a_mark a_bitsOf a_sizeOf a_number a_moved v_isKept v_taped v_at v_fault v_laid v_open v_s k.1 k.2.1 k.2.2)) kk')) args s 0 0 A) (F0 m 6 ls [])) : ∀ (n : Nat), ∀ {v_pile : Nat → Int32} {v_wish : Nat → Int32} {v_mark : Nat → Int32} {y1 : Int32} {y2 : Int32} {y3 : Int32} {H : Heap} {locs : List Loc} {ls : Array Slot}, q_H D A s (wX5_looksWhere cI cJ cZ cS a_t a_s a_keptS a_statuses a_pile a_tape a_steps a_wish a_mark a_bitsOf a_sizeOf a_number a_moved v_isKept v_taped v_at v_fault v_laid v_open v_s v_pile v_wish v_mark) H locs → lv_has ls 4 [(0, .ref a_t), (1, .int y1), (2, .int y2), (3, .int y3)] → ll6 (fX5_looksWhere_18 v_s ag6) n v_pile v_wish v_mark y1 y2 y3 = some kk' → W p l e rX5_looksWhere s m args below meth c H locs 0 0 (MQ below (q_Rv D A ((fun k : (Nat → Int32) × (Nat → Int32) × (Nat → Int32) => (wX5_looksWhere cI cJ cZ cS a_t a_s a_keptS a_statuses a_pile a_tape a_steps a_wish a_mark a_bitsOf a_sizeOf a_number a_moved v_isKept v_taped v_at v_fault v_laid v_open v_s k.1 k.2.1 k.2.2)) kk')) args s 0 0 A) (F0 m 18 ls []) := by
  intro n
  induction n with
  | zero => intro v_pile v_wish v_mark y1 y2 y3 H locs ls h hl hf; exact (ll6_z hf).elim
  | succ n ih => intro v_pile v_wish v_mark y1 y2 y3 H locs ls h hl hf; exact LX5_looksWhere_18 fx hag6 ih h hl (ll6_s hf)
def fX5_looksWhere_6 (v_s : Nat → Int32) (ag6 : (Nat → Int32) → (Nat → Int32) → (Nat → Int32) → Int32 → Option ((Nat → Int32) × (Nat → Int32) × (Nat → Int32))) (v_pile : Nat → Int32) (v_wish : Nat → Int32) (v_mark : Nat → Int32) (y1 : Int32) : Option ((Nat → Int32) × (Nat → Int32) × (Nat → Int32)) :=
  bR (fX5_lists v_s) (fun r11 k11 =>
  (if r11 ≤ y1 then (
  some (v_pile, v_wish, v_mark))
  else (
  ll6 (fX5_looksWhere_18 v_s ag6) qF v_pile v_wish v_mark y1 y1 0)))
set_option maxRecDepth 100000 in
set_option maxHeartbeats 4000000 in
theorem LX5_looksWhere_6 {p : Program} {l : Launch} {e : Env} {s : State} {m : MethodId} {args : Array Value} {below : List Frame} {meth : Method} {c : Code} {D : va_G} {cI cJ cZ cS : ClassId} {tb : Nat} {A : Nat → Prop} {a_t a_s a_keptS a_statuses a_pile a_tape a_steps a_wish a_mark a_bitsOf a_sizeOf a_number a_moved : Nat} {v_isKept : Int32} {v_taped : Int32} {v_at : Int32} {v_fault : Int32} {v_laid : Int32} {v_open : Int32} {v_s : Nat → Int32} {kk' : (Nat → Int32) × (Nat → Int32) × (Nat → Int32)} (fx : q_Fx p s m args meth c cX5_looksWhere 4 RX5 none D cI cJ cZ cS tb A) {ag6 : (Nat → Int32) → (Nat → Int32) → (Nat → Int32) → Int32 → Option ((Nat → Int32) × (Nat → Int32) × (Nat → Int32))} (hag6 : ∀ {v_pile : Nat → Int32} {v_wish : Nat → Int32} {v_mark : Nat → Int32} {y1 : Int32} {H : Heap} {locs : List Loc} {ls : Array Slot}, q_H D A s (wX5_looksWhere cI cJ cZ cS a_t a_s a_keptS a_statuses a_pile a_tape a_steps a_wish a_mark a_bitsOf a_sizeOf a_number a_moved v_isKept v_taped v_at v_fault v_laid v_open v_s v_pile v_wish v_mark) H locs → lv_has ls 4 [(0, .ref a_t), (1, .int y1)] → ag6 v_pile v_wish v_mark y1 = some kk' → W p l e rX5_looksWhere s m args below meth c H locs 0 0 (MQ below (q_Rv D A ((fun k : (Nat → Int32) × (Nat → Int32) × (Nat → Int32) => (wX5_looksWhere cI cJ cZ cS a_t a_s a_keptS a_statuses a_pile a_tape a_steps a_wish a_mark a_bitsOf a_sizeOf a_number a_moved v_isKept v_taped v_at v_fault v_laid v_open v_s k.1 k.2.1 k.2.2)) kk')) args s 0 0 A) (F0 m 6 ls [])) : ∀ {v_pile : Nat → Int32} {v_wish : Nat → Int32} {v_mark : Nat → Int32} {y1 : Int32} {H : Heap} {locs : List Loc} {ls : Array Slot}, q_H D A s (wX5_looksWhere cI cJ cZ cS a_t a_s a_keptS a_statuses a_pile a_tape a_steps a_wish a_mark a_bitsOf a_sizeOf a_number a_moved v_isKept v_taped v_at v_fault v_laid v_open v_s v_pile v_wish v_mark) H locs → lv_has ls 4 [(0, .ref a_t), (1, .int y1)] → fX5_looksWhere_6 v_s ag6 v_pile v_wish v_mark y1 = some kk' → W p l e rX5_looksWhere s m args below meth c H locs 0 0 (MQ below (q_Rv D A ((fun k : (Nat → Int32) × (Nat → Int32) × (Nat → Int32) => (wX5_looksWhere cI cJ cZ cS a_t a_s a_keptS a_statuses a_pile a_tape a_steps a_wish a_mark a_bitsOf a_sizeOf a_number a_moved v_isKept v_taped v_at v_fault v_laid v_open v_s k.1 k.2.1 k.2.2)) kk')) args s 0 0 A) (F0 m 6 ls []) := by
  intro v_pile v_wish v_mark y1 H locs ls h hl hf
  have hx := fx.1
  have hb := fx.2.1
  unfold fX5_looksWhere_6 at hf
  refine lv_iload_n hx hb dX5_looksWhere_6 rfl (lv_at hl 1 rfl) ?_
  refine lv_aload_n hx hb dX5_looksWhere_7 rfl (lv_at hl 0 rfl) ?_
  obtain ⟨r11, k11, hg, hf⟩ := bR_inv hf
  refine q_ci (rest := [.int y1]) (ws' := (wX5_looksWhere cI cJ cZ cS a_t a_s a_keptS a_statuses a_pile a_tape a_steps a_wish a_mark a_bitsOf a_sizeOf a_number a_moved v_isKept v_taped v_at v_fault v_laid v_open v_s v_pile v_wish v_mark)) (w1 := (wX5_lists cI cJ cZ cS a_t a_s a_keptS a_statuses a_pile a_tape a_steps a_wish a_mark a_bitsOf a_sizeOf a_number a_moved v_isKept v_taped v_at v_fault v_laid v_open v_s)) fx h [0, 1] rfl rfl rfl rfl (q_runV fx h hl.1 [0, 1] rfl rfl (tX5_lists l D cI cJ cZ cS tb a_t a_s a_keptS a_statuses a_pile a_tape a_steps a_wish a_mark a_bitsOf a_sizeOf a_number a_moved H.size v_isKept v_taped v_at v_fault v_laid v_open v_s r11 k11 hg) mvX5_lists k_810 ⟨rfl, rfl⟩ ⟨Nat.le_of_ble_eq_true rfl, Nat.le_of_ble_eq_true rfl⟩ rfl rfl rfl rfl (Nat.le_of_ble_eq_true rfl) dX5_looksWhere_8 ⟨Nat.le_of_ble_eq_true rfl, Nat.le_of_ble_eq_true rfl⟩) (fun H locs h => ?_)
  refine lv_icmp_ge (tgt := 75) hx hb dX5_looksWhere_11 (by decide) (fun c12 => ?_) (fun c12 => ?_)
  · have hf := it_t c12 hf
    exact q_retv (fun k : (Nat → Int32) × (Nat → Int32) × (Nat → Int32) => (wX5_looksWhere cI cJ cZ cS a_t a_s a_keptS a_statuses a_pile a_tape a_steps a_wish a_mark a_bitsOf a_sizeOf a_number a_moved v_isKept v_taped v_at v_fault v_laid v_open v_s k.1 k.2.1 k.2.2)) fx hf h dX5_looksWhere_75
  have hf := it_f c12 hf
  refine lv_iload_n hx hb dX5_looksWhere_14 rfl (lv_at hl 1 rfl) ?_
  refine lv_istore_n (lv' := [(2, .int y1), (0, .ref a_t), (1, .int y1)]) hx hb dX5_looksWhere_15 rfl hl (by decide) rfl (fun ls hl => ?_)
  refine lv_iconst (v := 0) hx hb dX5_looksWhere_16 (by decide) ?_
  refine lv_istore_n (lv' := [(3, .int 0), (2, .int y1), (0, .ref a_t), (1, .int y1)]) hx hb dX5_looksWhere_17 rfl hl (by decide) rfl (fun ls hl => ?_)
  exact EX5_looksWhere_18 fx hag6 qF h (lv_sub hl [2, 3, 1, 0] rfl) hf
set_option maxRecDepth 100000 in
theorem EX5_looksWhere_6 {p : Program} {l : Launch} {e : Env} {s : State} {m : MethodId} {args : Array Value} {below : List Frame} {meth : Method} {c : Code} {D : va_G} {cI cJ cZ cS : ClassId} {tb : Nat} {A : Nat → Prop} {a_t a_s a_keptS a_statuses a_pile a_tape a_steps a_wish a_mark a_bitsOf a_sizeOf a_number a_moved : Nat} {v_isKept : Int32} {v_taped : Int32} {v_at : Int32} {v_fault : Int32} {v_laid : Int32} {v_open : Int32} {v_s : Nat → Int32} {kk' : (Nat → Int32) × (Nat → Int32) × (Nat → Int32)} (fx : q_Fx p s m args meth c cX5_looksWhere 4 RX5 none D cI cJ cZ cS tb A) : ∀ (n : Nat), ∀ {v_pile : Nat → Int32} {v_wish : Nat → Int32} {v_mark : Nat → Int32} {y1 : Int32} {H : Heap} {locs : List Loc} {ls : Array Slot}, q_H D A s (wX5_looksWhere cI cJ cZ cS a_t a_s a_keptS a_statuses a_pile a_tape a_steps a_wish a_mark a_bitsOf a_sizeOf a_number a_moved v_isKept v_taped v_at v_fault v_laid v_open v_s v_pile v_wish v_mark) H locs → lv_has ls 4 [(0, .ref a_t), (1, .int y1)] → ll4 (fX5_looksWhere_6 v_s) n v_pile v_wish v_mark y1 = some kk' → W p l e rX5_looksWhere s m args below meth c H locs 0 0 (MQ below (q_Rv D A ((fun k : (Nat → Int32) × (Nat → Int32) × (Nat → Int32) => (wX5_looksWhere cI cJ cZ cS a_t a_s a_keptS a_statuses a_pile a_tape a_steps a_wish a_mark a_bitsOf a_sizeOf a_number a_moved v_isKept v_taped v_at v_fault v_laid v_open v_s k.1 k.2.1 k.2.2)) kk')) args s 0 0 A) (F0 m 6 ls []) := by
  intro n
  induction n with
  | zero => intro v_pile v_wish v_mark y1 H locs ls h hl hf; exact (ll4_z hf).elim
  | succ n ih => intro v_pile v_wish v_mark y1 H locs ls h hl hf; exact LX5_looksWhere_6 fx ih h hl (ll4_s hf)
def fX5_looksWhere (v_s : Nat → Int32) (v_pile : Nat → Int32) (v_wish : Nat → Int32) (v_mark : Nat → Int32) : Option ((Nat → Int32) × (Nat → Int32) × (Nat → Int32)) :=
  bV (fX5_looksAll v_s v_pile v_wish) (fun k13 =>
  ll4 (fX5_looksWhere_6 v_s) qF k13.1 k13.2 v_mark 0)
set_option maxRecDepth 100000 in
set_option maxHeartbeats 4000000 in
theorem tX5_looksWhere (l : Launch) (D : va_G) (cI cJ cZ cS : ClassId) (tb : Nat) (a_t a_s a_keptS a_statuses a_pile a_tape a_steps a_wish a_mark a_bitsOf a_sizeOf a_number a_moved : Nat) (sz : Nat) (v_isKept : Int32) (v_taped : Int32) (v_at : Int32) (v_fault : Int32) (v_laid : Int32) (v_open : Int32) (v_s : Nat → Int32) (v_pile : Nat → Int32) (v_wish : Nat → Int32) (v_mark : Nat → Int32) (kk' : (Nat → Int32) × (Nat → Int32) × (Nat → Int32)) (hf : fX5_looksWhere v_s v_pile v_wish v_mark = some kk') : Met l yX5_looksWhere (Cond.code yX5_looksWhere cX5_looksWhere 4 none :: wA) rX5_looksWhere (q_Pre D cI cJ cZ cS tb [.ref a_t] sz (wX5_looksWhere cI cJ cZ cS a_t a_s a_keptS a_statuses a_pile a_tape a_steps a_wish a_mark a_bitsOf a_sizeOf a_number a_moved v_isKept v_taped v_at v_fault v_laid v_open v_s v_pile v_wish v_mark)) (q_Rv D (va_A (wX5_looksWhere cI cJ cZ cS a_t a_s a_keptS a_statuses a_pile a_tape a_steps a_wish a_mark a_bitsOf a_sizeOf a_number a_moved v_isKept v_taped v_at v_fault v_laid v_open v_s v_pile v_wish v_mark) sz) ((fun k : (Nat → Int32) × (Nat → Int32) × (Nat → Int32) => (wX5_looksWhere cI cJ cZ cS a_t a_s a_keptS a_statuses a_pile a_tape a_steps a_wish a_mark a_bitsOf a_sizeOf a_number a_moved v_isKept v_taped v_at v_fault v_laid v_open v_s k.1 k.2.1 k.2.2)) kk')) 0 0 (va_A (wX5_looksWhere cI cJ cZ cS a_t a_s a_keptS a_statuses a_pile a_tape a_steps a_wish a_mark a_bitsOf a_sizeOf a_number a_moved v_isKept v_taped v_at v_fault v_laid v_open v_s v_pile v_wish v_mark) sz) := by
  refine q_enter (Qf := fun A => (q_Rv D A ((fun k : (Nat → Int32) × (Nat → Int32) × (Nat → Int32) => (wX5_looksWhere cI cJ cZ cS a_t a_s a_keptS a_statuses a_pile a_tape a_steps a_wish a_mark a_bitsOf a_sizeOf a_number a_moved v_isKept v_taped v_at v_fault v_laid v_open v_s k.1 k.2.1 k.2.2)) kk'))) (by decide) rfl (Nat.le_of_ble_eq_true rfl) ?_
  intro p e s m below meth c A ls fx hname h hl
  have hx := fx.1
  have hb := fx.2.1
  have hl : lv_has ls 4 [(0, .ref a_t)] := hl
  generalize h9 : s.heap = H at h ⊢
  clear h9
  generalize h9 : ([] : List Loc) = locs at h ⊢
  clear h9
  unfold fX5_looksWhere at hf
  refine lv_aload_n hx hb dX5_looksWhere_0 rfl (lv_at hl 0 rfl) ?_
  obtain ⟨k13, hg, hf⟩ := bV_inv hf
  refine q_cv (rest := []) (ws' := (wX5_looksWhere cI cJ cZ cS a_t a_s a_keptS a_statuses a_pile a_tape a_steps a_wish a_mark a_bitsOf a_sizeOf a_number a_moved v_isKept v_taped v_at v_fault v_laid v_open v_s k13.1 k13.2 v_mark)) (w1 := (wX5_looksAll cI cJ cZ cS a_t a_s a_keptS a_statuses a_pile a_tape a_steps a_wish a_mark a_bitsOf a_sizeOf a_number a_moved v_isKept v_taped v_at v_fault v_laid v_open v_s k13.1 k13.2)) fx h [0, 1, 2, 3] rfl rfl rfl rfl (q_runV fx h hl.1 [0, 1, 2, 3] rfl rfl (tX5_looksAll l D cI cJ cZ cS tb a_t a_s a_keptS a_statuses a_pile a_tape a_steps a_wish a_mark a_bitsOf a_sizeOf a_number a_moved H.size v_isKept v_taped v_at v_fault v_laid v_open v_s v_pile v_wish k13 hg) mvX5_looksAll k_860 ⟨rfl, rfl⟩ ⟨Nat.le_of_ble_eq_true rfl, Nat.le_of_ble_eq_true rfl⟩ rfl rfl rfl rfl (Nat.le_of_ble_eq_true rfl) dX5_looksWhere_1 ⟨Nat.le_of_ble_eq_true rfl, Nat.le_of_ble_eq_true rfl⟩) (fun H locs h => ?_)
  refine lv_iconst (v := 0) hx hb dX5_looksWhere_4 (by decide) ?_
  refine lv_istore_n (lv' := [(1, .int 0), (0, .ref a_t)]) hx hb dX5_looksWhere_5 rfl hl (by decide) rfl (fun ls hl => ?_)
  exact EX5_looksWhere_6 fx qF h (lv_sub hl [1, 0] rfl) hf
/-! X5_basin -/
abbrev wX5_basin (cI cJ cZ cS : ClassId) (a_t a_s a_keptS a_statuses a_pile a_tape a_steps a_wish a_mark a_bitsOf a_sizeOf a_number a_moved : Nat) (v_isKept : Int32) (v_taped : Int32) (v_at : Int32) (v_fault : Int32) (v_laid : Int32) (v_open : Int32) (v_s : Nat → Int32) (v_pile : Nat → Int32) (v_wish : Nat → Int32) (v_mark : Nat → Int32) : va_W := [(a_t, .inr (5, [.ref a_s, .ref a_keptS, .ref a_statuses, .int v_isKept, .ref a_pile, .ref a_tape, .ref a_steps, .int v_taped, .int v_at, .int v_fault, .int v_laid, .int v_open, .ref a_wish, .ref a_mark, .ref a_bitsOf, .ref a_sizeOf, .ref a_number, .ref a_moved])), (a_s, .inl (cI, 538, .inl v_s)), (a_pile, .inl (cZ, 64, .inl v_pile)), (a_wish, .inl (cI, 256, .inl v_wish)), (a_mark, .inl (cI, 256, .inl v_mark))]
abbrev rX5_basin : Room := { frames := 7, cells := 0, slots := 0, locals := 160 }
def fX5_basin_31 (v_s : Nat → Int32) (ag8 : (Nat → Int32) → (Nat → Int32) → (Nat → Int32) → Int32 → Int32 → Option (Int32 × (Nat → Int32) × (Nat → Int32) × (Nat → Int32))) (v_pile : Nat → Int32) (v_wish : Nat → Int32) (v_mark : Nat → Int32) (s0 : Int32) (s1 : Int32) (y2 : Int32) : Option (Int32 × (Nat → Int32) × (Nat → Int32) × (Nat → Int32)) :=
  nm (s0 + s1) (fun u1 =>
  nm (y2 + 1) (fun u2 =>
  ag8 v_pile v_wish v_mark u1 u2))
set_option maxRecDepth 100000 in
set_option maxHeartbeats 4000000 in
theorem LX5_basin_31 {p : Program} {l : Launch} {e : Env} {s : State} {m : MethodId} {args : Array Value} {below : List Frame} {meth : Method} {c : Code} {D : va_G} {cI cJ cZ cS : ClassId} {tb : Nat} {A : Nat → Prop} {a_t a_s a_keptS a_statuses a_pile a_tape a_steps a_wish a_mark a_bitsOf a_sizeOf a_number a_moved : Nat} {v_isKept : Int32} {v_taped : Int32} {v_at : Int32} {v_fault : Int32} {v_laid : Int32} {v_open : Int32} {v_s : Nat → Int32} {rr : Int32} {kk' : (Nat → Int32) × (Nat → Int32) × (Nat → Int32)} (fx : q_Fx p s m args meth c cX5_basin 3 RX5 (some .int) D cI cJ cZ cS tb A) {ag8 : (Nat → Int32) → (Nat → Int32) → (Nat → Int32) → Int32 → Int32 → Option (Int32 × (Nat → Int32) × (Nat → Int32) × (Nat → Int32))} (hag8 : ∀ {v_pile : Nat → Int32} {v_wish : Nat → Int32} {v_mark : Nat → Int32} {y1 : Int32} {y2 : Int32} {H : Heap} {locs : List Loc} {ls : Array Slot}, q_H D A s (wX5_basin cI cJ cZ cS a_t a_s a_keptS a_statuses a_pile a_tape a_steps a_wish a_mark a_bitsOf a_sizeOf a_number a_moved v_isKept v_taped v_at v_fault v_laid v_open v_s v_pile v_wish v_mark) H locs → lv_has ls 3 [(0, .ref a_t), (1, .int y1), (2, .int y2)] → ag8 v_pile v_wish v_mark y1 y2 = some (rr, kk') → W p l e rX5_basin s m args below meth c H locs 0 0 (MQ below (q_Ri D rr A ((fun k : (Nat → Int32) × (Nat → Int32) × (Nat → Int32) => (wX5_basin cI cJ cZ cS a_t a_s a_keptS a_statuses a_pile a_tape a_steps a_wish a_mark a_bitsOf a_sizeOf a_number a_moved v_isKept v_taped v_at v_fault v_laid v_open v_s k.1 k.2.1 k.2.2)) kk')) args s 0 0 A) (F0 m 8 ls [])) : ∀ {v_pile : Nat → Int32} {v_wish : Nat → Int32} {v_mark : Nat → Int32} {s0 : Int32} {s1 : Int32} {y2 : Int32} {H : Heap} {locs : List Loc} {ls : Array Slot}, q_H D A s (wX5_basin cI cJ cZ cS a_t a_s a_keptS a_statuses a_pile a_tape a_steps a_wish a_mark a_bitsOf a_sizeOf a_number a_moved v_isKept v_taped v_at v_fault v_laid v_open v_s v_pile v_wish v_mark) H locs → lv_has ls 3 [(0, .ref a_t), (2, .int y2)] → fX5_basin_31 v_s ag8 v_pile v_wish v_mark s0 s1 y2 = some (rr, kk') → W p l e rX5_basin s m args below meth c H locs 0 0 (MQ below (q_Ri D rr A ((fun k : (Nat → Int32) × (Nat → Int32) × (Nat → Int32) => (wX5_basin cI cJ cZ cS a_t a_s a_keptS a_statuses a_pile a_tape a_steps a_wish a_mark a_bitsOf a_sizeOf a_number a_moved v_isKept v_taped v_at v_fault v_laid v_open v_s k.1 k.2.1 k.2.2)) kk')) args s 0 0 A) (F0 m 31 ls [.int s1, .int s0]) := by
  intro v_pile v_wish v_mark s0 s1 y2 H locs ls h hl hf
  have hx := fx.1
  have hb := fx.2.1
  unfold fX5_basin_31 at hf
  refine lv_iadd hx hb dX5_basin_31 ?_
  obtain ⟨u1, eu1, hf⟩ := nm_inv hf
  refine lv_eqi eu1 ?_
  refine lv_istore_n (lv' := [(1, .int u1), (0, .ref a_t), (2, .int y2)]) hx hb dX5_basin_32 rfl hl (by decide) rfl (fun ls hl => ?_)
  obtain ⟨u2, eu2, hf⟩ := nm_inv hf
  refine lv_iinc (v := u2) (lv' := [(2, .int u2), (1, .int u1), (0, .ref a_t)]) hx hb dX5_basin_33 hl (k := 2) rfl (by rw [eu2]; rfl) (by decide) rfl (fun ls hl => ?_)
  refine lv_goto (tgt := 8) hx hb dX5_basin_36 (by decide) ?_
  exact hag8 h (lv_sub hl [2, 1, 0] rfl) hf
def fX5_basin_8 (v_s : Nat → Int32) (ag8 : (Nat → Int32) → (Nat → Int32) → (Nat → Int32) → Int32 → Int32 → Option (Int32 × (Nat → Int32) × (Nat → Int32) × (Nat → Int32))) (v_pile : Nat → Int32) (v_wish : Nat → Int32) (v_mark : Nat → Int32) (y1 : Int32) (y2 : Int32) : Option (Int32 × (Nat → Int32) × (Nat → Int32) × (Nat → Int32)) :=
  bR (fX5_lists v_s) (fun r3 k3 =>
  (if r3 ≤ y2 then (
  some (y1, (v_pile, v_wish, v_mark)))
  else (
  gIn y2 256 (
  (if (v_mark y2.toNatClampNeg) < 0 then (
  fX5_basin_31 v_s ag8 v_pile v_wish v_mark y1 0 y2)
  else (
  fX5_basin_31 v_s ag8 v_pile v_wish v_mark y1 1 y2))))))
set_option maxRecDepth 100000 in
set_option maxHeartbeats 4000000 in
theorem LX5_basin_8 {p : Program} {l : Launch} {e : Env} {s : State} {m : MethodId} {args : Array Value} {below : List Frame} {meth : Method} {c : Code} {D : va_G} {cI cJ cZ cS : ClassId} {tb : Nat} {A : Nat → Prop} {a_t a_s a_keptS a_statuses a_pile a_tape a_steps a_wish a_mark a_bitsOf a_sizeOf a_number a_moved : Nat} {v_isKept : Int32} {v_taped : Int32} {v_at : Int32} {v_fault : Int32} {v_laid : Int32} {v_open : Int32} {v_s : Nat → Int32} {rr : Int32} {kk' : (Nat → Int32) × (Nat → Int32) × (Nat → Int32)} (fx : q_Fx p s m args meth c cX5_basin 3 RX5 (some .int) D cI cJ cZ cS tb A) {ag8 : (Nat → Int32) → (Nat → Int32) → (Nat → Int32) → Int32 → Int32 → Option (Int32 × (Nat → Int32) × (Nat → Int32) × (Nat → Int32))} (hag8 : ∀ {v_pile : Nat → Int32} {v_wish : Nat → Int32} {v_mark : Nat → Int32} {y1 : Int32} {y2 : Int32} {H : Heap} {locs : List Loc} {ls : Array Slot}, q_H D A s (wX5_basin cI cJ cZ cS a_t a_s a_keptS a_statuses a_pile a_tape a_steps a_wish a_mark a_bitsOf a_sizeOf a_number a_moved v_isKept v_taped v_at v_fault v_laid v_open v_s v_pile v_wish v_mark) H locs → lv_has ls 3 [(0, .ref a_t), (1, .int y1), (2, .int y2)] → ag8 v_pile v_wish v_mark y1 y2 = some (rr, kk') → W p l e rX5_basin s m args below meth c H locs 0 0 (MQ below (q_Ri D rr A ((fun k : (Nat → Int32) × (Nat → Int32) × (Nat → Int32) => (wX5_basin cI cJ cZ cS a_t a_s a_keptS a_statuses a_pile a_tape a_steps a_wish a_mark a_bitsOf a_sizeOf a_number a_moved v_isKept v_taped v_at v_fault v_laid v_open v_s k.1 k.2.1 k.2.2)) kk')) args s 0 0 A) (F0 m 8 ls [])) : ∀ {v_pile : Nat → Int32} {v_wish : Nat → Int32} {v_mark : Nat → Int32} {y1 : Int32} {y2 : Int32} {H : Heap} {locs : List Loc} {ls : Array Slot}, q_H D A s (wX5_basin cI cJ cZ cS a_t a_s a_keptS a_statuses a_pile a_tape a_steps a_wish a_mark a_bitsOf a_sizeOf a_number a_moved v_isKept v_taped v_at v_fault v_laid v_open v_s v_pile v_wish v_mark) H locs → lv_has ls 3 [(0, .ref a_t), (1, .int y1), (2, .int y2)] → fX5_basin_8 v_s ag8 v_pile v_wish v_mark y1 y2 = some (rr, kk') → W p l e rX5_basin s m args below meth c H locs 0 0 (MQ below (q_Ri D rr A ((fun k : (Nat → Int32) × (Nat → Int32) × (Nat → Int32) => (wX5_basin cI cJ cZ cS a_t a_s a_keptS a_statuses a_pile a_tape a_steps a_wish a_mark a_bitsOf a_sizeOf a_number a_moved v_isKept v_taped v_at v_fault v_laid v_open v_s k.1 k.2.1 k.2.2)) kk')) args s 0 0 A) (F0 m 8 ls []) := by
  intro v_pile v_wish v_mark y1 y2 H locs ls h hl hf
  have hx := fx.1
  have hb := fx.2.1
  unfold fX5_basin_8 at hf
  refine lv_iload_n hx hb dX5_basin_8 rfl (lv_at hl 2 rfl) ?_
  refine lv_aload_n hx hb dX5_basin_9 rfl (lv_at hl 0 rfl) ?_
  obtain ⟨r3, k3, hg, hf⟩ := bR_inv hf
  refine q_ci (rest := [.int y2]) (ws' := (wX5_basin cI cJ cZ cS a_t a_s a_keptS a_statuses a_pile a_tape a_steps a_wish a_mark a_bitsOf a_sizeOf a_number a_moved v_isKept v_taped v_at v_fault v_laid v_open v_s v_pile v_wish v_mark)) (w1 := (wX5_lists cI cJ cZ cS a_t a_s a_keptS a_statuses a_pile a_tape a_steps a_wish a_mark a_bitsOf a_sizeOf a_number a_moved v_isKept v_taped v_at v_fault v_laid v_open v_s)) fx h [0, 1] rfl rfl rfl rfl (q_runV fx h hl.1 [0, 1] rfl rfl (tX5_lists l D cI cJ cZ cS tb a_t a_s a_keptS a_statuses a_pile a_tape a_steps a_wish a_mark a_bitsOf a_sizeOf a_number a_moved H.size v_isKept v_taped v_at v_fault v_laid v_open v_s r3 k3 hg) mvX5_lists k_810 ⟨rfl, rfl⟩ ⟨Nat.le_of_ble_eq_true rfl, Nat.le_of_ble_eq_true rfl⟩ rfl rfl rfl rfl (Nat.le_of_ble_eq_true rfl) dX5_basin_10 ⟨Nat.le_of_ble_eq_true rfl, Nat.le_of_ble_eq_true rfl⟩) (fun H locs h => ?_)
  refine lv_icmp_ge (tgt := 39) hx hb dX5_basin_13 (by decide) (fun c4 => ?_) (fun c4 => ?_)
  · have hf := it_t c4 hf
    refine lv_iload_n hx hb dX5_basin_39 rfl (lv_at hl 1 rfl) ?_
    exact q_reti (fun k : (Nat → Int32) × (Nat → Int32) × (Nat → Int32) => (wX5_basin cI cJ cZ cS a_t a_s a_keptS a_statuses a_pile a_tape a_steps a_wish a_mark a_bitsOf a_sizeOf a_number a_moved v_isKept v_taped v_at v_fault v_laid v_open v_s k.1 k.2.1 k.2.2)) fx hf h dX5_basin_40
  have hf := it_f c4 hf
  refine lv_iload_n hx hb dX5_basin_16 rfl (lv_at hl 1 rfl) ?_
  refine lv_aload_n hx hb dX5_basin_17 rfl (lv_at hl 0 rfl) ?_
  refine q_get (v := .ref a_mark) fx inX5 h 0 rfl rfl 13 (by decide) k_649 rfl dX5_basin_18 ?_
  refine lv_iload_n hx hb dX5_basin_21 rfl (lv_at hl 2 rfl) ?_
  obtain ⟨i5, hf⟩ := gIn_inv hf
  refine q_iald fx h 4 rfl i5 dX5_basin_22 ?_
  refine lv_if_lt (tgt := 30) hx hb dX5_basin_23 (by decide) (fun c6 => ?_) (fun c6 => ?_)
  · have hf := it_t c6 hf
    refine lv_iconst (v := 0) hx hb dX5_basin_30 (by decide) ?_
    exact LX5_basin_31 fx hag8 h (lv_sub hl [0, 2] rfl) hf
  have hf := it_f c6 hf
  refine lv_iconst (v := 1) hx hb dX5_basin_26 (by decide) ?_
  refine lv_goto (tgt := 31) hx hb dX5_basin_27 (by decide) ?_
  exact LX5_basin_31 fx hag8 h (lv_sub hl [0, 2] rfl) hf
set_option maxRecDepth 100000 in
theorem EX5_basin_8 {p : Program} {l : Launch} {e : Env} {s : State} {m : MethodId} {args : Array Value} {below : List Frame} {meth : Method} {c : Code} {D : va_G} {cI cJ cZ cS : ClassId} {tb : Nat} {A : Nat → Prop} {a_t a_s a_keptS a_statuses a_pile a_tape a_steps a_wish a_mark a_bitsOf a_sizeOf a_number a_moved : Nat} {v_isKept : Int32} {v_taped : Int32} {v_at : Int32} {v_fault : Int32} {v_laid : Int32} {v_open : Int32} {v_s : Nat → Int32} {rr : Int32} {kk' : (Nat → Int32) × (Nat → Int32) × (Nat → Int32)} (fx : q_Fx p s m args meth c cX5_basin 3 RX5 (some .int) D cI cJ cZ cS tb A) : ∀ (n : Nat), ∀ {v_pile : Nat → Int32} {v_wish : Nat → Int32} {v_mark : Nat → Int32} {y1 : Int32} {y2 : Int32} {H : Heap} {locs : List Loc} {ls : Array Slot}, q_H D A s (wX5_basin cI cJ cZ cS a_t a_s a_keptS a_statuses a_pile a_tape a_steps a_wish a_mark a_bitsOf a_sizeOf a_number a_moved v_isKept v_taped v_at v_fault v_laid v_open v_s v_pile v_wish v_mark) H locs → lv_has ls 3 [(0, .ref a_t), (1, .int y1), (2, .int y2)] → ll5 (fX5_basin_8 v_s) n v_pile v_wish v_mark y1 y2 = some (rr, kk') → W p l e rX5_basin s m args below meth c H locs 0 0 (MQ below (q_Ri D rr A ((fun k : (Nat → Int32) × (Nat → Int32) × (Nat → Int32) => (wX5_basin cI cJ cZ cS a_t a_s a_keptS a_statuses a_pile a_tape a_steps a_wish a_mark a_bitsOf a_sizeOf a_number a_moved v_isKept v_taped v_at v_fault v_laid v_open v_s k.1 k.2.1 k.2.2)) kk')) args s 0 0 A) (F0 m 8 ls []) := by
  intro n
  induction n with
  | zero => intro v_pile v_wish v_mark y1 y2 H locs ls h hl hf; exact (ll5_z hf).elim
  | succ n ih => intro v_pile v_wish v_mark y1 y2 H locs ls h hl hf; exact LX5_basin_8 fx ih h hl (ll5_s hf)
def fX5_basin (v_s : Nat → Int32) (v_pile : Nat → Int32) (v_wish : Nat → Int32) (v_mark : Nat → Int32) : Option (Int32 × (Nat → Int32) × (Nat → Int32) × (Nat → Int32)) :=
  bV (fX5_looksWhere v_s v_pile v_wish v_mark) (fun k7 =>
  ll5 (fX5_basin_8 v_s) qF k7.1 k7.2.1 k7.2.2 0 0)
set_option maxRecDepth 100000 in
set_option maxHeartbeats 4000000 in
theorem tX5_basin (l : Launch) (D : va_G) (cI cJ cZ cS : ClassId) (tb : Nat) (a_t a_s a_keptS a_statuses a_pile a_tape a_steps a_wish a_mark a_bitsOf a_sizeOf a_number a_moved : Nat) (sz : Nat) (v_isKept : Int32) (v_taped : Int32) (v_at : Int32) (v_fault : Int32) (v_laid : Int32) (v_open : Int32) (v_s : Nat → Int32) (v_pile : Nat → Int32) (v_wish : Nat → Int32) (v_mark : Nat → Int32) (rr : Int32) (kk' : (Nat → Int32) × (Nat → Int32) × (Nat → Int32)) (hf : fX5_basin v_s v_pile v_wish v_mark = some (rr, kk')) : Met l yX5_basin (Cond.code yX5_basin cX5_basin 3 (some .int) :: wA) rX5_basin (q_Pre D cI cJ cZ cS tb [.ref a_t] sz (wX5_basin cI cJ cZ cS a_t a_s a_keptS a_statuses a_pile a_tape a_steps a_wish a_mark a_bitsOf a_sizeOf a_number a_moved v_isKept v_taped v_at v_fault v_laid v_open v_s v_pile v_wish v_mark)) (q_Ri D rr (va_A (wX5_basin cI cJ cZ cS a_t a_s a_keptS a_statuses a_pile a_tape a_steps a_wish a_mark a_bitsOf a_sizeOf a_number a_moved v_isKept v_taped v_at v_fault v_laid v_open v_s v_pile v_wish v_mark) sz) ((fun k : (Nat → Int32) × (Nat → Int32) × (Nat → Int32) => (wX5_basin cI cJ cZ cS a_t a_s a_keptS a_statuses a_pile a_tape a_steps a_wish a_mark a_bitsOf a_sizeOf a_number a_moved v_isKept v_taped v_at v_fault v_laid v_open v_s k.1 k.2.1 k.2.2)) kk')) 0 0 (va_A (wX5_basin cI cJ cZ cS a_t a_s a_keptS a_statuses a_pile a_tape a_steps a_wish a_mark a_bitsOf a_sizeOf a_number a_moved v_isKept v_taped v_at v_fault v_laid v_open v_s v_pile v_wish v_mark) sz) := by
  refine q_enter (Qf := fun A => (q_Ri D rr A ((fun k : (Nat → Int32) × (Nat → Int32) × (Nat → Int32) => (wX5_basin cI cJ cZ cS a_t a_s a_keptS a_statuses a_pile a_tape a_steps a_wish a_mark a_bitsOf a_sizeOf a_number a_moved v_isKept v_taped v_at v_fault v_laid v_open v_s k.1 k.2.1 k.2.2)) kk'))) (by decide) rfl (Nat.le_of_ble_eq_true rfl) ?_
  intro p e s m below meth c A ls fx hname h hl
  have hx := fx.1
  have hb := fx.2.1
  have hl : lv_has ls 3 [(0, .ref a_t)] := hl
  generalize h9 : s.heap = H at h ⊢
  clear h9
  generalize h9 : ([] : List Loc) = locs at h ⊢
  clear h9
  unfold fX5_basin at hf
  refine lv_aload_n hx hb dX5_basin_0 rfl (lv_at hl 0 rfl) ?_
  obtain ⟨k7, hg, hf⟩ := bV_inv hf
  refine q_cv (rest := []) (ws' := (wX5_basin cI cJ cZ cS a_t a_s a_keptS a_statuses a_pile a_tape a_steps a_wish a_mark a_bitsOf a_sizeOf a_number a_moved v_isKept v_taped v_at v_fault v_laid v_open v_s k7.1 k7.2.1 k7.2.2)) (w1 := (wX5_looksWhere cI cJ cZ cS a_t a_s a_keptS a_statuses a_pile a_tape a_steps a_wish a_mark a_bitsOf a_sizeOf a_number a_moved v_isKept v_taped v_at v_fault v_laid v_open v_s k7.1 k7.2.1 k7.2.2)) fx h [0, 1, 2, 3, 4] rfl rfl rfl rfl (q_runV fx h hl.1 [0, 1, 2, 3, 4] rfl rfl (tX5_looksWhere l D cI cJ cZ cS tb a_t a_s a_keptS a_statuses a_pile a_tape a_steps a_wish a_mark a_bitsOf a_sizeOf a_number a_moved H.size v_isKept v_taped v_at v_fault v_laid v_open v_s v_pile v_wish v_mark k7 hg) mvX5_looksWhere k_906 ⟨rfl, rfl⟩ ⟨Nat.le_of_ble_eq_true rfl, Nat.le_of_ble_eq_true rfl⟩ rfl rfl rfl rfl (Nat.le_of_ble_eq_true rfl) dX5_basin_1 ⟨Nat.le_of_ble_eq_true rfl, Nat.le_of_ble_eq_true rfl⟩) (fun H locs h => ?_)
  refine lv_iconst (v := 0) hx hb dX5_basin_4 (by decide) ?_
  refine lv_istore_n (lv' := [(1, .int 0), (0, .ref a_t)]) hx hb dX5_basin_5 rfl hl (by decide) rfl (fun ls hl => ?_)
  refine lv_iconst (v := 0) hx hb dX5_basin_6 (by decide) ?_
  refine lv_istore_n (lv' := [(2, .int 0), (1, .int 0), (0, .ref a_t)]) hx hb dX5_basin_7 rfl hl (by decide) rfl (fun ls hl => ?_)
  exact EX5_basin_8 fx qF h (lv_sub hl [2, 1, 0] rfl) hf
/-! X5_odds -/
abbrev wX5_odds (cI cJ cZ cS : ClassId) (a_t a_s a_keptS a_statuses a_pile a_tape a_steps a_wish a_mark a_bitsOf a_sizeOf a_number a_moved : Nat) (v_isKept : Int32) (v_taped : Int32) (v_at : Int32) (v_fault : Int32) (v_laid : Int32) (v_open : Int32) (v_s : Nat → Int32) (v_statuses : Nat → Int32) (v_pile : Nat → Int32) (v_wish : Nat → Int32) (v_mark : Nat → Int32) : va_W := [(a_t, .inr (5, [.ref a_s, .ref a_keptS, .ref a_statuses, .int v_isKept, .ref a_pile, .ref a_tape, .ref a_steps, .int v_taped, .int v_at, .int v_fault, .int v_laid, .int v_open, .ref a_wish, .ref a_mark, .ref a_bitsOf, .ref a_sizeOf, .ref a_number, .ref a_moved])), (a_s, .inl (cI, 538, .inl v_s)), (a_statuses, .inl (cI, 7, .inl v_statuses)), (a_pile, .inl (cZ, 64, .inl v_pile)), (a_wish, .inl (cI, 256, .inl v_wish)), (a_mark, .inl (cI, 256, .inl v_mark))]
abbrev rX5_odds : Room := { frames := 7, cells := 0, slots := 0, locals := 160 }
def fX5_odds_113 (v_s : Nat → Int32) (v_statuses : Nat → Int32) (v_pile : Nat → Int32) (v_wish : Nat → Int32) (v_mark : Nat → Int32) (y2 : Int32) (y3 : Int32) (y4 : Int32) : Option (Int64 × (Nat → Int32) × (Nat → Int32) × (Nat → Int32) × (Nat → Int32)) :=
  (if y2 = 0 then (
  some (y3.toInt64, (v_statuses, v_pile, v_wish, v_mark)))
  else (
  some (y4.toInt64, (v_statuses, v_pile, v_wish, v_mark))))
set_option maxRecDepth 100000 in
set_option maxHeartbeats 4000000 in
theorem LX5_odds_113 {p : Program} {l : Launch} {e : Env} {s : State} {m : MethodId} {args : Array Value} {below : List Frame} {meth : Method} {c : Code} {D : va_G} {cI cJ cZ cS : ClassId} {tb : Nat} {A : Nat → Prop} {a_t a_s a_keptS a_statuses a_pile a_tape a_steps a_wish a_mark a_bitsOf a_sizeOf a_number a_moved : Nat} {v_isKept : Int32} {v_taped : Int32} {v_at : Int32} {v_fault : Int32} {v_laid : Int32} {v_open : Int32} {v_s : Nat → Int32} {rr : Int64} {kk' : (Nat → Int32) × (Nat → Int32) × (Nat → Int32) × (Nat → Int32)} (fx : q_Fx p s m args meth c cX5_odds 5 RX5 (some .long) D cI cJ cZ cS tb A) : ∀ {v_statuses : Nat → Int32} {v_pile : Nat → Int32} {v_wish : Nat → Int32} {v_mark : Nat → Int32} {y2 : Int32} {y3 : Int32} {y4 : Int32} {H : Heap} {locs : List Loc} {ls : Array Slot}, q_H D A s (wX5_odds cI cJ cZ cS a_t a_s a_keptS a_statuses a_pile a_tape a_steps a_wish a_mark a_bitsOf a_sizeOf a_number a_moved v_isKept v_taped v_at v_fault v_laid v_open v_s v_statuses v_pile v_wish v_mark) H locs → lv_has ls 5 [(2, .int y2), (3, .int y3), (4, .int y4)] → fX5_odds_113 v_s v_statuses v_pile v_wish v_mark y2 y3 y4 = some (rr, kk') → W p l e rX5_odds s m args below meth c H locs 0 0 (MQ below (q_Rl D rr A ((fun k : (Nat → Int32) × (Nat → Int32) × (Nat → Int32) × (Nat → Int32) => (wX5_odds cI cJ cZ cS a_t a_s a_keptS a_statuses a_pile a_tape a_steps a_wish a_mark a_bitsOf a_sizeOf a_number a_moved v_isKept v_taped v_at v_fault v_laid v_open v_s k.1 k.2.1 k.2.2.1 k.2.2.2)) kk')) args s 0 0 A) (F0 m 113 ls []) := by
  intro v_statuses v_pile v_wish v_mark y2 y3 y4 H locs ls h hl hf
  have hx := fx.1
  have hb := fx.2.1
  unfold fX5_odds_113 at hf
  refine lv_iload_n hx hb dX5_odds_113 rfl (lv_at hl 0 rfl) ?_
  refine lv_if_ne (tgt := 122) hx hb dX5_odds_114 (by decide) (fun c1 => ?_) (fun c1 => ?_)
  · have hf := it_f c1 hf
    refine lv_iload hx hb dX5_odds_122 (lv_at hl 2 rfl) ?_
    refine lv_i2l hx hb dX5_odds_124 rfl ?_
    exact q_retl (fun k : (Nat → Int32) × (Nat → Int32) × (Nat → Int32) × (Nat → Int32) => (wX5_odds cI cJ cZ cS a_t a_s a_keptS a_statuses a_pile a_tape a_steps a_wish a_mark a_bitsOf a_sizeOf a_number a_moved v_isKept v_taped v_at v_fault v_laid v_open v_s k.1 k.2.1 k.2.2.1 k.2.2.2)) fx hf h dX5_odds_125
  have hf := it_t c1 hf
  refine lv_iload_n hx hb dX5_odds_117 rfl (lv_at hl 1 rfl) ?_
  refine lv_i2l hx hb dX5_odds_118 rfl ?_
  refine lv_goto (tgt := 125) hx hb dX5_odds_119 (by decide) ?_
  exact q_retl (fun k : (Nat → Int32) × (Nat → Int32) × (Nat → Int32) × (Nat → Int32) => (wX5_odds cI cJ cZ cS a_t a_s a_keptS a_statuses a_pile a_tape a_steps a_wish a_mark a_bitsOf a_sizeOf a_number a_moved v_isKept v_taped v_at v_fault v_laid v_open v_s k.1 k.2.1 k.2.2.1 k.2.2.2)) fx hf h dX5_odds_125
def fX5_odds_88 (v_s : Nat → Int32) (ag88 : (Nat → Int32) → (Nat → Int32) → (Nat → Int32) → (Nat → Int32) → Int32 → Int32 → Int32 → Option (Int64 × (Nat → Int32) × (Nat → Int32) × (Nat → Int32) × (Nat → Int32))) (v_statuses : Nat → Int32) (v_pile : Nat → Int32) (v_wish : Nat → Int32) (v_mark : Nat → Int32) (y2 : Int32) (y3 : Int32) (y4 : Int32) : Option (Int64 × (Nat → Int32) × (Nat → Int32) × (Nat → Int32) × (Nat → Int32)) :=
  (if (jrem y3 2) = 0 then (
  (if y4 ≤ 1 then (
  fX5_odds_113 v_s v_statuses v_pile v_wish v_mark y2 y3 y4)
  else (
  nm (y3 / 2) (fun u4 =>
  nm (y4 / 2) (fun u5 =>
  ag88 v_statuses v_pile v_wish v_mark y2 u4 u5)))))
  else (
  fX5_odds_113 v_s v_statuses v_pile v_wish v_mark y2 y3 y4))
set_option maxRecDepth 100000 in
set_option maxHeartbeats 4000000 in
theorem LX5_odds_88 {p : Program} {l : Launch} {e : Env} {s : State} {m : MethodId} {args : Array Value} {below : List Frame} {meth : Method} {c : Code} {D : va_G} {cI cJ cZ cS : ClassId} {tb : Nat} {A : Nat → Prop} {a_t a_s a_keptS a_statuses a_pile a_tape a_steps a_wish a_mark a_bitsOf a_sizeOf a_number a_moved : Nat} {v_isKept : Int32} {v_taped : Int32} {v_at : Int32} {v_fault : Int32} {v_laid : Int32} {v_open : Int32} {v_s : Nat → Int32} {rr : Int64} {kk' : (Nat → Int32) × (Nat → Int32) × (Nat → Int32) × (Nat → Int32)} (fx : q_Fx p s m args meth c cX5_odds 5 RX5 (some .long) D cI cJ cZ cS tb A) {ag88 : (Nat → Int32) → (Nat → Int32) → (Nat → Int32) → (Nat → Int32) → Int32 → Int32 → Int32 → Option (Int64 × (Nat → Int32) × (Nat → Int32) × (Nat → Int32) × (Nat → Int32))} (hag88 : ∀ {v_statuses : Nat → Int32} {v_pile : Nat → Int32} {v_wish : Nat → Int32} {v_mark : Nat → Int32} {y2 : Int32} {y3 : Int32} {y4 : Int32} {H : Heap} {locs : List Loc} {ls : Array Slot}, q_H D A s (wX5_odds cI cJ cZ cS a_t a_s a_keptS a_statuses a_pile a_tape a_steps a_wish a_mark a_bitsOf a_sizeOf a_number a_moved v_isKept v_taped v_at v_fault v_laid v_open v_s v_statuses v_pile v_wish v_mark) H locs → lv_has ls 5 [(2, .int y2), (3, .int y3), (4, .int y4)] → ag88 v_statuses v_pile v_wish v_mark y2 y3 y4 = some (rr, kk') → W p l e rX5_odds s m args below meth c H locs 0 0 (MQ below (q_Rl D rr A ((fun k : (Nat → Int32) × (Nat → Int32) × (Nat → Int32) × (Nat → Int32) => (wX5_odds cI cJ cZ cS a_t a_s a_keptS a_statuses a_pile a_tape a_steps a_wish a_mark a_bitsOf a_sizeOf a_number a_moved v_isKept v_taped v_at v_fault v_laid v_open v_s k.1 k.2.1 k.2.2.1 k.2.2.2)) kk')) args s 0 0 A) (F0 m 88 ls [])) : ∀ {v_statuses : Nat → Int32} {v_pile : Nat → Int32} {v_wish : Nat → Int32} {v_mark : Nat → Int32} {y2 : Int32} {y3 : Int32} {y4 : Int32} {H : Heap} {locs : List Loc} {ls : Array Slot}, q_H D A s (wX5_odds cI cJ cZ cS a_t a_s a_keptS a_statuses a_pile a_tape a_steps a_wish a_mark a_bitsOf a_sizeOf a_number a_moved v_isKept v_taped v_at v_fault v_laid v_open v_s v_statuses v_pile v_wish v_mark) H locs → lv_has ls 5 [(2, .int y2), (3, .int y3), (4, .int y4)] → fX5_odds_88 v_s ag88 v_statuses v_pile v_wish v_mark y2 y3 y4 = some (rr, kk') → W p l e rX5_odds s m args below meth c H locs 0 0 (MQ below (q_Rl D rr A ((fun k : (Nat → Int32) × (Nat → Int32) × (Nat → Int32) × (Nat → Int32) => (wX5_odds cI cJ cZ cS a_t a_s a_keptS a_statuses a_pile a_tape a_steps a_wish a_mark a_bitsOf a_sizeOf a_number a_moved v_isKept v_taped v_at v_fault v_laid v_open v_s k.1 k.2.1 k.2.2.1 k.2.2.2)) kk')) args s 0 0 A) (F0 m 88 ls []) := by
  intro v_statuses v_pile v_wish v_mark y2 y3 y4 H locs ls h hl hf
  have hx := fx.1
  have hb := fx.2.1
  unfold fX5_odds_88 at hf
  refine lv_iload_n hx hb dX5_odds_88 rfl (lv_at hl 1 rfl) ?_
  refine lv_iconst (v := 2) hx hb dX5_odds_89 (by decide) ?_
  refine lv_irem hx hb dX5_odds_90 (by decide) ?_
  refine lv_if_ne (tgt := 113) hx hb dX5_odds_91 (by decide) (fun c2 => ?_) (fun c2 => ?_)
  · have hf := it_f c2 hf
    exact LX5_odds_113 fx h (lv_sub hl [0, 1, 2] rfl) hf
  have hf := it_t c2 hf
  refine lv_iload hx hb dX5_odds_94 (lv_at hl 2 rfl) ?_
  refine lv_iconst (v := 1) hx hb dX5_odds_96 (by decide) ?_
  refine lv_icmp_le (tgt := 113) hx hb dX5_odds_97 (by decide) (fun c3 => ?_) (fun c3 => ?_)
  · have hf := it_t c3 hf
    exact LX5_odds_113 fx h (lv_sub hl [0, 1, 2] rfl) hf
  have hf := it_f c3 hf
  refine lv_iload_n hx hb dX5_odds_100 rfl (lv_at hl 1 rfl) ?_
  refine lv_iconst (v := 2) hx hb dX5_odds_101 (by decide) ?_
  refine lv_idiv hx hb dX5_odds_102 (by decide) ?_
  obtain ⟨u4, eu4, hf⟩ := nm_inv hf
  refine lv_eqi eu4 ?_
  refine lv_istore_n (lv' := [(3, .int u4), (2, .int y2), (4, .int y4)]) hx hb dX5_odds_103 rfl hl (by decide) rfl (fun ls hl => ?_)
  refine lv_iload hx hb dX5_odds_104 (lv_at hl 2 rfl) ?_
  refine lv_iconst (v := 2) hx hb dX5_odds_106 (by decide) ?_
  refine lv_idiv hx hb dX5_odds_107 (by decide) ?_
  obtain ⟨u5, eu5, hf⟩ := nm_inv hf
  refine lv_eqi eu5 ?_
  refine lv_istore (lv' := [(4, .int u5), (3, .int u4), (2, .int y2)]) hx hb dX5_odds_108 hl (by decide) rfl (fun ls hl => ?_)
  refine lv_goto (tgt := 88) hx hb dX5_odds_110 (by decide) ?_
  exact hag88 h (lv_sub hl [2, 1, 0] rfl) hf
set_option maxRecDepth 100000 in
theorem EX5_odds_88 {p : Program} {l : Launch} {e : Env} {s : State} {m : MethodId} {args : Array Value} {below : List Frame} {meth : Method} {c : Code} {D : va_G} {cI cJ cZ cS : ClassId} {tb : Nat} {A : Nat → Prop} {a_t a_s a_keptS a_statuses a_pile a_tape a_steps a_wish a_mark a_bitsOf a_sizeOf a_number a_moved : Nat} {v_isKept : Int32} {v_taped : Int32} {v_at : Int32} {v_fault : Int32} {v_laid : Int32} {v_open : Int32} {v_s : Nat → Int32} {rr : Int64} {kk' : (Nat → Int32) × (Nat → Int32) × (Nat → Int32) × (Nat → Int32)} (fx : q_Fx p s m args meth c cX5_odds 5 RX5 (some .long) D cI cJ cZ cS tb A) : ∀ (n : Nat), ∀ {v_statuses : Nat → Int32} {v_pile : Nat → Int32} {v_wish : Nat → Int32} {v_mark : Nat → Int32} {y2 : Int32} {y3 : Int32} {y4 : Int32} {H : Heap} {locs : List Loc} {ls : Array Slot}, q_H D A s (wX5_odds cI cJ cZ cS a_t a_s a_keptS a_statuses a_pile a_tape a_steps a_wish a_mark a_bitsOf a_sizeOf a_number a_moved v_isKept v_taped v_at v_fault v_laid v_open v_s v_statuses v_pile v_wish v_mark) H locs → lv_has ls 5 [(2, .int y2), (3, .int y3), (4, .int y4)] → ll7 (fX5_odds_88 v_s) n v_statuses v_pile v_wish v_mark y2 y3 y4 = some (rr, kk') → W p l e rX5_odds s m args below meth c H locs 0 0 (MQ below (q_Rl D rr A ((fun k : (Nat → Int32) × (Nat → Int32) × (Nat → Int32) × (Nat → Int32) => (wX5_odds cI cJ cZ cS a_t a_s a_keptS a_statuses a_pile a_tape a_steps a_wish a_mark a_bitsOf a_sizeOf a_number a_moved v_isKept v_taped v_at v_fault v_laid v_open v_s k.1 k.2.1 k.2.2.1 k.2.2.2)) kk')) args s 0 0 A) (F0 m 88 ls []) := by
  intro n
  induction n with
  | zero => intro v_statuses v_pile v_wish v_mark y2 y3 y4 H locs ls h hl hf; exact (ll7_z hf).elim
  | succ n ih => intro v_statuses v_pile v_wish v_mark y2 y3 y4 H locs ls h hl hf; exact LX5_odds_88 fx ih h hl (ll7_s hf)
def fX5_odds_74 (v_s : Nat → Int32) (ag35 : (Nat → Int32) → (Nat → Int32) → (Nat → Int32) → (Nat → Int32) → Int32 → Int32 → Int32 → Int32 → Option (Int64 × (Nat → Int32) × (Nat → Int32) × (Nat → Int32) × (Nat → Int32))) (v_statuses : Nat → Int32) (v_pile : Nat → Int32) (v_wish : Nat → Int32) (v_mark : Nat → Int32) (s0 : Int32) (s1 : Int32) (y1 : Int32) (y2 : Int32) (y4 : Int32) : Option (Int64 × (Nat → Int32) × (Nat → Int32) × (Nat → Int32) × (Nat → Int32)) :=
  nm (s0 + s1) (fun u6 =>
  nm (y4 + 1) (fun u7 =>
  ag35 v_statuses v_pile v_wish v_mark y1 y2 u6 u7))
set_option maxRecDepth 100000 in
set_option maxHeartbeats 4000000 in
theorem LX5_odds_74 {p : Program} {l : Launch} {e : Env} {s : State} {m : MethodId} {args : Array Value} {below : List Frame} {meth : Method} {c : Code} {D : va_G} {cI cJ cZ cS : ClassId} {tb : Nat} {A : Nat → Prop} {a_t a_s a_keptS a_statuses a_pile a_tape a_steps a_wish a_mark a_bitsOf a_sizeOf a_number a_moved : Nat} {v_isKept : Int32} {v_taped : Int32} {v_at : Int32} {v_fault : Int32} {v_laid : Int32} {v_open : Int32} {v_s : Nat → Int32} {rr : Int64} {kk' : (Nat → Int32) × (Nat → Int32) × (Nat → Int32) × (Nat → Int32)} (fx : q_Fx p s m args meth c cX5_odds 5 RX5 (some .long) D cI cJ cZ cS tb A) {ag35 : (Nat → Int32) → (Nat → Int32) → (Nat → Int32) → (Nat → Int32) → Int32 → Int32 → Int32 → Int32 → Option (Int64 × (Nat → Int32) × (Nat → Int32) × (Nat → Int32) × (Nat → Int32))} (hag35 : ∀ {v_statuses : Nat → Int32} {v_pile : Nat → Int32} {v_wish : Nat → Int32} {v_mark : Nat → Int32} {y1 : Int32} {y2 : Int32} {y3 : Int32} {y4 : Int32} {H : Heap} {locs : List Loc} {ls : Array Slot}, q_H D A s (wX5_odds cI cJ cZ cS a_t a_s a_keptS a_statuses a_pile a_tape a_steps a_wish a_mark a_bitsOf a_sizeOf a_number a_moved v_isKept v_taped v_at v_fault v_laid v_open v_s v_statuses v_pile v_wish v_mark) H locs → lv_has ls 5 [(0, .ref a_t), (1, .int y1), (2, .int y2), (3, .int y3), (4, .int y4)] → ag35 v_statuses v_pile v_wish v_mark y1 y2 y3 y4 = some (rr, kk') → W p l e rX5_odds s m args below meth c H locs 0 0 (MQ below (q_Rl D rr A ((fun k : (Nat → Int32) × (Nat → Int32) × (Nat → Int32) × (Nat → Int32) => (wX5_odds cI cJ cZ cS a_t a_s a_keptS a_statuses a_pile a_tape a_steps a_wish a_mark a_bitsOf a_sizeOf a_number a_moved v_isKept v_taped v_at v_fault v_laid v_open v_s k.1 k.2.1 k.2.2.1 k.2.2.2)) kk')) args s 0 0 A) (F0 m 35 ls [])) : ∀ {v_statuses : Nat → Int32} {v_pile : Nat → Int32} {v_wish : Nat → Int32} {v_mark : Nat → Int32} {s0 : Int32} {s1 : Int32} {y1 : Int32} {y2 : Int32} {y4 : Int32} {H : Heap} {locs : List Loc} {ls : Array Slot}, q_H D A s (wX5_odds cI cJ cZ cS a_t a_s a_keptS a_statuses a_pile a_tape a_steps a_wish a_mark a_bitsOf a_sizeOf a_number a_moved v_isKept v_taped v_at v_fault v_laid v_open v_s v_statuses v_pile v_wish v_mark) H locs → lv_has ls 5 [(0, .ref a_t), (1, .int y1), (2, .int y2), (4, .int y4)] → fX5_odds_74 v_s ag35 v_statuses v_pile v_wish v_mark s0 s1 y1 y2 y4 = some (rr, kk') → W p l e rX5_odds s m args below meth c H locs 0 0 (MQ below (q_Rl D rr A ((fun k : (Nat → Int32) × (Nat → Int32) × (Nat → Int32) × (Nat → Int32) => (wX5_odds cI cJ cZ cS a_t a_s a_keptS a_statuses a_pile a_tape a_steps a_wish a_mark a_bitsOf a_sizeOf a_number a_moved v_isKept v_taped v_at v_fault v_laid v_open v_s k.1 k.2.1 k.2.2.1 k.2.2.2)) kk')) args s 0 0 A) (F0 m 74 ls [.int s1, .int s0]) := by
  intro v_statuses v_pile v_wish v_mark s0 s1 y1 y2 y4 H locs ls h hl hf
  have hx := fx.1
  have hb := fx.2.1
  unfold fX5_odds_74 at hf
  refine lv_iadd hx hb dX5_odds_74 ?_
  obtain ⟨u6, eu6, hf⟩ := nm_inv hf
  refine lv_eqi eu6 ?_
  refine lv_istore_n (lv' := [(3, .int u6), (0, .ref a_t), (1, .int y1), (2, .int y2), (4, .int y4)]) hx hb dX5_odds_75 rfl hl (by decide) rfl (fun ls hl => ?_)
  obtain ⟨u7, eu7, hf⟩ := nm_inv hf
  refine lv_iinc (v := u7) (lv' := [(4, .int u7), (3, .int u6), (0, .ref a_t), (1, .int y1), (2, .int y2)]) hx hb dX5_odds_76 hl (k := 4) rfl (by rw [eu7]; rfl) (by decide) rfl (fun ls hl => ?_)
  refine lv_goto (tgt := 35) hx hb dX5_odds_79 (by decide) ?_
  exact hag35 h (lv_sub hl [2, 3, 4, 1, 0] rfl) hf
def fX5_odds_73 (v_s : Nat → Int32) (ag35 : (Nat → Int32) → (Nat → Int32) → (Nat → Int32) → (Nat → Int32) → Int32 → Int32 → Int32 → Int32 → Option (Int64 × (Nat → Int32) × (Nat → Int32) × (Nat → Int32) × (Nat → Int32))) (v_statuses : Nat → Int32) (v_pile : Nat → Int32) (v_wish : Nat → Int32) (v_mark : Nat → Int32) (s0 : Int32) (y1 : Int32) (y2 : Int32) (y4 : Int32) : Option (Int64 × (Nat → Int32) × (Nat → Int32) × (Nat → Int32) × (Nat → Int32)) :=
  fX5_odds_74 v_s ag35 v_statuses v_pile v_wish v_mark s0 0 y1 y2 y4
set_option maxRecDepth 100000 in
set_option maxHeartbeats 4000000 in
theorem LX5_odds_73 {p : Program} {l : Launch} {e : Env} {s : State} {m : MethodId} {args : Array Value} {below : List Frame} {meth : Method} {c : Code} {D : va_G} {cI cJ cZ cS : ClassId} {tb : Nat} {A : Nat → Prop} {a_t a_s a_keptS a_statuses a_pile a_tape a_steps a_wish a_mark a_bitsOf a_sizeOf a_number a_moved : Nat} {v_isKept : Int32} {v_taped : Int32} {v_at : Int32} {v_fault : Int32} {v_laid : Int32} {v_open : Int32} {v_s : Nat → Int32} {rr : Int64} {kk' : (Nat → Int32) × (Nat → Int32) × (Nat → Int32) × (Nat → Int32)} (fx : q_Fx p s m args meth c cX5_odds 5 RX5 (some .long) D cI cJ cZ cS tb A) {ag35 : (Nat → Int32) → (Nat → Int32) → (Nat → Int32) → (Nat → Int32) → Int32 → Int32 → Int32 → Int32 → Option (Int64 × (Nat → Int32) × (Nat → Int32) × (Nat → Int32) × (Nat → Int32))} (hag35 : ∀ {v_statuses : Nat → Int32} {v_pile : Nat → Int32} {v_wish : Nat → Int32} {v_mark : Nat → Int32} {y1 : Int32} {y2 : Int32} {y3 : Int32} {y4 : Int32} {H : Heap} {locs : List Loc} {ls : Array Slot}, q_H D A s (wX5_odds cI cJ cZ cS a_t a_s a_keptS a_statuses a_pile a_tape a_steps a_wish a_mark a_bitsOf a_sizeOf a_number a_moved v_isKept v_taped v_at v_fault v_laid v_open v_s v_statuses v_pile v_wish v_mark) H locs → lv_has ls 5 [(0, .ref a_t), (1, .int y1), (2, .int y2), (3, .int y3), (4, .int y4)] → ag35 v_statuses v_pile v_wish v_mark y1 y2 y3 y4 = some (rr, kk') → W p l e rX5_odds s m args below meth c H locs 0 0 (MQ below (q_Rl D rr A ((fun k : (Nat → Int32) × (Nat → Int32) × (Nat → Int32) × (Nat → Int32) => (wX5_odds cI cJ cZ cS a_t a_s a_keptS a_statuses a_pile a_tape a_steps a_wish a_mark a_bitsOf a_sizeOf a_number a_moved v_isKept v_taped v_at v_fault v_laid v_open v_s k.1 k.2.1 k.2.2.1 k.2.2.2)) kk')) args s 0 0 A) (F0 m 35 ls [])) : ∀ {v_statuses : Nat → Int32} {v_pile : Nat → Int32} {v_wish : Nat → Int32} {v_mark : Nat → Int32} {s0 : Int32} {y1 : Int32} {y2 : Int32} {y4 : Int32} {H : Heap} {locs : List Loc} {ls : Array Slot}, q_H D A s (wX5_odds cI cJ cZ cS a_t a_s a_keptS a_statuses a_pile a_tape a_steps a_wish a_mark a_bitsOf a_sizeOf a_number a_moved v_isKept v_taped v_at v_fault v_laid v_open v_s v_statuses v_pile v_wish v_mark) H locs → lv_has ls 5 [(0, .ref a_t), (1, .int y1), (2, .int y2), (4, .int y4)] → fX5_odds_73 v_s ag35 v_statuses v_pile v_wish v_mark s0 y1 y2 y4 = some (rr, kk') → W p l e rX5_odds s m args below meth c H locs 0 0 (MQ below (q_Rl D rr A ((fun k : (Nat → Int32) × (Nat → Int32) × (Nat → Int32) × (Nat → Int32) => (wX5_odds cI cJ cZ cS a_t a_s a_keptS a_statuses a_pile a_tape a_steps a_wish a_mark a_bitsOf a_sizeOf a_number a_moved v_isKept v_taped v_at v_fault v_laid v_open v_s k.1 k.2.1 k.2.2.1 k.2.2.2)) kk')) args s 0 0 A) (F0 m 73 ls [.int s0]) := by
  intro v_statuses v_pile v_wish v_mark s0 y1 y2 y4 H locs ls h hl hf
  have hx := fx.1
  have hb := fx.2.1
  unfold fX5_odds_73 at hf
  refine lv_iconst (v := 0) hx hb dX5_odds_73 (by decide) ?_
  exact LX5_odds_74 fx hag35 h (lv_sub hl [0, 1, 2, 3] rfl) hf
def fX5_odds_35 (v_s : Nat → Int32) (ag35 : (Nat → Int32) → (Nat → Int32) → (Nat → Int32) → (Nat → Int32) → Int32 → Int32 → Int32 → Int32 → Option (Int64 × (Nat → Int32) × (Nat → Int32) × (Nat → Int32) × (Nat → Int32))) (v_statuses : Nat → Int32) (v_pile : Nat → Int32) (v_wish : Nat → Int32) (v_mark : Nat → Int32) (y1 : Int32) (y2 : Int32) (y3 : Int32) (y4 : Int32) : Option (Int64 × (Nat → Int32) × (Nat → Int32) × (Nat → Int32) × (Nat → Int32)) :=
  bR (fX5_lists v_s) (fun r8 k8 =>
  (if r8 ≤ y4 then (
  bR (fX5_lists v_s) (fun r10 k10 =>
  ll7 (fX5_odds_88 v_s) qF v_statuses v_pile v_wish v_mark y2 y3 r10))
  else (
  gIn y4 256 (
  (if (v_mark y4.toNatClampNeg) < 0 then (
  fX5_odds_73 v_s ag35 v_statuses v_pile v_wish v_mark y3 y1 y2 y4)
  else (
  gIn y4 256 (
  bR (fX5_has (v_mark y4.toNatClampNeg) y1) (fun r14 k14 =>
  (if r14 = 0 then (
  fX5_odds_73 v_s ag35 v_statuses v_pile v_wish v_mark y3 y1 y2 y4)
  else (
  fX5_odds_74 v_s ag35 v_statuses v_pile v_wish v_mark y3 1 y1 y2 y4))))))))))
set_option maxRecDepth 100000 in
set_option maxHeartbeats 4000000 in
theorem LX5_odds_35 {p : Program} {l : Launch} {e : Env} {s : State} {m : MethodId} {args : Array Value} {below : List Frame} {meth : Method} {c : Code} {D : va_G} {cI cJ cZ cS : ClassId} {tb : Nat} {A : Nat → Prop} {a_t a_s a_keptS a_statuses a_pile a_tape a_steps a_wish a_mark a_bitsOf a_sizeOf a_number a_moved : Nat} {v_isKept : Int32} {v_taped : Int32} {v_at : Int32} {v_fault : Int32} {v_laid : Int32} {v_open : Int32} {v_s : Nat → Int32} {rr : Int64} {kk' : (Nat → Int32) × (Nat → Int32) × (Nat → Int32) × (Nat → Int32)} (fx : q_Fx p s m args meth c cX5_odds 5 RX5 (some .long) D cI cJ cZ cS tb A) {ag35 : (Nat → Int32) → (Nat → Int32) → (Nat → Int32) → (Nat → Int32) → Int32 → Int32 → Int32 → Int32 → Option (Int64 × (Nat → Int32) × (Nat → Int32) × (Nat → Int32) × (Nat → Int32))} (hag35 : ∀ {v_statuses : Nat → Int32} {v_pile : Nat → Int32} {v_wish : Nat → Int32} {v_mark : Nat → Int32} {y1 : Int32} {y2 : Int32} {y3 : Int32} {y4 : Int32} {H : Heap} {locs : List Loc} {ls : Array Slot}, q_H D A s (wX5_odds cI cJ cZ cS a_t a_s a_keptS a_statuses a_pile a_tape a_steps a_wish a_mark a_bitsOf a_sizeOf a_number a_moved v_isKept v_taped v_at v_fault v_laid v_open v_s v_statuses v_pile v_wish v_mark) H locs → lv_has ls 5 [(0, .ref a_t), (1, .int y1), (2, .int y2), (3, .int y3), (4, .int y4)] → ag35 v_statuses v_pile v_wish v_mark y1 y2 y3 y4 = some (rr, kk') → W p l e rX5_odds s m args below meth c H locs 0 0 (MQ below (q_Rl D rr A ((fun k : (Nat → Int32) × (Nat → Int32) × (Nat → Int32) × (Nat → Int32) => (wX5_odds cI cJ cZ cS a_t a_s a_keptS a_statuses a_pile a_tape a_steps a_wish a_mark a_bitsOf a_sizeOf a_number a_moved v_isKept v_taped v_at v_fault v_laid v_open v_s k.1 k.2.1 k.2.2.1 k.2.2.2)) kk')) args s 0 0 A) (F0 m 35 ls [])) : ∀ {v_statuses : Nat → Int32} {v_pile : Nat → Int32} {v_wish : Nat → Int32} {v_mark : Nat → Int32} {y1 : Int32} {y2 : Int32} {y3 : Int32} {y4 : Int32} {H : Heap} {locs : List Loc} {ls : Array Slot}, q_H D A s (wX5_odds cI cJ cZ cS a_t a_s a_keptS a_statuses a_pile a_tape a_steps a_wish a_mark a_bitsOf a_sizeOf a_number a_moved v_isKept v_taped v_at v_fault v_laid v_open v_s v_statuses v_pile v_wish v_mark) H locs → lv_has ls 5 [(0, .ref a_t), (1, .int y1), (2, .int y2), (3, .int y3), (4, .int y4)] → fX5_odds_35 v_s ag35 v_statuses v_pile v_wish v_mark y1 y2 y3 y4 = some (rr, kk') → W p l e rX5_odds s m args below meth c H locs 0 0 (MQ below (q_Rl D rr A ((fun k : (Nat → Int32) × (Nat → Int32) × (Nat → Int32) × (Nat → Int32) => (wX5_odds cI cJ cZ cS a_t a_s a_keptS a_statuses a_pile a_tape a_steps a_wish a_mark a_bitsOf a_sizeOf a_number a_moved v_isKept v_taped v_at v_fault v_laid v_open v_s k.1 k.2.1 k.2.2.1 k.2.2.2)) kk')) args s 0 0 A) (F0 m 35 ls []) := by
  intro v_statuses v_pile v_wish v_mark y1 y2 y3 y4 H locs ls h hl hf
  have hx := fx.1
  have hb := fx.2.1
  unfold fX5_odds_35 at hf
  refine lv_iload hx hb dX5_odds_35 (lv_at hl 4 rfl) ?_
  refine lv_aload_n hx hb dX5_odds_37 rfl (lv_at hl 0 rfl) ?_
  obtain ⟨r8, k8, hg, hf⟩ := bR_inv hf
  refine q_ci (rest := [.int y4]) (ws' := (wX5_odds cI cJ cZ cS a_t a_s a_keptS a_statuses a_pile a_tape a_steps a_wish a_mark a_bitsOf a_sizeOf a_number a_moved v_isKept v_taped v_at v_fault v_laid v_open v_s v_statuses v_pile v_wish v_mark)) (w1 := (wX5_lists cI cJ cZ cS a_t a_s a_keptS a_statuses a_pile a_tape a_steps a_wish a_mark a_bitsOf a_sizeOf a_number a_moved v_isKept v_taped v_at v_fault v_laid v_open v_s)) fx h [0, 1] rfl rfl rfl rfl (q_runV fx h hl.1 [0, 1] rfl rfl (tX5_lists l D cI cJ cZ cS tb a_t a_s a_keptS a_statuses a_pile a_tape a_steps a_wish a_mark a_bitsOf a_sizeOf a_number a_moved H.size v_isKept v_taped v_at v_fault v_laid v_open v_s r8 k8 hg) mvX5_lists k_810 ⟨rfl, rfl⟩ ⟨Nat.le_of_ble_eq_true rfl, Nat.le_of_ble_eq_true rfl⟩ rfl rfl rfl rfl (Nat.le_of_ble_eq_true rfl) dX5_odds_38 ⟨Nat.le_of_ble_eq_true rfl, Nat.le_of_ble_eq_true rfl⟩) (fun H locs h => ?_)
  refine lv_icmp_ge (tgt := 82) hx hb dX5_odds_41 (by decide) (fun c9 => ?_) (fun c9 => ?_)
  · have hf := it_t c9 hf
    refine lv_aload_n hx hb dX5_odds_82 rfl (lv_at hl 0 rfl) ?_
    obtain ⟨r10, k10, hg, hf⟩ := bR_inv hf
    refine q_ci (rest := []) (ws' := (wX5_odds cI cJ cZ cS a_t a_s a_keptS a_statuses a_pile a_tape a_steps a_wish a_mark a_bitsOf a_sizeOf a_number a_moved v_isKept v_taped v_at v_fault v_laid v_open v_s v_statuses v_pile v_wish v_mark)) (w1 := (wX5_lists cI cJ cZ cS a_t a_s a_keptS a_statuses a_pile a_tape a_steps a_wish a_mark a_bitsOf a_sizeOf a_number a_moved v_isKept v_taped v_at v_fault v_laid v_open v_s)) fx h [0, 1] rfl rfl rfl rfl (q_runV fx h hl.1 [0, 1] rfl rfl (tX5_lists l D cI cJ cZ cS tb a_t a_s a_keptS a_statuses a_pile a_tape a_steps a_wish a_mark a_bitsOf a_sizeOf a_number a_moved H.size v_isKept v_taped v_at v_fault v_laid v_open v_s r10 k10 hg) mvX5_lists k_810 ⟨rfl, rfl⟩ ⟨Nat.le_of_ble_eq_true rfl, Nat.le_of_ble_eq_true rfl⟩ rfl rfl rfl rfl (Nat.le_of_ble_eq_true rfl) dX5_odds_83 ⟨Nat.le_of_ble_eq_true rfl, Nat.le_of_ble_eq_true rfl⟩) (fun H locs h => ?_)
    refine lv_istore (lv' := [(4, .int r10), (0, .ref a_t), (1, .int y1), (2, .int y2), (3, .int y3)]) hx hb dX5_odds_86 hl (by decide) rfl (fun ls hl => ?_)
    exact EX5_odds_88 fx qF h (lv_sub hl [3, 4, 0] rfl) hf
  have hf := it_f c9 hf
  refine lv_iload_n hx hb dX5_odds_44 rfl (lv_at hl 3 rfl) ?_
  refine lv_aload_n hx hb dX5_odds_45 rfl (lv_at hl 0 rfl) ?_
  refine q_get (v := .ref a_mark) fx inX5 h 0 rfl rfl 13 (by decide) k_649 rfl dX5_odds_46 ?_
  refine lv_iload hx hb dX5_odds_49 (lv_at hl 4 rfl) ?_
  obtain ⟨i11, hf⟩ := gIn_inv hf
  refine q_iald fx h 5 rfl i11 dX5_odds_51 ?_
  refine lv_if_lt (tgt := 73) hx hb dX5_odds_52 (by decide) (fun c12 => ?_) (fun c12 => ?_)
  · have hf := it_t c12 hf
    exact LX5_odds_73 fx hag35 h (lv_sub hl [0, 1, 2, 4] rfl) hf
  have hf := it_f c12 hf
  refine lv_aload_n hx hb dX5_odds_55 rfl (lv_at hl 0 rfl) ?_
  refine q_get (v := .ref a_mark) fx inX5 h 0 rfl rfl 13 (by decide) k_649 rfl dX5_odds_56 ?_
  refine lv_iload hx hb dX5_odds_59 (lv_at hl 4 rfl) ?_
  obtain ⟨i13, hf⟩ := gIn_inv hf
  refine q_iald fx h 5 rfl i13 dX5_odds_61 ?_
  refine lv_iload_n hx hb dX5_odds_62 rfl (lv_at hl 1 rfl) ?_
  obtain ⟨r14, k14, hg, hf⟩ := bR_inv hf
  refine q_ci (rest := [.int y3]) (ws' := (wX5_odds cI cJ cZ cS a_t a_s a_keptS a_statuses a_pile a_tape a_steps a_wish a_mark a_bitsOf a_sizeOf a_number a_moved v_isKept v_taped v_at v_fault v_laid v_open v_s v_statuses v_pile v_wish v_mark)) (w1 := (wX5_has cI cJ cZ cS)) fx h [] rfl rfl rfl rfl (q_runS fx h hl.1 [] rfl rfl (tX5_has l D cI cJ cZ cS tb H.size (v_mark y4.toNatClampNeg) y1 r14 k14 hg) msX5_has k_733 ⟨rfl, rfl⟩ ⟨Nat.le_of_ble_eq_true rfl, Nat.le_of_ble_eq_true rfl⟩ rfl rfl (Nat.le_of_ble_eq_true rfl) dX5_odds_63 ⟨Nat.le_of_ble_eq_true rfl, Nat.le_of_ble_eq_true rfl⟩) (fun H locs h => ?_)
  refine lv_if_eq (tgt := 73) hx hb dX5_odds_66 (by decide) (fun c15 => ?_) (fun c15 => ?_)
  · have hf := it_t c15 hf
    exact LX5_odds_73 fx hag35 h (lv_sub hl [0, 1, 2, 4] rfl) hf
  have hf := it_f c15 hf
  refine lv_iconst (v := 1) hx hb dX5_odds_69 (by decide) ?_
  refine lv_goto (tgt := 74) hx hb dX5_odds_70 (by decide) ?_
  exact LX5_odds_74 fx hag35 h (lv_sub hl [0, 1, 2, 4] rfl) hf
set_option maxRecDepth 100000 in
theorem EX5_odds_35 {p : Program} {l : Launch} {e : Env} {s : State} {m : MethodId} {args : Array Value} {below : List Frame} {meth : Method} {c : Code} {D : va_G} {cI cJ cZ cS : ClassId} {tb : Nat} {A : Nat → Prop} {a_t a_s a_keptS a_statuses a_pile a_tape a_steps a_wish a_mark a_bitsOf a_sizeOf a_number a_moved : Nat} {v_isKept : Int32} {v_taped : Int32} {v_at : Int32} {v_fault : Int32} {v_laid : Int32} {v_open : Int32} {v_s : Nat → Int32} {rr : Int64} {kk' : (Nat → Int32) × (Nat → Int32) × (Nat → Int32) × (Nat → Int32)} (fx : q_Fx p s m args meth c cX5_odds 5 RX5 (some .long) D cI cJ cZ cS tb A) : ∀ (n : Nat), ∀ {v_statuses : Nat → Int32} {v_pile : Nat → Int32} {v_wish : Nat → Int32} {v_mark : Nat → Int32} {y1 : Int32} {y2 : Int32} {y3 : Int32} {y4 : Int32} {H : Heap} {locs : List Loc} {ls : Array Slot}, q_H D A s (wX5_odds cI cJ cZ cS a_t a_s a_keptS a_statuses a_pile a_tape a_steps a_wish a_mark a_bitsOf a_sizeOf a_number a_moved v_isKept v_taped v_at v_fault v_laid v_open v_s v_statuses v_pile v_wish v_mark) H locs → lv_has ls 5 [(0, .ref a_t), (1, .int y1), (2, .int y2), (3, .int y3), (4, .int y4)] → ll8 (fX5_odds_35 v_s) n v_statuses v_pile v_wish v_mark y1 y2 y3 y4 = some (rr, kk') → W p l e rX5_odds s m args below meth c H locs 0 0 (MQ below (q_Rl D rr A ((fun k : (Nat → Int32) × (Nat → Int32) × (Nat → Int32) × (Nat → Int32) => (wX5_odds cI cJ cZ cS a_t a_s a_keptS a_statuses a_pile a_tape a_steps a_wish a_mark a_bitsOf a_sizeOf a_number a_moved v_isKept v_taped v_at v_fault v_laid v_open v_s k.1 k.2.1 k.2.2.1 k.2.2.2)) kk')) args s 0 0 A) (F0 m 35 ls []) := by
  intro n
  induction n with
  | zero => intro v_statuses v_pile v_wish v_mark y1 y2 y3 y4 H locs ls h hl hf; exact (ll8_z hf).elim
  | succ n ih => intro v_statuses v_pile v_wish v_mark y1 y2 y3 y4 H locs ls h hl hf; exact LX5_odds_35 fx ih h hl (ll8_s hf)
def fX5_odds_18 (v_s : Nat → Int32) (v_statuses : Nat → Int32) (v_pile : Nat → Int32) (v_wish : Nat → Int32) (v_mark : Nat → Int32) : Option (Int64 × (Nat → Int32) × (Nat → Int32) × (Nat → Int32) × (Nat → Int32)) :=
  bR (fX5_finds v_statuses (-1000000001)) (fun r16 k16 =>
  some (r16.toInt64, (k16, v_pile, v_wish, v_mark)))
set_option maxRecDepth 100000 in
set_option maxHeartbeats 4000000 in
theorem LX5_odds_18 {p : Program} {l : Launch} {e : Env} {s : State} {m : MethodId} {args : Array Value} {below : List Frame} {meth : Method} {c : Code} {D : va_G} {cI cJ cZ cS : ClassId} {tb : Nat} {A : Nat → Prop} {a_t a_s a_keptS a_statuses a_pile a_tape a_steps a_wish a_mark a_bitsOf a_sizeOf a_number a_moved : Nat} {v_isKept : Int32} {v_taped : Int32} {v_at : Int32} {v_fault : Int32} {v_laid : Int32} {v_open : Int32} {v_s : Nat → Int32} {rr : Int64} {kk' : (Nat → Int32) × (Nat → Int32) × (Nat → Int32) × (Nat → Int32)} (fx : q_Fx p s m args meth c cX5_odds 5 RX5 (some .long) D cI cJ cZ cS tb A) : ∀ {v_statuses : Nat → Int32} {v_pile : Nat → Int32} {v_wish : Nat → Int32} {v_mark : Nat → Int32} {H : Heap} {locs : List Loc} {ls : Array Slot}, q_H D A s (wX5_odds cI cJ cZ cS a_t a_s a_keptS a_statuses a_pile a_tape a_steps a_wish a_mark a_bitsOf a_sizeOf a_number a_moved v_isKept v_taped v_at v_fault v_laid v_open v_s v_statuses v_pile v_wish v_mark) H locs → lv_has ls 5 [(0, .ref a_t)] → fX5_odds_18 v_s v_statuses v_pile v_wish v_mark = some (rr, kk') → W p l e rX5_odds s m args below meth c H locs 0 0 (MQ below (q_Rl D rr A ((fun k : (Nat → Int32) × (Nat → Int32) × (Nat → Int32) × (Nat → Int32) => (wX5_odds cI cJ cZ cS a_t a_s a_keptS a_statuses a_pile a_tape a_steps a_wish a_mark a_bitsOf a_sizeOf a_number a_moved v_isKept v_taped v_at v_fault v_laid v_open v_s k.1 k.2.1 k.2.2.1 k.2.2.2)) kk')) args s 0 0 A) (F0 m 18 ls []) := by
  intro v_statuses v_pile v_wish v_mark H locs ls h hl hf
  have hx := fx.1
  have hb := fx.2.1
  unfold fX5_odds_18 at hf
  refine lv_aload_n hx hb dX5_odds_18 rfl (lv_at hl 0 rfl) ?_
  refine q_ldc fx k_701 dX5_odds_19 ?_
  obtain ⟨r16, k16, hg, hf⟩ := bR_inv hf
  refine q_ci (rest := []) (ws' := (wX5_odds cI cJ cZ cS a_t a_s a_keptS a_statuses a_pile a_tape a_steps a_wish a_mark a_bitsOf a_sizeOf a_number a_moved v_isKept v_taped v_at v_fault v_laid v_open v_s k16 v_pile v_wish v_mark)) (w1 := (wX5_finds cI cJ cZ cS a_t a_s a_keptS a_statuses a_pile a_tape a_steps a_wish a_mark a_bitsOf a_sizeOf a_number a_moved v_isKept v_taped v_at v_fault v_laid v_open k16)) fx h [0, 2] rfl rfl rfl rfl (q_runV fx h hl.1 [0, 2] rfl rfl (tX5_finds l D cI cJ cZ cS tb a_t a_s a_keptS a_statuses a_pile a_tape a_steps a_wish a_mark a_bitsOf a_sizeOf a_number a_moved H.size v_isKept v_taped v_at v_fault v_laid v_open v_statuses (-1000000001) r16 k16 hg) mvX5_finds k_702 ⟨rfl, rfl⟩ ⟨Nat.le_of_ble_eq_true rfl, Nat.le_of_ble_eq_true rfl⟩ rfl rfl rfl rfl (Nat.le_of_ble_eq_true rfl) dX5_odds_21 ⟨Nat.le_of_ble_eq_true rfl, Nat.le_of_ble_eq_true rfl⟩) (fun H locs h => ?_)
  refine lv_i2l hx hb dX5_odds_24 rfl ?_
  exact q_retl (fun k : (Nat → Int32) × (Nat → Int32) × (Nat → Int32) × (Nat → Int32) => (wX5_odds cI cJ cZ cS a_t a_s a_keptS a_statuses a_pile a_tape a_steps a_wish a_mark a_bitsOf a_sizeOf a_number a_moved v_isKept v_taped v_at v_fault v_laid v_open v_s k.1 k.2.1 k.2.2.1 k.2.2.2)) fx hf h dX5_odds_25
def fX5_odds (v_s : Nat → Int32) (v_statuses : Nat → Int32) (v_pile : Nat → Int32) (v_wish : Nat → Int32) (v_mark : Nat → Int32) (x1 : Int32) (x2 : Int32) : Option (Int64 × (Nat → Int32) × (Nat → Int32) × (Nat → Int32) × (Nat → Int32)) :=
  bR (fX5_isGuest v_s x1) (fun r17 k17 =>
  (if r17 = 0 then (
  fX5_odds_18 v_s v_statuses v_pile v_wish v_mark)
  else (
  bR (fX5_in (x2.toInt64) 0 1) (fun r19 k19 =>
  (if r19 = 0 then (
  fX5_odds_18 v_s v_statuses v_pile v_wish v_mark)
  else (
  bV (fX5_looksWhere v_s v_pile v_wish v_mark) (fun k21 =>
  ll8 (fX5_odds_35 v_s) qF v_statuses k21.1 k21.2.1 k21.2.2 x1 x2 0 0)))))))
set_option maxRecDepth 100000 in
set_option maxHeartbeats 4000000 in
theorem tX5_odds (l : Launch) (D : va_G) (cI cJ cZ cS : ClassId) (tb : Nat) (a_t a_s a_keptS a_statuses a_pile a_tape a_steps a_wish a_mark a_bitsOf a_sizeOf a_number a_moved : Nat) (sz : Nat) (v_isKept : Int32) (v_taped : Int32) (v_at : Int32) (v_fault : Int32) (v_laid : Int32) (v_open : Int32) (v_s : Nat → Int32) (v_statuses : Nat → Int32) (v_pile : Nat → Int32) (v_wish : Nat → Int32) (v_mark : Nat → Int32) (x1 : Int32) (x2 : Int32) (rr : Int64) (kk' : (Nat → Int32) × (Nat → Int32) × (Nat → Int32) × (Nat → Int32)) (hf : fX5_odds v_s v_statuses v_pile v_wish v_mark x1 x2 = some (rr, kk')) : Met l yX5_odds (Cond.code yX5_odds cX5_odds 5 (some .long) :: wA) rX5_odds (q_Pre D cI cJ cZ cS tb [.ref a_t, .int x1, .int x2] sz (wX5_odds cI cJ cZ cS a_t a_s a_keptS a_statuses a_pile a_tape a_steps a_wish a_mark a_bitsOf a_sizeOf a_number a_moved v_isKept v_taped v_at v_fault v_laid v_open v_s v_statuses v_pile v_wish v_mark)) (q_Rl D rr (va_A (wX5_odds cI cJ cZ cS a_t a_s a_keptS a_statuses a_pile a_tape a_steps a_wish a_mark a_bitsOf a_sizeOf a_number a_moved v_isKept v_taped v_at v_fault v_laid v_open v_s v_statuses v_pile v_wish v_mark) sz) ((fun k : (Nat → Int32) × (Nat → Int32) × (Nat → Int32) × (Nat → Int32) => (wX5_odds cI cJ cZ cS a_t a_s a_keptS a_statuses a_pile a_tape a_steps a_wish a_mark a_bitsOf a_sizeOf a_number a_moved v_isKept v_taped v_at v_fault v_laid v_open v_s k.1 k.2.1 k.2.2.1 k.2.2.2)) kk')) 0 0 (va_A (wX5_odds cI cJ cZ cS a_t a_s a_keptS a_statuses a_pile a_tape a_steps a_wish a_mark a_bitsOf a_sizeOf a_number a_moved v_isKept v_taped v_at v_fault v_laid v_open v_s v_statuses v_pile v_wish v_mark) sz) := by
  refine q_enter (Qf := fun A => (q_Rl D rr A ((fun k : (Nat → Int32) × (Nat → Int32) × (Nat → Int32) × (Nat → Int32) => (wX5_odds cI cJ cZ cS a_t a_s a_keptS a_statuses a_pile a_tape a_steps a_wish a_mark a_bitsOf a_sizeOf a_number a_moved v_isKept v_taped v_at v_fault v_laid v_open v_s k.1 k.2.1 k.2.2.1 k.2.2.2)) kk'))) (by decide) rfl (Nat.le_of_ble_eq_true rfl) ?_
  intro p e s m below meth c A ls fx hname h hl
  have hx := fx.1
  have hb := fx.2.1
  have hl : lv_has ls 5 [(0, .ref a_t), (1, .int x1), (2, .int x2)] := hl
  generalize h9 : s.heap = H at h ⊢
  clear h9
  generalize h9 : ([] : List Loc) = locs at h ⊢
  clear h9
  unfold fX5_odds at hf
  refine lv_aload_n hx hb dX5_odds_0 rfl (lv_at hl 0 rfl) ?_
  refine lv_iload_n hx hb dX5_odds_1 rfl (lv_at hl 1 rfl) ?_
  obtain ⟨r17, k17, hg, hf⟩ := bR_inv hf
  refine q_ci (rest := []) (ws' := (wX5_odds cI cJ cZ cS a_t a_s a_keptS a_statuses a_pile a_tape a_steps a_wish a_mark a_bitsOf a_sizeOf a_number a_moved v_isKept v_taped v_at v_fault v_laid v_open v_s v_statuses v_pile v_wish v_mark)) (w1 := (wX5_isGuest cI cJ cZ cS a_t a_s a_keptS a_statuses a_pile a_tape a_steps a_wish a_mark a_bitsOf a_sizeOf a_number a_moved v_isKept v_taped v_at v_fault v_laid v_open v_s)) fx h [0, 1] rfl rfl rfl rfl (q_runV fx h hl.1 [0, 1] rfl rfl (tX5_isGuest l D cI cJ cZ cS tb a_t a_s a_keptS a_statuses a_pile a_tape a_steps a_wish a_mark a_bitsOf a_sizeOf a_number a_moved H.size v_isKept v_taped v_at v_fault v_laid v_open v_s x1 r17 k17 hg) mvX5_isGuest k_711 ⟨rfl, rfl⟩ ⟨Nat.le_of_ble_eq_true rfl, Nat.le_of_ble_eq_true rfl⟩ rfl rfl rfl rfl (Nat.le_of_ble_eq_true rfl) dX5_odds_2 ⟨Nat.le_of_ble_eq_true rfl, Nat.le_of_ble_eq_true rfl⟩) (fun H locs h => ?_)
  refine lv_if_eq (tgt := 18) hx hb dX5_odds_5 (by decide) (fun c18 => ?_) (fun c18 => ?_)
  · have hf := it_t c18 hf
    exact LX5_odds_18 fx h (lv_sub hl [0] rfl) hf
  have hf := it_f c18 hf
  refine lv_iload_n hx hb dX5_odds_8 rfl (lv_at hl 2 rfl) ?_
  refine lv_i2l hx hb dX5_odds_9 rfl ?_
  refine lv_lconst (v := 0) hx hb dX5_odds_10 (by decide) ?_
  refine lv_lconst (v := 1) hx hb dX5_odds_11 (by decide) ?_
  obtain ⟨r19, k19, hg, hf⟩ := bR_inv hf
  refine q_ci (rest := []) (ws' := (wX5_odds cI cJ cZ cS a_t a_s a_keptS a_statuses a_pile a_tape a_steps a_wish a_mark a_bitsOf a_sizeOf a_number a_moved v_isKept v_taped v_at v_fault v_laid v_open v_s v_statuses v_pile v_wish v_mark)) (w1 := (wX5_in cI cJ cZ cS)) fx h [] rfl rfl rfl rfl (q_runS fx h hl.1 [] rfl rfl (tX5_in l D cI cJ cZ cS tb H.size (x2.toInt64) 0 1 r19 k19 hg) msX5_in k_697 ⟨rfl, rfl⟩ ⟨Nat.le_of_ble_eq_true rfl, Nat.le_of_ble_eq_true rfl⟩ rfl rfl (Nat.le_of_ble_eq_true rfl) dX5_odds_12 ⟨Nat.le_of_ble_eq_true rfl, Nat.le_of_ble_eq_true rfl⟩) (fun H locs h => ?_)
  refine lv_if_ne (tgt := 26) hx hb dX5_odds_15 (by decide) (fun c20 => ?_) (fun c20 => ?_)
  · have hf := it_f c20 hf
    refine lv_aload_n hx hb dX5_odds_26 rfl (lv_at hl 0 rfl) ?_
    obtain ⟨k21, hg, hf⟩ := bV_inv hf
    refine q_cv (rest := []) (ws' := (wX5_odds cI cJ cZ cS a_t a_s a_keptS a_statuses a_pile a_tape a_steps a_wish a_mark a_bitsOf a_sizeOf a_number a_moved v_isKept v_taped v_at v_fault v_laid v_open v_s v_statuses k21.1 k21.2.1 k21.2.2)) (w1 := (wX5_looksWhere cI cJ cZ cS a_t a_s a_keptS a_statuses a_pile a_tape a_steps a_wish a_mark a_bitsOf a_sizeOf a_number a_moved v_isKept v_taped v_at v_fault v_laid v_open v_s k21.1 k21.2.1 k21.2.2)) fx h [0, 1, 3, 4, 5] rfl rfl rfl rfl (q_runV fx h hl.1 [0, 1, 3, 4, 5] rfl rfl (tX5_looksWhere l D cI cJ cZ cS tb a_t a_s a_keptS a_statuses a_pile a_tape a_steps a_wish a_mark a_bitsOf a_sizeOf a_number a_moved H.size v_isKept v_taped v_at v_fault v_laid v_open v_s v_pile v_wish v_mark k21 hg) mvX5_looksWhere k_906 ⟨rfl, rfl⟩ ⟨Nat.le_of_ble_eq_true rfl, Nat.le_of_ble_eq_true rfl⟩ rfl rfl rfl rfl (Nat.le_of_ble_eq_true rfl) dX5_odds_27 ⟨Nat.le_of_ble_eq_true rfl, Nat.le_of_ble_eq_true rfl⟩) (fun H locs h => ?_)
    refine lv_iconst (v := 0) hx hb dX5_odds_30 (by decide) ?_
    refine lv_istore_n (lv' := [(3, .int 0), (0, .ref a_t), (1, .int x1), (2, .int x2)]) hx hb dX5_odds_31 rfl hl (by decide) rfl (fun ls hl => ?_)
    refine lv_iconst (v := 0) hx hb dX5_odds_32 (by decide) ?_
    refine lv_istore (lv' := [(4, .int 0), (3, .int 0), (0, .ref a_t), (1, .int x1), (2, .int x2)]) hx hb dX5_odds_33 hl (by decide) rfl (fun ls hl => ?_)
    exact EX5_odds_35 fx qF h (lv_sub hl [2, 3, 4, 1, 0] rfl) hf
  have hf := it_t c20 hf
  exact LX5_odds_18 fx h (lv_sub hl [0] rfl) hf
/-! X5_lastOf -/
abbrev wX5_lastOf (cI cJ cZ cS : ClassId) (a_t a_s a_keptS a_statuses a_pile a_tape a_steps a_wish a_mark a_bitsOf a_sizeOf a_number a_moved : Nat) (v_isKept : Int32) (v_taped : Int32) (v_at : Int32) (v_fault : Int32) (v_laid : Int32) (v_open : Int32) (v_wish : Nat → Int32) : va_W := [(a_t, .inr (5, [.ref a_s, .ref a_keptS, .ref a_statuses, .int v_isKept, .ref a_pile, .ref a_tape, .ref a_steps, .int v_taped, .int v_at, .int v_fault, .int v_laid, .int v_open, .ref a_wish, .ref a_mark, .ref a_bitsOf, .ref a_sizeOf, .ref a_number, .ref a_moved])), (a_wish, .inl (cI, 256, .inl v_wish))]
abbrev rX5_lastOf : Room := { frames := 0, cells := 0, slots := 0, locals := 0 }
def fX5_lastOf_5 (v_wish : Nat → Int32) (ag5 : Int32 → Int32 → Int32 → Int32 → Option (Int32 × Unit)) (y1 : Int32) (y2 : Int32) (y3 : Int32) (y4 : Int32) : Option (Int32 × Unit) :=
  (if (64 : Int32) ≤ y4 then (
  some (y3, ()))
  else (
  gIn y3 256 (
  nm (((v_wish y3.toNatClampNeg) &&& y2) ||| y1) (fun u3 =>
  nm (y4 + 1) (fun u4 =>
  ag5 y1 y2 u3 u4)))))
set_option maxRecDepth 100000 in
set_option maxHeartbeats 4000000 in
theorem LX5_lastOf_5 {p : Program} {l : Launch} {e : Env} {s : State} {m : MethodId} {args : Array Value} {below : List Frame} {meth : Method} {c : Code} {D : va_G} {cI cJ cZ cS : ClassId} {tb : Nat} {A : Nat → Prop} {a_t a_s a_keptS a_statuses a_pile a_tape a_steps a_wish a_mark a_bitsOf a_sizeOf a_number a_moved : Nat} {v_isKept : Int32} {v_taped : Int32} {v_at : Int32} {v_fault : Int32} {v_laid : Int32} {v_open : Int32} {v_wish : Nat → Int32} {rr : Int32} {kk' : Unit} (fx : q_Fx p s m args meth c cX5_lastOf 5 RX5 (some .int) D cI cJ cZ cS tb A) {ag5 : Int32 → Int32 → Int32 → Int32 → Option (Int32 × Unit)} (hag5 : ∀ {y1 : Int32} {y2 : Int32} {y3 : Int32} {y4 : Int32} {H : Heap} {locs : List Loc} {ls : Array Slot}, q_H D A s (wX5_lastOf cI cJ cZ cS a_t a_s a_keptS a_statuses a_pile a_tape a_steps a_wish a_mark a_bitsOf a_sizeOf a_number a_moved v_isKept v_taped v_at v_fault v_laid v_open v_wish) H locs → lv_has ls 5 [(0, .ref a_t), (1, .int y1), (2, .int y2), (3, .int y3), (4, .int y4)] → ag5 y1 y2 y3 y4 = some (rr, kk') → W p l e rX5_lastOf s m args below meth c H locs 0 0 (MQ below (q_Ri D rr A ((fun k : Unit => (wX5_lastOf cI cJ cZ cS a_t a_s a_keptS a_statuses a_pile a_tape a_steps a_wish a_mark a_bitsOf a_sizeOf a_number a_moved v_isKept v_taped v_at v_fault v_laid v_open v_wish)) kk')) args s 0 0 A) (F0 m 5 ls [])) : ∀ {y1 : Int32} {y2 : Int32} {y3 : Int32} {y4 : Int32} {H : Heap} {locs : List Loc} {ls : Array Slot}, q_H D A s (wX5_lastOf cI cJ cZ cS a_t a_s a_keptS a_statuses a_pile a_tape a_steps a_wish a_mark a_bitsOf a_sizeOf a_number a_moved v_isKept v_taped v_at v_fault v_laid v_open v_wish) H locs → lv_has ls 5 [(0, .ref a_t), (1, .int y1), (2, .int y2), (3, .int y3), (4, .int y4)] → fX5_lastOf_5 v_wish ag5 y1 y2 y3 y4 = some (rr, kk') → W p l e rX5_lastOf s m args below meth c H locs 0 0 (MQ below (q_Ri D rr A ((fun k : Unit => (wX5_lastOf cI cJ cZ cS a_t a_s a_keptS a_statuses a_pile a_tape a_steps a_wish a_mark a_bitsOf a_sizeOf a_number a_moved v_isKept v_taped v_at v_fault v_laid v_open v_wish)) kk')) args s 0 0 A) (F0 m 5 ls []) := by
  intro y1 y2 y3 y4 H locs ls h hl hf
  have hx := fx.1
  have hb := fx.2.1
  unfold fX5_lastOf_5 at hf
  refine lv_iload hx hb dX5_lastOf_5 (lv_at hl 4 rfl) ?_
  refine lv_bipush (v := 64) hx hb dX5_lastOf_7 (by decide) ?_
  refine lv_icmp_ge (tgt := 29) hx hb dX5_lastOf_9 (by decide) (fun c1 => ?_) (fun c1 => ?_)
  · have hf := it_t c1 hf
    refine lv_iload_n hx hb dX5_lastOf_29 rfl (lv_at hl 3 rfl) ?_
    exact q_reti (fun k : Unit => (wX5_lastOf cI cJ cZ cS a_t a_s a_keptS a_statuses a_pile a_tape a_steps a_wish a_mark a_bitsOf a_sizeOf a_number a_moved v_isKept v_taped v_at v_fault v_laid v_open v_wish)) fx hf h dX5_lastOf_30
  have hf := it_f c1 hf
  refine lv_aload_n hx hb dX5_lastOf_12 rfl (lv_at hl 0 rfl) ?_
  refine q_get (v := .ref a_wish) fx inX5 h 0 rfl rfl 12 (by decide) k_648 rfl dX5_lastOf_13 ?_
  refine lv_iload_n hx hb dX5_lastOf_16 rfl (lv_at hl 3 rfl) ?_
  obtain ⟨i2, hf⟩ := gIn_inv hf
  refine q_iald fx h 1 rfl i2 dX5_lastOf_17 ?_
  refine lv_iload_n hx hb dX5_lastOf_18 rfl (lv_at hl 2 rfl) ?_
  refine lv_iand hx hb dX5_lastOf_19 ?_
  refine lv_iload_n hx hb dX5_lastOf_20 rfl (lv_at hl 1 rfl) ?_
  refine lv_ior hx hb dX5_lastOf_21 ?_
  obtain ⟨u3, eu3, hf⟩ := nm_inv hf
  refine lv_eqi eu3 ?_
  refine lv_istore_n (lv' := [(3, .int u3), (0, .ref a_t), (1, .int y1), (2, .int y2), (4, .int y4)]) hx hb dX5_lastOf_22 rfl hl (by decide) rfl (fun ls hl => ?_)
  obtain ⟨u4, eu4, hf⟩ := nm_inv hf
  refine lv_iinc (v := u4) (lv' := [(4, .int u4), (3, .int u3), (0, .ref a_t), (1, .int y1), (2, .int y2)]) hx hb dX5_lastOf_23 hl (k := 4) rfl (by rw [eu4]; rfl) (by decide) rfl (fun ls hl => ?_)
  refine lv_goto (tgt := 5) hx hb dX5_lastOf_26 (by decide) ?_
  exact hag5 h (lv_sub hl [2, 3, 4, 1, 0] rfl) hf
set_option maxRecDepth 100000 in
theorem EX5_lastOf_5 {p : Program} {l : Launch} {e : Env} {s : State} {m : MethodId} {args : Array Value} {below : List Frame} {meth : Method} {c : Code} {D : va_G} {cI cJ cZ cS : ClassId} {tb : Nat} {A : Nat → Prop} {a_t a_s a_keptS a_statuses a_pile a_tape a_steps a_wish a_mark a_bitsOf a_sizeOf a_number a_moved : Nat} {v_isKept : Int32} {v_taped : Int32} {v_at : Int32} {v_fault : Int32} {v_laid : Int32} {v_open : Int32} {v_wish : Nat → Int32} {rr : Int32} {kk' : Unit} (fx : q_Fx p s m args meth c cX5_lastOf 5 RX5 (some .int) D cI cJ cZ cS tb A) : ∀ (n : Nat), ∀ {y1 : Int32} {y2 : Int32} {y3 : Int32} {y4 : Int32} {H : Heap} {locs : List Loc} {ls : Array Slot}, q_H D A s (wX5_lastOf cI cJ cZ cS a_t a_s a_keptS a_statuses a_pile a_tape a_steps a_wish a_mark a_bitsOf a_sizeOf a_number a_moved v_isKept v_taped v_at v_fault v_laid v_open v_wish) H locs → lv_has ls 5 [(0, .ref a_t), (1, .int y1), (2, .int y2), (3, .int y3), (4, .int y4)] → ll4 (fX5_lastOf_5 v_wish) n y1 y2 y3 y4 = some (rr, kk') → W p l e rX5_lastOf s m args below meth c H locs 0 0 (MQ below (q_Ri D rr A ((fun k : Unit => (wX5_lastOf cI cJ cZ cS a_t a_s a_keptS a_statuses a_pile a_tape a_steps a_wish a_mark a_bitsOf a_sizeOf a_number a_moved v_isKept v_taped v_at v_fault v_laid v_open v_wish)) kk')) args s 0 0 A) (F0 m 5 ls []) := by
  intro n
  induction n with
  | zero => intro y1 y2 y3 y4 H locs ls h hl hf; exact (ll4_z hf).elim
  | succ n ih => intro y1 y2 y3 y4 H locs ls h hl hf; exact LX5_lastOf_5 fx ih h hl (ll4_s hf)
def fX5_lastOf (v_wish : Nat → Int32) (x1 : Int32) (x2 : Int32) : Option (Int32 × Unit) :=
  ll4 (fX5_lastOf_5 v_wish) qF x1 x2 x1 0
set_option maxRecDepth 100000 in
set_option maxHeartbeats 4000000 in
theorem tX5_lastOf (l : Launch) (D : va_G) (cI cJ cZ cS : ClassId) (tb : Nat) (a_t a_s a_keptS a_statuses a_pile a_tape a_steps a_wish a_mark a_bitsOf a_sizeOf a_number a_moved : Nat) (sz : Nat) (v_isKept : Int32) (v_taped : Int32) (v_at : Int32) (v_fault : Int32) (v_laid : Int32) (v_open : Int32) (v_wish : Nat → Int32) (x1 : Int32) (x2 : Int32) (rr : Int32) (kk' : Unit) (hf : fX5_lastOf v_wish x1 x2 = some (rr, kk')) : Met l yX5_lastOf (Cond.code yX5_lastOf cX5_lastOf 5 (some .int) :: wA) rX5_lastOf (q_Pre D cI cJ cZ cS tb [.ref a_t, .int x1, .int x2] sz (wX5_lastOf cI cJ cZ cS a_t a_s a_keptS a_statuses a_pile a_tape a_steps a_wish a_mark a_bitsOf a_sizeOf a_number a_moved v_isKept v_taped v_at v_fault v_laid v_open v_wish)) (q_Ri D rr (va_A (wX5_lastOf cI cJ cZ cS a_t a_s a_keptS a_statuses a_pile a_tape a_steps a_wish a_mark a_bitsOf a_sizeOf a_number a_moved v_isKept v_taped v_at v_fault v_laid v_open v_wish) sz) ((fun k : Unit => (wX5_lastOf cI cJ cZ cS a_t a_s a_keptS a_statuses a_pile a_tape a_steps a_wish a_mark a_bitsOf a_sizeOf a_number a_moved v_isKept v_taped v_at v_fault v_laid v_open v_wish)) kk')) 0 0 (va_A (wX5_lastOf cI cJ cZ cS a_t a_s a_keptS a_statuses a_pile a_tape a_steps a_wish a_mark a_bitsOf a_sizeOf a_number a_moved v_isKept v_taped v_at v_fault v_laid v_open v_wish) sz) := by
  refine q_enter (Qf := fun A => (q_Ri D rr A ((fun k : Unit => (wX5_lastOf cI cJ cZ cS a_t a_s a_keptS a_statuses a_pile a_tape a_steps a_wish a_mark a_bitsOf a_sizeOf a_number a_moved v_isKept v_taped v_at v_fault v_laid v_open v_wish)) kk'))) (by decide) rfl (Nat.le_of_ble_eq_true rfl) ?_
  intro p e s m below meth c A ls fx hname h hl
  have hx := fx.1
  have hb := fx.2.1
  have hl : lv_has ls 5 [(0, .ref a_t), (1, .int x1), (2, .int x2)] := hl
  generalize h9 : s.heap = H at h ⊢
  clear h9
  generalize h9 : ([] : List Loc) = locs at h ⊢
  clear h9
  unfold fX5_lastOf at hf
  refine lv_iload_n hx hb dX5_lastOf_0 rfl (lv_at hl 1 rfl) ?_
  refine lv_istore_n (lv' := [(3, .int x1), (0, .ref a_t), (1, .int x1), (2, .int x2)]) hx hb dX5_lastOf_1 rfl hl (by decide) rfl (fun ls hl => ?_)
  refine lv_iconst (v := 0) hx hb dX5_lastOf_2 (by decide) ?_
  refine lv_istore (lv' := [(4, .int 0), (3, .int x1), (0, .ref a_t), (1, .int x1), (2, .int x2)]) hx hb dX5_lastOf_3 hl (by decide) rfl (fun ls hl => ?_)
  exact EX5_lastOf_5 fx qF h (lv_sub hl [2, 3, 4, 1, 0] rfl) hf
/-! X5_last -/
abbrev wX5_last (cI cJ cZ cS : ClassId) (a_t a_s a_keptS a_statuses a_pile a_tape a_steps a_wish a_mark a_bitsOf a_sizeOf a_number a_moved : Nat) (v_isKept : Int32) (v_taped : Int32) (v_at : Int32) (v_fault : Int32) (v_laid : Int32) (v_open : Int32) (v_s : Nat → Int32) (v_statuses : Nat → Int32) (v_pile : Nat → Int32) (v_wish : Nat → Int32) : va_W := [(a_t, .inr (5, [.ref a_s, .ref a_keptS, .ref a_statuses, .int v_isKept, .ref a_pile, .ref a_tape, .ref a_steps, .int v_taped, .int v_at, .int v_fault, .int v_laid, .int v_open, .ref a_wish, .ref a_mark, .ref a_bitsOf, .ref a_sizeOf, .ref a_number, .ref a_moved])), (a_s, .inl (cI, 538, .inl v_s)), (a_statuses, .inl (cI, 7, .inl v_statuses)), (a_pile, .inl (cZ, 64, .inl v_pile)), (a_wish, .inl (cI, 256, .inl v_wish))]
abbrev rX5_last : Room := { frames := 6, cells := 0, slots := 0, locals := 137 }
def fX5_last (v_s : Nat → Int32) (v_statuses : Nat → Int32) (v_pile : Nat → Int32) (v_wish : Nat → Int32) (x1 : Int32) : Option (Int32 × (Nat → Int32) × (Nat → Int32) × (Nat → Int32)) :=
  bR (fX5_isList v_s (x1.toInt64)) (fun r1 k1 =>
  (if r1 = 0 then (
  bR (fX5_finds v_statuses (-1000000001)) (fun r5 k5 =>
  some (r5, (k5, v_pile, v_wish))))
  else (
  bV (fX5_looksAll v_s v_pile v_wish) (fun k3 =>
  bR (fX5_lastOf k3.2 x1 255) (fun r4 k4 =>
  some (r4, (v_statuses, k3.1, k3.2)))))))
set_option maxRecDepth 100000 in
set_option maxHeartbeats 4000000 in
theorem tX5_last (l : Launch) (D : va_G) (cI cJ cZ cS : ClassId) (tb : Nat) (a_t a_s a_keptS a_statuses a_pile a_tape a_steps a_wish a_mark a_bitsOf a_sizeOf a_number a_moved : Nat) (sz : Nat) (v_isKept : Int32) (v_taped : Int32) (v_at : Int32) (v_fault : Int32) (v_laid : Int32) (v_open : Int32) (v_s : Nat → Int32) (v_statuses : Nat → Int32) (v_pile : Nat → Int32) (v_wish : Nat → Int32) (x1 : Int32) (rr : Int32) (kk' : (Nat → Int32) × (Nat → Int32) × (Nat → Int32)) (hf : fX5_last v_s v_statuses v_pile v_wish x1 = some (rr, kk')) : Met l yX5_last (Cond.code yX5_last cX5_last 2 (some .int) :: wA) rX5_last (q_Pre D cI cJ cZ cS tb [.ref a_t, .int x1] sz (wX5_last cI cJ cZ cS a_t a_s a_keptS a_statuses a_pile a_tape a_steps a_wish a_mark a_bitsOf a_sizeOf a_number a_moved v_isKept v_taped v_at v_fault v_laid v_open v_s v_statuses v_pile v_wish)) (q_Ri D rr (va_A (wX5_last cI cJ cZ cS a_t a_s a_keptS a_statuses a_pile a_tape a_steps a_wish a_mark a_bitsOf a_sizeOf a_number a_moved v_isKept v_taped v_at v_fault v_laid v_open v_s v_statuses v_pile v_wish) sz) ((fun k : (Nat → Int32) × (Nat → Int32) × (Nat → Int32) => (wX5_last cI cJ cZ cS a_t a_s a_keptS a_statuses a_pile a_tape a_steps a_wish a_mark a_bitsOf a_sizeOf a_number a_moved v_isKept v_taped v_at v_fault v_laid v_open v_s k.1 k.2.1 k.2.2)) kk')) 0 0 (va_A (wX5_last cI cJ cZ cS a_t a_s a_keptS a_statuses a_pile a_tape a_steps a_wish a_mark a_bitsOf a_sizeOf a_number a_moved v_isKept v_taped v_at v_fault v_laid v_open v_s v_statuses v_pile v_wish) sz) := by
  refine q_enter (Qf := fun A => (q_Ri D rr A ((fun k : (Nat → Int32) × (Nat → Int32) × (Nat → Int32) => (wX5_last cI cJ cZ cS a_t a_s a_keptS a_statuses a_pile a_tape a_steps a_wish a_mark a_bitsOf a_sizeOf a_number a_moved v_isKept v_taped v_at v_fault v_laid v_open v_s k.1 k.2.1 k.2.2)) kk'))) (by decide) rfl (Nat.le_of_ble_eq_true rfl) ?_
  intro p e s m below meth c A ls fx hname h hl
  have hx := fx.1
  have hb := fx.2.1
  have hl : lv_has ls 2 [(0, .ref a_t), (1, .int x1)] := hl
  generalize h9 : s.heap = H at h ⊢
  clear h9
  generalize h9 : ([] : List Loc) = locs at h ⊢
  clear h9
  unfold fX5_last at hf
  refine lv_aload_n hx hb dX5_last_0 rfl (lv_at hl 0 rfl) ?_
  refine lv_iload_n hx hb dX5_last_1 rfl (lv_at hl 1 rfl) ?_
  refine lv_i2l hx hb dX5_last_2 rfl ?_
  obtain ⟨r1, k1, hg, hf⟩ := bR_inv hf
  refine q_ci (rest := []) (ws' := (wX5_last cI cJ cZ cS a_t a_s a_keptS a_statuses a_pile a_tape a_steps a_wish a_mark a_bitsOf a_sizeOf a_number a_moved v_isKept v_taped v_at v_fault v_laid v_open v_s v_statuses v_pile v_wish)) (w1 := (wX5_isList cI cJ cZ cS a_t a_s a_keptS a_statuses a_pile a_tape a_steps a_wish a_mark a_bitsOf a_sizeOf a_number a_moved v_isKept v_taped v_at v_fault v_laid v_open v_s)) fx h [0, 1] rfl rfl rfl rfl (q_runV fx h hl.1 [0, 1] rfl rfl (tX5_isList l D cI cJ cZ cS tb a_t a_s a_keptS a_statuses a_pile a_tape a_steps a_wish a_mark a_bitsOf a_sizeOf a_number a_moved H.size v_isKept v_taped v_at v_fault v_laid v_open v_s (x1.toInt64) r1 k1 hg) mvX5_isList k_806 ⟨rfl, rfl⟩ ⟨Nat.le_of_ble_eq_true rfl, Nat.le_of_ble_eq_true rfl⟩ rfl rfl rfl rfl (Nat.le_of_ble_eq_true rfl) dX5_last_3 ⟨Nat.le_of_ble_eq_true rfl, Nat.le_of_ble_eq_true rfl⟩) (fun H locs h => ?_)
  refine lv_if_ne (tgt := 16) hx hb dX5_last_6 (by decide) (fun c2 => ?_) (fun c2 => ?_)
  · have hf := it_f c2 hf
    refine lv_aload_n hx hb dX5_last_16 rfl (lv_at hl 0 rfl) ?_
    obtain ⟨k3, hg, hf⟩ := bV_inv hf
    refine q_cv (rest := []) (ws' := (wX5_last cI cJ cZ cS a_t a_s a_keptS a_statuses a_pile a_tape a_steps a_wish a_mark a_bitsOf a_sizeOf a_number a_moved v_isKept v_taped v_at v_fault v_laid v_open v_s v_statuses k3.1 k3.2)) (w1 := (wX5_looksAll cI cJ cZ cS a_t a_s a_keptS a_statuses a_pile a_tape a_steps a_wish a_mark a_bitsOf a_sizeOf a_number a_moved v_isKept v_taped v_at v_fault v_laid v_open v_s k3.1 k3.2)) fx h [0, 1, 3, 4] rfl rfl rfl rfl (q_runV fx h hl.1 [0, 1, 3, 4] rfl rfl (tX5_looksAll l D cI cJ cZ cS tb a_t a_s a_keptS a_statuses a_pile a_tape a_steps a_wish a_mark a_bitsOf a_sizeOf a_number a_moved H.size v_isKept v_taped v_at v_fault v_laid v_open v_s v_pile v_wish k3 hg) mvX5_looksAll k_860 ⟨rfl, rfl⟩ ⟨Nat.le_of_ble_eq_true rfl, Nat.le_of_ble_eq_true rfl⟩ rfl rfl rfl rfl (Nat.le_of_ble_eq_true rfl) dX5_last_17 ⟨Nat.le_of_ble_eq_true rfl, Nat.le_of_ble_eq_true rfl⟩) (fun H locs h => ?_)
    refine lv_aload_n hx hb dX5_last_20 rfl (lv_at hl 0 rfl) ?_
    refine lv_iload_n hx hb dX5_last_21 rfl (lv_at hl 1 rfl) ?_
    refine lv_sipush (v := 255) hx hb dX5_last_22 (by decide) ?_
    obtain ⟨r4, k4, hg, hf⟩ := bR_inv hf
    refine q_ci (rest := []) (ws' := (wX5_last cI cJ cZ cS a_t a_s a_keptS a_statuses a_pile a_tape a_steps a_wish a_mark a_bitsOf a_sizeOf a_number a_moved v_isKept v_taped v_at v_fault v_laid v_open v_s v_statuses k3.1 k3.2)) (w1 := (wX5_lastOf cI cJ cZ cS a_t a_s a_keptS a_statuses a_pile a_tape a_steps a_wish a_mark a_bitsOf a_sizeOf a_number a_moved v_isKept v_taped v_at v_fault v_laid v_open k3.2)) fx h [0, 4] rfl rfl rfl rfl (q_runV fx h hl.1 [0, 4] rfl rfl (tX5_lastOf l D cI cJ cZ cS tb a_t a_s a_keptS a_statuses a_pile a_tape a_steps a_wish a_mark a_bitsOf a_sizeOf a_number a_moved H.size v_isKept v_taped v_at v_fault v_laid v_open k3.2 x1 255 r4 k4 hg) mvX5_lastOf k_918 ⟨rfl, rfl⟩ ⟨Nat.le_of_ble_eq_true rfl, Nat.le_of_ble_eq_true rfl⟩ rfl rfl rfl rfl (Nat.le_of_ble_eq_true rfl) dX5_last_25 ⟨Nat.le_of_ble_eq_true rfl, Nat.le_of_ble_eq_true rfl⟩) (fun H locs h => ?_)
    exact q_reti (fun k : (Nat → Int32) × (Nat → Int32) × (Nat → Int32) => (wX5_last cI cJ cZ cS a_t a_s a_keptS a_statuses a_pile a_tape a_steps a_wish a_mark a_bitsOf a_sizeOf a_number a_moved v_isKept v_taped v_at v_fault v_laid v_open v_s k.1 k.2.1 k.2.2)) fx hf h dX5_last_28
  have hf := it_t c2 hf
  refine lv_aload_n hx hb dX5_last_9 rfl (lv_at hl 0 rfl) ?_
  refine q_ldc fx k_701 dX5_last_10 ?_
  obtain ⟨r5, k5, hg, hf⟩ := bR_inv hf
  refine q_ci (rest := []) (ws' := (wX5_last cI cJ cZ cS a_t a_s a_keptS a_statuses a_pile a_tape a_steps a_wish a_mark a_bitsOf a_sizeOf a_number a_moved v_isKept v_taped v_at v_fault v_laid v_open v_s k5 v_pile v_wish)) (w1 := (wX5_finds cI cJ cZ cS a_t a_s a_keptS a_statuses a_pile a_tape a_steps a_wish a_mark a_bitsOf a_sizeOf a_number a_moved v_isKept v_taped v_at v_fault v_laid v_open k5)) fx h [0, 2] rfl rfl rfl rfl (q_runV fx h hl.1 [0, 2] rfl rfl (tX5_finds l D cI cJ cZ cS tb a_t a_s a_keptS a_statuses a_pile a_tape a_steps a_wish a_mark a_bitsOf a_sizeOf a_number a_moved H.size v_isKept v_taped v_at v_fault v_laid v_open v_statuses (-1000000001) r5 k5 hg) mvX5_finds k_702 ⟨rfl, rfl⟩ ⟨Nat.le_of_ble_eq_true rfl, Nat.le_of_ble_eq_true rfl⟩ rfl rfl rfl rfl (Nat.le_of_ble_eq_true rfl) dX5_last_12 ⟨Nat.le_of_ble_eq_true rfl, Nat.le_of_ble_eq_true rfl⟩) (fun H locs h => ?_)
  exact q_reti (fun k : (Nat → Int32) × (Nat → Int32) × (Nat → Int32) => (wX5_last cI cJ cZ cS a_t a_s a_keptS a_statuses a_pile a_tape a_steps a_wish a_mark a_bitsOf a_sizeOf a_number a_moved v_isKept v_taped v_at v_fault v_laid v_open v_s k.1 k.2.1 k.2.2)) fx hf h dX5_last_15
end
section
/-! X5_bestBuy -/
abbrev wX5_bestBuy (cI cJ cZ cS : ClassId) (a_t a_s a_keptS a_statuses a_pile a_tape a_steps a_wish a_mark a_bitsOf a_sizeOf a_number a_moved : Nat) (v_isKept : Int32) (v_taped : Int32) (v_at : Int32) (v_fault : Int32) (v_laid : Int32) (v_open : Int32) (v_s : Nat → Int32) (v_pile : Nat → Int32) (v_wish : Nat → Int32) : va_W := [(a_t, .inr (5, [.ref a_s, .ref a_keptS, .ref a_statuses, .int v_isKept, .ref a_pile, .ref a_tape, .ref a_steps, .int v_taped, .int v_at, .int v_fault, .int v_laid, .int v_open, .ref a_wish, .ref a_mark, .ref a_bitsOf, .ref a_sizeOf, .ref a_number, .ref a_moved])), (a_s, .inl (cI, 538, .inl v_s)), (a_pile, .inl (cZ, 64, .inl v_pile)), (a_wish, .inl (cI, 256, .inl v_wish))]
abbrev rX5_bestBuy : Room := { frames := 6, cells := 0, slots := 0, locals := 137 }
def fX5_bestBuy_79 (v_s : Nat → Int32) (ag8 : (Nat → Int32) → (Nat → Int32) → Int32 → Int32 → Int32 → Option (Int32 × (Nat → Int32) × (Nat → Int32))) (v_pile : Nat → Int32) (v_wish : Nat → Int32) (y1 : Int32) (y2 : Int32) (y3 : Int32) : Option (Int32 × (Nat → Int32) × (Nat → Int32)) :=
  nm (y3 + 1) (fun u1 =>
  ag8 v_pile v_wish y1 y2 u1)
set_option maxRecDepth 100000 in
set_option maxHeartbeats 4000000 in
theorem LX5_bestBuy_79 {p : Program} {l : Launch} {e : Env} {s : State} {m : MethodId} {args : Array Value} {below : List Frame} {meth : Method} {c : Code} {D : va_G} {cI cJ cZ cS : ClassId} {tb : Nat} {A : Nat → Prop} {a_t a_s a_keptS a_statuses a_pile a_tape a_steps a_wish a_mark a_bitsOf a_sizeOf a_number a_moved : Nat} {v_isKept : Int32} {v_taped : Int32} {v_at : Int32} {v_fault : Int32} {v_laid : Int32} {v_open : Int32} {v_s : Nat → Int32} {rr : Int32} {kk' : (Nat → Int32) × (Nat → Int32)} (fx : q_Fx p s m args meth c cX5_bestBuy 5 RX5 (some .int) D cI cJ cZ cS tb A) {ag8 : (Nat → Int32) → (Nat → Int32) → Int32 → Int32 → Int32 → Option (Int32 × (Nat → Int32) × (Nat → Int32))} (hag8 : ∀ {v_pile : Nat → Int32} {v_wish : Nat → Int32} {y1 : Int32} {y2 : Int32} {y3 : Int32} {H : Heap} {locs : List Loc} {ls : Array Slot}, q_H D A s (wX5_bestBuy cI cJ cZ cS a_t a_s a_keptS a_statuses a_pile a_tape a_steps a_wish a_mark a_bitsOf a_sizeOf a_number a_moved v_isKept v_taped v_at v_fault v_laid v_open v_s v_pile v_wish) H locs → lv_has ls 5 [(0, .ref a_t), (1, .int y1), (2, .int y2), (3, .int y3)] → ag8 v_pile v_wish y1 y2 y3 = some (rr, kk') → W p l e rX5_bestBuy s m args below meth c H locs 0 0 (MQ below (q_Ri D rr A ((fun k : (Nat → Int32) × (Nat → Int32) => (wX5_bestBuy cI cJ cZ cS a_t a_s a_keptS a_statuses a_pile a_tape a_steps a_wish a_mark a_bitsOf a_sizeOf a_number a_moved v_isKept v_taped v_at v_fault v_laid v_open v_s k.1 k.2)) kk')) args s 0 0 A) (F0 m 8 ls [])) : ∀ {v_pile : Nat → Int32} {v_wish : Nat → Int32} {y1 : Int32} {y2 : Int32} {y3 : Int32} {H : Heap} {locs : List Loc} {ls : Array Slot}, q_H D A s (wX5_bestBuy cI cJ cZ cS a_t a_s a_keptS a_statuses a_pile a_tape a_steps a_wish a_mark a_bitsOf a_sizeOf a_number a_moved v_isKept v_taped v_at v_fault v_laid v_open v_s v_pile v_wish) H locs → lv_has ls 5 [(0, .ref a_t), (1, .int y1), (2, .int y2), (3, .int y3)] → fX5_bestBuy_79 v_s ag8 v_pile v_wish y1 y2 y3 = some (rr, kk') → W p l e rX5_bestBuy s m args below meth c H locs 0 0 (MQ below (q_Ri D rr A ((fun k : (Nat → Int32) × (Nat → Int32) => (wX5_bestBuy cI cJ cZ cS a_t a_s a_keptS a_statuses a_pile a_tape a_steps a_wish a_mark a_bitsOf a_sizeOf a_number a_moved v_isKept v_taped v_at v_fault v_laid v_open v_s k.1 k.2)) kk')) args s 0 0 A) (F0 m 79 ls []) := by
  intro v_pile v_wish y1 y2 y3 H locs ls h hl hf
  have hx := fx.1
  have hb := fx.2.1
  unfold fX5_bestBuy_79 at hf
  obtain ⟨u1, eu1, hf⟩ := nm_inv hf
  refine lv_iinc (v := u1) (lv' := [(3, .int u1), (0, .ref a_t), (1, .int y1), (2, .int y2)]) hx hb dX5_bestBuy_79 hl (k := 3) rfl (by rw [eu1]; rfl) (by decide) rfl (fun ls hl => ?_)
  refine lv_goto (tgt := 8) hx hb dX5_bestBuy_82 (by decide) ?_
  exact hag8 h (lv_sub hl [1, 2, 3, 0] rfl) hf
def fX5_bestBuy_78 (v_s : Nat → Int32) (ag8 : (Nat → Int32) → (Nat → Int32) → Int32 → Int32 → Int32 → Option (Int32 × (Nat → Int32) × (Nat → Int32))) (v_pile : Nat → Int32) (v_wish : Nat → Int32) (s0 : Int32) (y1 : Int32) (y3 : Int32) : Option (Int32 × (Nat → Int32) × (Nat → Int32)) :=
  fX5_bestBuy_79 v_s ag8 v_pile v_wish y1 s0 y3
set_option maxRecDepth 100000 in
set_option maxHeartbeats 4000000 in
theorem LX5_bestBuy_78 {p : Program} {l : Launch} {e : Env} {s : State} {m : MethodId} {args : Array Value} {below : List Frame} {meth : Method} {c : Code} {D : va_G} {cI cJ cZ cS : ClassId} {tb : Nat} {A : Nat → Prop} {a_t a_s a_keptS a_statuses a_pile a_tape a_steps a_wish a_mark a_bitsOf a_sizeOf a_number a_moved : Nat} {v_isKept : Int32} {v_taped : Int32} {v_at : Int32} {v_fault : Int32} {v_laid : Int32} {v_open : Int32} {v_s : Nat → Int32} {rr : Int32} {kk' : (Nat → Int32) × (Nat → Int32)} (fx : q_Fx p s m args meth c cX5_bestBuy 5 RX5 (some .int) D cI cJ cZ cS tb A) {ag8 : (Nat → Int32) → (Nat → Int32) → Int32 → Int32 → Int32 → Option (Int32 × (Nat → Int32) × (Nat → Int32))} (hag8 : ∀ {v_pile : Nat → Int32} {v_wish : Nat → Int32} {y1 : Int32} {y2 : Int32} {y3 : Int32} {H : Heap} {locs : List Loc} {ls : Array Slot}, q_H D A s (wX5_bestBuy cI cJ cZ cS a_t a_s a_keptS a_statuses a_pile a_tape a_steps a_wish a_mark a_bitsOf a_sizeOf a_number a_moved v_isKept v_taped v_at v_fault v_laid v_open v_s v_pile v_wish) H locs → lv_has ls 5 [(0, .ref a_t), (1, .int y1), (2, .int y2), (3, .int y3)] → ag8 v_pile v_wish y1 y2 y3 = some (rr, kk') → W p l e rX5_bestBuy s m args below meth c H locs 0 0 (MQ below (q_Ri D rr A ((fun k : (Nat → Int32) × (Nat → Int32) => (wX5_bestBuy cI cJ cZ cS a_t a_s a_keptS a_statuses a_pile a_tape a_steps a_wish a_mark a_bitsOf a_sizeOf a_number a_moved v_isKept v_taped v_at v_fault v_laid v_open v_s k.1 k.2)) kk')) args s 0 0 A) (F0 m 8 ls [])) : ∀ {v_pile : Nat → Int32} {v_wish : Nat → Int32} {s0 : Int32} {y1 : Int32} {y3 : Int32} {H : Heap} {locs : List Loc} {ls : Array Slot}, q_H D A s (wX5_bestBuy cI cJ cZ cS a_t a_s a_keptS a_statuses a_pile a_tape a_steps a_wish a_mark a_bitsOf a_sizeOf a_number a_moved v_isKept v_taped v_at v_fault v_laid v_open v_s v_pile v_wish) H locs → lv_has ls 5 [(0, .ref a_t), (1, .int y1), (3, .int y3)] → fX5_bestBuy_78 v_s ag8 v_pile v_wish s0 y1 y3 = some (rr, kk') → W p l e rX5_bestBuy s m args below meth c H locs 0 0 (MQ below (q_Ri D rr A ((fun k : (Nat → Int32) × (Nat → Int32) => (wX5_bestBuy cI cJ cZ cS a_t a_s a_keptS a_statuses a_pile a_tape a_steps a_wish a_mark a_bitsOf a_sizeOf a_number a_moved v_isKept v_taped v_at v_fault v_laid v_open v_s k.1 k.2)) kk')) args s 0 0 A) (F0 m 78 ls [.int s0]) := by
  intro v_pile v_wish s0 y1 y3 H locs ls h hl hf
  have hx := fx.1
  have hb := fx.2.1
  unfold fX5_bestBuy_78 at hf
  refine lv_istore_n (lv' := [(2, .int s0), (0, .ref a_t), (1, .int y1), (3, .int y3)]) hx hb dX5_bestBuy_78 rfl hl (by decide) rfl (fun ls hl => ?_)
  exact LX5_bestBuy_79 fx hag8 h (lv_sub hl [1, 2, 0, 3] rfl) hf
def fX5_bestBuy_77 (v_s : Nat → Int32) (ag8 : (Nat → Int32) → (Nat → Int32) → Int32 → Int32 → Int32 → Option (Int32 × (Nat → Int32) × (Nat → Int32))) (v_pile : Nat → Int32) (v_wish : Nat → Int32) (y1 : Int32) (y2 : Int32) (y3 : Int32) : Option (Int32 × (Nat → Int32) × (Nat → Int32)) :=
  fX5_bestBuy_78 v_s ag8 v_pile v_wish y2 y1 y3
set_option maxRecDepth 100000 in
set_option maxHeartbeats 4000000 in
theorem LX5_bestBuy_77 {p : Program} {l : Launch} {e : Env} {s : State} {m : MethodId} {args : Array Value} {below : List Frame} {meth : Method} {c : Code} {D : va_G} {cI cJ cZ cS : ClassId} {tb : Nat} {A : Nat → Prop} {a_t a_s a_keptS a_statuses a_pile a_tape a_steps a_wish a_mark a_bitsOf a_sizeOf a_number a_moved : Nat} {v_isKept : Int32} {v_taped : Int32} {v_at : Int32} {v_fault : Int32} {v_laid : Int32} {v_open : Int32} {v_s : Nat → Int32} {rr : Int32} {kk' : (Nat → Int32) × (Nat → Int32)} (fx : q_Fx p s m args meth c cX5_bestBuy 5 RX5 (some .int) D cI cJ cZ cS tb A) {ag8 : (Nat → Int32) → (Nat → Int32) → Int32 → Int32 → Int32 → Option (Int32 × (Nat → Int32) × (Nat → Int32))} (hag8 : ∀ {v_pile : Nat → Int32} {v_wish : Nat → Int32} {y1 : Int32} {y2 : Int32} {y3 : Int32} {H : Heap} {locs : List Loc} {ls : Array Slot}, q_H D A s (wX5_bestBuy cI cJ cZ cS a_t a_s a_keptS a_statuses a_pile a_tape a_steps a_wish a_mark a_bitsOf a_sizeOf a_number a_moved v_isKept v_taped v_at v_fault v_laid v_open v_s v_pile v_wish) H locs → lv_has ls 5 [(0, .ref a_t), (1, .int y1), (2, .int y2), (3, .int y3)] → ag8 v_pile v_wish y1 y2 y3 = some (rr, kk') → W p l e rX5_bestBuy s m args below meth c H locs 0 0 (MQ below (q_Ri D rr A ((fun k : (Nat → Int32) × (Nat → Int32) => (wX5_bestBuy cI cJ cZ cS a_t a_s a_keptS a_statuses a_pile a_tape a_steps a_wish a_mark a_bitsOf a_sizeOf a_number a_moved v_isKept v_taped v_at v_fault v_laid v_open v_s k.1 k.2)) kk')) args s 0 0 A) (F0 m 8 ls [])) : ∀ {v_pile : Nat → Int32} {v_wish : Nat → Int32} {y1 : Int32} {y2 : Int32} {y3 : Int32} {H : Heap} {locs : List Loc} {ls : Array Slot}, q_H D A s (wX5_bestBuy cI cJ cZ cS a_t a_s a_keptS a_statuses a_pile a_tape a_steps a_wish a_mark a_bitsOf a_sizeOf a_number a_moved v_isKept v_taped v_at v_fault v_laid v_open v_s v_pile v_wish) H locs → lv_has ls 5 [(0, .ref a_t), (1, .int y1), (2, .int y2), (3, .int y3)] → fX5_bestBuy_77 v_s ag8 v_pile v_wish y1 y2 y3 = some (rr, kk') → W p l e rX5_bestBuy s m args below meth c H locs 0 0 (MQ below (q_Ri D rr A ((fun k : (Nat → Int32) × (Nat → Int32) => (wX5_bestBuy cI cJ cZ cS a_t a_s a_keptS a_statuses a_pile a_tape a_steps a_wish a_mark a_bitsOf a_sizeOf a_number a_moved v_isKept v_taped v_at v_fault v_laid v_open v_s k.1 k.2)) kk')) args s 0 0 A) (F0 m 77 ls []) := by
  intro v_pile v_wish y1 y2 y3 H locs ls h hl hf
  have hx := fx.1
  have hb := fx.2.1
  unfold fX5_bestBuy_77 at hf
  refine lv_iload_n hx hb dX5_bestBuy_77 rfl (lv_at hl 2 rfl) ?_
  exact LX5_bestBuy_78 fx hag8 h (lv_sub hl [0, 1, 3] rfl) hf
def fX5_bestBuy_73 (v_s : Nat → Int32) (ag8 : (Nat → Int32) → (Nat → Int32) → Int32 → Int32 → Int32 → Option (Int32 × (Nat → Int32) × (Nat → Int32))) (v_pile : Nat → Int32) (v_wish : Nat → Int32) (y1 : Int32) (y3 : Int32) : Option (Int32 × (Nat → Int32) × (Nat → Int32)) :=
  fX5_bestBuy_78 v_s ag8 v_pile v_wish y3 y1 y3
set_option maxRecDepth 100000 in
set_option maxHeartbeats 4000000 in
theorem LX5_bestBuy_73 {p : Program} {l : Launch} {e : Env} {s : State} {m : MethodId} {args : Array Value} {below : List Frame} {meth : Method} {c : Code} {D : va_G} {cI cJ cZ cS : ClassId} {tb : Nat} {A : Nat → Prop} {a_t a_s a_keptS a_statuses a_pile a_tape a_steps a_wish a_mark a_bitsOf a_sizeOf a_number a_moved : Nat} {v_isKept : Int32} {v_taped : Int32} {v_at : Int32} {v_fault : Int32} {v_laid : Int32} {v_open : Int32} {v_s : Nat → Int32} {rr : Int32} {kk' : (Nat → Int32) × (Nat → Int32)} (fx : q_Fx p s m args meth c cX5_bestBuy 5 RX5 (some .int) D cI cJ cZ cS tb A) {ag8 : (Nat → Int32) → (Nat → Int32) → Int32 → Int32 → Int32 → Option (Int32 × (Nat → Int32) × (Nat → Int32))} (hag8 : ∀ {v_pile : Nat → Int32} {v_wish : Nat → Int32} {y1 : Int32} {y2 : Int32} {y3 : Int32} {H : Heap} {locs : List Loc} {ls : Array Slot}, q_H D A s (wX5_bestBuy cI cJ cZ cS a_t a_s a_keptS a_statuses a_pile a_tape a_steps a_wish a_mark a_bitsOf a_sizeOf a_number a_moved v_isKept v_taped v_at v_fault v_laid v_open v_s v_pile v_wish) H locs → lv_has ls 5 [(0, .ref a_t), (1, .int y1), (2, .int y2), (3, .int y3)] → ag8 v_pile v_wish y1 y2 y3 = some (rr, kk') → W p l e rX5_bestBuy s m args below meth c H locs 0 0 (MQ below (q_Ri D rr A ((fun k : (Nat → Int32) × (Nat → Int32) => (wX5_bestBuy cI cJ cZ cS a_t a_s a_keptS a_statuses a_pile a_tape a_steps a_wish a_mark a_bitsOf a_sizeOf a_number a_moved v_isKept v_taped v_at v_fault v_laid v_open v_s k.1 k.2)) kk')) args s 0 0 A) (F0 m 8 ls [])) : ∀ {v_pile : Nat → Int32} {v_wish : Nat → Int32} {y1 : Int32} {y3 : Int32} {H : Heap} {locs : List Loc} {ls : Array Slot}, q_H D A s (wX5_bestBuy cI cJ cZ cS a_t a_s a_keptS a_statuses a_pile a_tape a_steps a_wish a_mark a_bitsOf a_sizeOf a_number a_moved v_isKept v_taped v_at v_fault v_laid v_open v_s v_pile v_wish) H locs → lv_has ls 5 [(0, .ref a_t), (1, .int y1), (3, .int y3)] → fX5_bestBuy_73 v_s ag8 v_pile v_wish y1 y3 = some (rr, kk') → W p l e rX5_bestBuy s m args below meth c H locs 0 0 (MQ below (q_Ri D rr A ((fun k : (Nat → Int32) × (Nat → Int32) => (wX5_bestBuy cI cJ cZ cS a_t a_s a_keptS a_statuses a_pile a_tape a_steps a_wish a_mark a_bitsOf a_sizeOf a_number a_moved v_isKept v_taped v_at v_fault v_laid v_open v_s k.1 k.2)) kk')) args s 0 0 A) (F0 m 73 ls []) := by
  intro v_pile v_wish y1 y3 H locs ls h hl hf
  have hx := fx.1
  have hb := fx.2.1
  unfold fX5_bestBuy_73 at hf
  refine lv_iload_n hx hb dX5_bestBuy_73 rfl (lv_at hl 2 rfl) ?_
  refine lv_goto (tgt := 78) hx hb dX5_bestBuy_74 (by decide) ?_
  exact LX5_bestBuy_78 fx hag8 h (lv_sub hl [0, 1, 2] rfl) hf
def fX5_bestBuy_50 (v_s : Nat → Int32) (ag8 : (Nat → Int32) → (Nat → Int32) → Int32 → Int32 → Int32 → Option (Int32 × (Nat → Int32) × (Nat → Int32))) (v_pile : Nat → Int32) (v_wish : Nat → Int32) (s0 : Int32) (y1 : Int32) (y2 : Int32) (y3 : Int32) : Option (Int32 × (Nat → Int32) × (Nat → Int32)) :=
  (if s0 < 0 then (
  fX5_bestBuy_73 v_s ag8 v_pile v_wish y1 y3)
  else (
  (if s0 = 0 then (
  bR (fX5_ones y3) (fun r4 k4 =>
  bR (fX5_ones y2) (fun r5 k5 =>
  (if r5 ≤ r4 then (
  fX5_bestBuy_77 v_s ag8 v_pile v_wish y1 y2 y3)
  else (
  fX5_bestBuy_73 v_s ag8 v_pile v_wish y1 y3)))))
  else (
  fX5_bestBuy_77 v_s ag8 v_pile v_wish y1 y2 y3))))
set_option maxRecDepth 100000 in
set_option maxHeartbeats 4000000 in
theorem LX5_bestBuy_50 {p : Program} {l : Launch} {e : Env} {s : State} {m : MethodId} {args : Array Value} {below : List Frame} {meth : Method} {c : Code} {D : va_G} {cI cJ cZ cS : ClassId} {tb : Nat} {A : Nat → Prop} {a_t a_s a_keptS a_statuses a_pile a_tape a_steps a_wish a_mark a_bitsOf a_sizeOf a_number a_moved : Nat} {v_isKept : Int32} {v_taped : Int32} {v_at : Int32} {v_fault : Int32} {v_laid : Int32} {v_open : Int32} {v_s : Nat → Int32} {rr : Int32} {kk' : (Nat → Int32) × (Nat → Int32)} (fx : q_Fx p s m args meth c cX5_bestBuy 5 RX5 (some .int) D cI cJ cZ cS tb A) {ag8 : (Nat → Int32) → (Nat → Int32) → Int32 → Int32 → Int32 → Option (Int32 × (Nat → Int32) × (Nat → Int32))} (hag8 : ∀ {v_pile : Nat → Int32} {v_wish : Nat → Int32} {y1 : Int32} {y2 : Int32} {y3 : Int32} {H : Heap} {locs : List Loc} {ls : Array Slot}, q_H D A s (wX5_bestBuy cI cJ cZ cS a_t a_s a_keptS a_statuses a_pile a_tape a_steps a_wish a_mark a_bitsOf a_sizeOf a_number a_moved v_isKept v_taped v_at v_fault v_laid v_open v_s v_pile v_wish) H locs → lv_has ls 5 [(0, .ref a_t), (1, .int y1), (2, .int y2), (3, .int y3)] → ag8 v_pile v_wish y1 y2 y3 = some (rr, kk') → W p l e rX5_bestBuy s m args below meth c H locs 0 0 (MQ below (q_Ri D rr A ((fun k : (Nat → Int32) × (Nat → Int32) => (wX5_bestBuy cI cJ cZ cS a_t a_s a_keptS a_statuses a_pile a_tape a_steps a_wish a_mark a_bitsOf a_sizeOf a_number a_moved v_isKept v_taped v_at v_fault v_laid v_open v_s k.1 k.2)) kk')) args s 0 0 A) (F0 m 8 ls [])) : ∀ {v_pile : Nat → Int32} {v_wish : Nat → Int32} {s0 : Int32} {y1 : Int32} {y2 : Int32} {y3 : Int32} {H : Heap} {locs : List Loc} {ls : Array Slot}, q_H D A s (wX5_bestBuy cI cJ cZ cS a_t a_s a_keptS a_statuses a_pile a_tape a_steps a_wish a_mark a_bitsOf a_sizeOf a_number a_moved v_isKept v_taped v_at v_fault v_laid v_open v_s v_pile v_wish) H locs → lv_has ls 5 [(0, .ref a_t), (1, .int y1), (2, .int y2), (3, .int y3)] → fX5_bestBuy_50 v_s ag8 v_pile v_wish s0 y1 y2 y3 = some (rr, kk') → W p l e rX5_bestBuy s m args below meth c H locs 0 0 (MQ below (q_Ri D rr A ((fun k : (Nat → Int32) × (Nat → Int32) => (wX5_bestBuy cI cJ cZ cS a_t a_s a_keptS a_statuses a_pile a_tape a_steps a_wish a_mark a_bitsOf a_sizeOf a_number a_moved v_isKept v_taped v_at v_fault v_laid v_open v_s k.1 k.2)) kk')) args s 0 0 A) (F0 m 50 ls [.int s0]) := by
  intro v_pile v_wish s0 y1 y2 y3 H locs ls h hl hf
  have hx := fx.1
  have hb := fx.2.1
  unfold fX5_bestBuy_50 at hf
  refine lv_istore (lv' := [(4, .int s0), (0, .ref a_t), (1, .int y1), (2, .int y2), (3, .int y3)]) hx hb dX5_bestBuy_50 hl (by decide) rfl (fun ls hl => ?_)
  refine lv_iload hx hb dX5_bestBuy_52 (lv_at hl 0 rfl) ?_
  refine lv_if_lt (tgt := 73) hx hb dX5_bestBuy_54 (by decide) (fun c2 => ?_) (fun c2 => ?_)
  · have hf := it_t c2 hf
    exact LX5_bestBuy_73 fx hag8 h (lv_sub hl [1, 2, 4] rfl) hf
  have hf := it_f c2 hf
  refine lv_iload hx hb dX5_bestBuy_57 (lv_at hl 0 rfl) ?_
  refine lv_if_ne (tgt := 77) hx hb dX5_bestBuy_59 (by decide) (fun c3 => ?_) (fun c3 => ?_)
  · have hf := it_f c3 hf
    exact LX5_bestBuy_77 fx hag8 h (lv_sub hl [1, 2, 3, 4] rfl) hf
  have hf := it_t c3 hf
  refine lv_iload_n hx hb dX5_bestBuy_62 rfl (lv_at hl 4 rfl) ?_
  obtain ⟨r4, k4, hg, hf⟩ := bR_inv hf
  refine q_ci (rest := []) (ws' := (wX5_bestBuy cI cJ cZ cS a_t a_s a_keptS a_statuses a_pile a_tape a_steps a_wish a_mark a_bitsOf a_sizeOf a_number a_moved v_isKept v_taped v_at v_fault v_laid v_open v_s v_pile v_wish)) (w1 := (wX5_ones cI cJ cZ cS)) fx h [] rfl rfl rfl rfl (q_runS fx h hl.1 [] rfl rfl (tX5_ones l D cI cJ cZ cS tb H.size y3 r4 k4 hg) msX5_ones k_722 ⟨rfl, rfl⟩ ⟨Nat.le_of_ble_eq_true rfl, Nat.le_of_ble_eq_true rfl⟩ rfl rfl (Nat.le_of_ble_eq_true rfl) dX5_bestBuy_63 ⟨Nat.le_of_ble_eq_true rfl, Nat.le_of_ble_eq_true rfl⟩) (fun H locs h => ?_)
  refine lv_iload_n hx hb dX5_bestBuy_66 rfl (lv_at hl 3 rfl) ?_
  obtain ⟨r5, k5, hg, hf⟩ := bR_inv hf
  refine q_ci (rest := [.int r4]) (ws' := (wX5_bestBuy cI cJ cZ cS a_t a_s a_keptS a_statuses a_pile a_tape a_steps a_wish a_mark a_bitsOf a_sizeOf a_number a_moved v_isKept v_taped v_at v_fault v_laid v_open v_s v_pile v_wish)) (w1 := (wX5_ones cI cJ cZ cS)) fx h [] rfl rfl rfl rfl (q_runS fx h hl.1 [] rfl rfl (tX5_ones l D cI cJ cZ cS tb H.size y2 r5 k5 hg) msX5_ones k_722 ⟨rfl, rfl⟩ ⟨Nat.le_of_ble_eq_true rfl, Nat.le_of_ble_eq_true rfl⟩ rfl rfl (Nat.le_of_ble_eq_true rfl) dX5_bestBuy_67 ⟨Nat.le_of_ble_eq_true rfl, Nat.le_of_ble_eq_true rfl⟩) (fun H locs h => ?_)
  refine lv_icmp_ge (tgt := 77) hx hb dX5_bestBuy_70 (by decide) (fun c6 => ?_) (fun c6 => ?_)
  · have hf := it_t c6 hf
    exact LX5_bestBuy_77 fx hag8 h (lv_sub hl [1, 2, 3, 4] rfl) hf
  have hf := it_f c6 hf
  exact LX5_bestBuy_73 fx hag8 h (lv_sub hl [1, 2, 4] rfl) hf
def fX5_bestBuy_8 (v_s : Nat → Int32) (ag8 : (Nat → Int32) → (Nat → Int32) → Int32 → Int32 → Int32 → Option (Int32 × (Nat → Int32) × (Nat → Int32))) (v_pile : Nat → Int32) (v_wish : Nat → Int32) (y1 : Int32) (y2 : Int32) (y3 : Int32) : Option (Int32 × (Nat → Int32) × (Nat → Int32)) :=
  bR (fX5_lists v_s) (fun r7 k7 =>
  (if r7 ≤ y3 then (
  some (y2, (v_pile, v_wish)))
  else (
  bR (fX5_lastOf v_wish y3 255) (fun r9 k9 =>
  bR (fX5_ones r9) (fun r10 k10 =>
  (if r10 < y1 then (
  fX5_bestBuy_79 v_s ag8 v_pile v_wish y1 y2 y3)
  else (
  (if (0 : Int32) ≤ y2 then (
  bR (fX5_costOf v_s y3) (fun r13 k13 =>
  bR (fX5_costOf v_s y2) (fun r14 k14 =>
  fX5_bestBuy_50 v_s ag8 v_pile v_wish (r13 - r14) y1 y2 y3)))
  else (
  fX5_bestBuy_50 v_s ag8 v_pile v_wish (-1) y1 y2 y3)))))))))
set_option maxRecDepth 100000 in
set_option maxHeartbeats 4000000 in
theorem LX5_bestBuy_8 {p : Program} {l : Launch} {e : Env} {s : State} {m : MethodId} {args : Array Value} {below : List Frame} {meth : Method} {c : Code} {D : va_G} {cI cJ cZ cS : ClassId} {tb : Nat} {A : Nat → Prop} {a_t a_s a_keptS a_statuses a_pile a_tape a_steps a_wish a_mark a_bitsOf a_sizeOf a_number a_moved : Nat} {v_isKept : Int32} {v_taped : Int32} {v_at : Int32} {v_fault : Int32} {v_laid : Int32} {v_open : Int32} {v_s : Nat → Int32} {rr : Int32} {kk' : (Nat → Int32) × (Nat → Int32)} (fx : q_Fx p s m args meth c cX5_bestBuy 5 RX5 (some .int) D cI cJ cZ cS tb A) {ag8 : (Nat → Int32) → (Nat → Int32) → Int32 → Int32 → Int32 → Option (Int32 × (Nat → Int32) × (Nat → Int32))} (hag8 : ∀ {v_pile : Nat → Int32} {v_wish : Nat → Int32} {y1 : Int32} {y2 : Int32} {y3 : Int32} {H : Heap} {locs : List Loc} {ls : Array Slot}, q_H D A s (wX5_bestBuy cI cJ cZ cS a_t a_s a_keptS a_statuses a_pile a_tape a_steps a_wish a_mark a_bitsOf a_sizeOf a_number a_moved v_isKept v_taped v_at v_fault v_laid v_open v_s v_pile v_wish) H locs → lv_has ls 5 [(0, .ref a_t), (1, .int y1), (2, .int y2), (3, .int y3)] → ag8 v_pile v_wish y1 y2 y3 = some (rr, kk') → W p l e rX5_bestBuy s m args below meth c H locs 0 0 (MQ below (q_Ri D rr A ((fun k : (Nat → Int32) × (Nat → Int32) => (wX5_bestBuy cI cJ cZ cS a_t a_s a_keptS a_statuses a_pile a_tape a_steps a_wish a_mark a_bitsOf a_sizeOf a_number a_moved v_isKept v_taped v_at v_fault v_laid v_open v_s k.1 k.2)) kk')) args s 0 0 A) (F0 m 8 ls [])) : ∀ {v_pile : Nat → Int32} {v_wish : Nat → Int32} {y1 : Int32} {y2 : Int32} {y3 : Int32} {H : Heap} {locs : List Loc} {ls : Array Slot}, q_H D A s (wX5_bestBuy cI cJ cZ cS a_t a_s a_keptS a_statuses a_pile a_tape a_steps a_wish a_mark a_bitsOf a_sizeOf a_number a_moved v_isKept v_taped v_at v_fault v_laid v_open v_s v_pile v_wish) H locs → lv_has ls 5 [(0, .ref a_t), (1, .int y1), (2, .int y2), (3, .int y3)] → fX5_bestBuy_8 v_s ag8 v_pile v_wish y1 y2 y3 = some (rr, kk') → W p l e rX5_bestBuy s m args below meth c H locs 0 0 (MQ below (q_Ri D rr A ((fun k : (Nat → Int32) × (Nat → Int32) => (wX5_bestBuy cI cJ cZ cS a_t a_s a_keptS a_statuses a_pile a_tape a_steps a_wish a_mark a_bitsOf a_sizeOf a_number a_moved v_isKept v_taped v_at v_fault v_laid v_open v_s k.1 k.2)) kk')) args s 0 0 A) (F0 m 8 ls []) := by
  intro v_pile v_wish y1 y2 y3 H locs ls h hl hf
  have hx := fx.1
  have hb := fx.2.1
  unfold fX5_bestBuy_8 at hf
  refine lv_iload_n hx hb dX5_bestBuy_8 rfl (lv_at hl 3 rfl) ?_
  refine lv_aload_n hx hb dX5_bestBuy_9 rfl (lv_at hl 0 rfl) ?_
  obtain ⟨r7, k7, hg, hf⟩ := bR_inv hf
  refine q_ci (rest := [.int y3]) (ws' := (wX5_bestBuy cI cJ cZ cS a_t a_s a_keptS a_statuses a_pile a_tape a_steps a_wish a_mark a_bitsOf a_sizeOf a_number a_moved v_isKept v_taped v_at v_fault v_laid v_open v_s v_pile v_wish)) (w1 := (wX5_lists cI cJ cZ cS a_t a_s a_keptS a_statuses a_pile a_tape a_steps a_wish a_mark a_bitsOf a_sizeOf a_number a_moved v_isKept v_taped v_at v_fault v_laid v_open v_s)) fx h [0, 1] rfl rfl rfl rfl (q_runV fx h hl.1 [0, 1] rfl rfl (tX5_lists l D cI cJ cZ cS tb a_t a_s a_keptS a_statuses a_pile a_tape a_steps a_wish a_mark a_bitsOf a_sizeOf a_number a_moved H.size v_isKept v_taped v_at v_fault v_laid v_open v_s r7 k7 hg) mvX5_lists k_810 ⟨rfl, rfl⟩ ⟨Nat.le_of_ble_eq_true rfl, Nat.le_of_ble_eq_true rfl⟩ rfl rfl rfl rfl (Nat.le_of_ble_eq_true rfl) dX5_bestBuy_10 ⟨Nat.le_of_ble_eq_true rfl, Nat.le_of_ble_eq_true rfl⟩) (fun H locs h => ?_)
  refine lv_icmp_ge (tgt := 85) hx hb dX5_bestBuy_13 (by decide) (fun c8 => ?_) (fun c8 => ?_)
  · have hf := it_t c8 hf
    refine lv_iload_n hx hb dX5_bestBuy_85 rfl (lv_at hl 2 rfl) ?_
    exact q_reti (fun k : (Nat → Int32) × (Nat → Int32) => (wX5_bestBuy cI cJ cZ cS a_t a_s a_keptS a_statuses a_pile a_tape a_steps a_wish a_mark a_bitsOf a_sizeOf a_number a_moved v_isKept v_taped v_at v_fault v_laid v_open v_s k.1 k.2)) fx hf h dX5_bestBuy_86
  have hf := it_f c8 hf
  refine lv_aload_n hx hb dX5_bestBuy_16 rfl (lv_at hl 0 rfl) ?_
  refine lv_iload_n hx hb dX5_bestBuy_17 rfl (lv_at hl 3 rfl) ?_
  refine lv_sipush (v := 255) hx hb dX5_bestBuy_18 (by decide) ?_
  obtain ⟨r9, k9, hg, hf⟩ := bR_inv hf
  refine q_ci (rest := []) (ws' := (wX5_bestBuy cI cJ cZ cS a_t a_s a_keptS a_statuses a_pile a_tape a_steps a_wish a_mark a_bitsOf a_sizeOf a_number a_moved v_isKept v_taped v_at v_fault v_laid v_open v_s v_pile v_wish)) (w1 := (wX5_lastOf cI cJ cZ cS a_t a_s a_keptS a_statuses a_pile a_tape a_steps a_wish a_mark a_bitsOf a_sizeOf a_number a_moved v_isKept v_taped v_at v_fault v_laid v_open v_wish)) fx h [0, 3] rfl rfl rfl rfl (q_runV fx h hl.1 [0, 3] rfl rfl (tX5_lastOf l D cI cJ cZ cS tb a_t a_s a_keptS a_statuses a_pile a_tape a_steps a_wish a_mark a_bitsOf a_sizeOf a_number a_moved H.size v_isKept v_taped v_at v_fault v_laid v_open v_wish y3 255 r9 k9 hg) mvX5_lastOf k_918 ⟨rfl, rfl⟩ ⟨Nat.le_of_ble_eq_true rfl, Nat.le_of_ble_eq_true rfl⟩ rfl rfl rfl rfl (Nat.le_of_ble_eq_true rfl) dX5_bestBuy_21 ⟨Nat.le_of_ble_eq_true rfl, Nat.le_of_ble_eq_true rfl⟩) (fun H locs h => ?_)
  obtain ⟨r10, k10, hg, hf⟩ := bR_inv hf
  refine q_ci (rest := []) (ws' := (wX5_bestBuy cI cJ cZ cS a_t a_s a_keptS a_statuses a_pile a_tape a_steps a_wish a_mark a_bitsOf a_sizeOf a_number a_moved v_isKept v_taped v_at v_fault v_laid v_open v_s v_pile v_wish)) (w1 := (wX5_ones cI cJ cZ cS)) fx h [] rfl rfl rfl rfl (q_runS fx h hl.1 [] rfl rfl (tX5_ones l D cI cJ cZ cS tb H.size r9 r10 k10 hg) msX5_ones k_722 ⟨rfl, rfl⟩ ⟨Nat.le_of_ble_eq_true rfl, Nat.le_of_ble_eq_true rfl⟩ rfl rfl (Nat.le_of_ble_eq_true rfl) dX5_bestBuy_24 ⟨Nat.le_of_ble_eq_true rfl, Nat.le_of_ble_eq_true rfl⟩) (fun H locs h => ?_)
  refine lv_iload_n hx hb dX5_bestBuy_27 rfl (lv_at hl 1 rfl) ?_
  refine lv_icmp_lt (tgt := 79) hx hb dX5_bestBuy_28 (by decide) (fun c11 => ?_) (fun c11 => ?_)
  · have hf := it_t c11 hf
    exact LX5_bestBuy_79 fx hag8 h (lv_sub hl [0, 1, 2, 3] rfl) hf
  have hf := it_f c11 hf
  refine lv_iload_n hx hb dX5_bestBuy_31 rfl (lv_at hl 2 rfl) ?_
  refine lv_if_ge (tgt := 39) hx hb dX5_bestBuy_32 (by decide) (fun c12 => ?_) (fun c12 => ?_)
  · have hf := it_t c12 hf
    refine lv_aload_n hx hb dX5_bestBuy_39 rfl (lv_at hl 0 rfl) ?_
    refine lv_iload_n hx hb dX5_bestBuy_40 rfl (lv_at hl 3 rfl) ?_
    obtain ⟨r13, k13, hg, hf⟩ := bR_inv hf
    refine q_ci (rest := []) (ws' := (wX5_bestBuy cI cJ cZ cS a_t a_s a_keptS a_statuses a_pile a_tape a_steps a_wish a_mark a_bitsOf a_sizeOf a_number a_moved v_isKept v_taped v_at v_fault v_laid v_open v_s v_pile v_wish)) (w1 := (wX5_costOf cI cJ cZ cS a_t a_s a_keptS a_statuses a_pile a_tape a_steps a_wish a_mark a_bitsOf a_sizeOf a_number a_moved v_isKept v_taped v_at v_fault v_laid v_open v_s)) fx h [0, 1] rfl rfl rfl rfl (q_runV fx h hl.1 [0, 1] rfl rfl (tX5_costOf l D cI cJ cZ cS tb a_t a_s a_keptS a_statuses a_pile a_tape a_steps a_wish a_mark a_bitsOf a_sizeOf a_number a_moved H.size v_isKept v_taped v_at v_fault v_laid v_open v_s y3 r13 k13 hg) mvX5_costOf k_822 ⟨rfl, rfl⟩ ⟨Nat.le_of_ble_eq_true rfl, Nat.le_of_ble_eq_true rfl⟩ rfl rfl rfl rfl (Nat.le_of_ble_eq_true rfl) dX5_bestBuy_41 ⟨Nat.le_of_ble_eq_true rfl, Nat.le_of_ble_eq_true rfl⟩) (fun H locs h => ?_)
    refine lv_aload_n hx hb dX5_bestBuy_44 rfl (lv_at hl 0 rfl) ?_
    refine lv_iload_n hx hb dX5_bestBuy_45 rfl (lv_at hl 2 rfl) ?_
    obtain ⟨r14, k14, hg, hf⟩ := bR_inv hf
    refine q_ci (rest := [.int r13]) (ws' := (wX5_bestBuy cI cJ cZ cS a_t a_s a_keptS a_statuses a_pile a_tape a_steps a_wish a_mark a_bitsOf a_sizeOf a_number a_moved v_isKept v_taped v_at v_fault v_laid v_open v_s v_pile v_wish)) (w1 := (wX5_costOf cI cJ cZ cS a_t a_s a_keptS a_statuses a_pile a_tape a_steps a_wish a_mark a_bitsOf a_sizeOf a_number a_moved v_isKept v_taped v_at v_fault v_laid v_open v_s)) fx h [0, 1] rfl rfl rfl rfl (q_runV fx h hl.1 [0, 1] rfl rfl (tX5_costOf l D cI cJ cZ cS tb a_t a_s a_keptS a_statuses a_pile a_tape a_steps a_wish a_mark a_bitsOf a_sizeOf a_number a_moved H.size v_isKept v_taped v_at v_fault v_laid v_open v_s y2 r14 k14 hg) mvX5_costOf k_822 ⟨rfl, rfl⟩ ⟨Nat.le_of_ble_eq_true rfl, Nat.le_of_ble_eq_true rfl⟩ rfl rfl rfl rfl (Nat.le_of_ble_eq_true rfl) dX5_bestBuy_46 ⟨Nat.le_of_ble_eq_true rfl, Nat.le_of_ble_eq_true rfl⟩) (fun H locs h => ?_)
    refine lv_isub hx hb dX5_bestBuy_49 ?_
    exact LX5_bestBuy_50 fx hag8 h (lv_sub hl [0, 1, 2, 3] rfl) hf
  have hf := it_f c12 hf
  refine lv_iconst (v := -1) hx hb dX5_bestBuy_35 (by decide) ?_
  refine lv_goto (tgt := 50) hx hb dX5_bestBuy_36 (by decide) ?_
  exact LX5_bestBuy_50 fx hag8 h (lv_sub hl [0, 1, 2, 3] rfl) hf
set_option maxRecDepth 100000 in
theorem EX5_bestBuy_8 {p : Program} {l : Launch} {e : Env} {s : State} {m : MethodId} {args : Array Value} {below : List Frame} {meth : Method} {c : Code} {D : va_G} {cI cJ cZ cS : ClassId} {tb : Nat} {A : Nat → Prop} {a_t a_s a_keptS a_statuses a_pile a_tape a_steps a_wish a_mark a_bitsOf a_sizeOf a_number a_moved : Nat} {v_isKept : Int32} {v_taped : Int32} {v_at : Int32} {v_fault : Int32} {v_laid : Int32} {v_open : Int32} {v_s : Nat → Int32} {rr : Int32} {kk' : (Nat → Int32) × (Nat → Int32)} (fx : q_Fx p s m args meth c cX5_bestBuy 5 RX5 (some .int) D cI cJ cZ cS tb A) : ∀ (n : Nat), ∀ {v_pile : Nat → Int32} {v_wish : Nat → Int32} {y1 : Int32} {y2 : Int32} {y3 : Int32} {H : Heap} {locs : List Loc} {ls : Array Slot}, q_H D A s (wX5_bestBuy cI cJ cZ cS a_t a_s a_keptS a_statuses a_pile a_tape a_steps a_wish a_mark a_bitsOf a_sizeOf a_number a_moved v_isKept v_taped v_at v_fault v_laid v_open v_s v_pile v_wish) H locs → lv_has ls 5 [(0, .ref a_t), (1, .int y1), (2, .int y2), (3, .int y3)] → ll5 (fX5_bestBuy_8 v_s) n v_pile v_wish y1 y2 y3 = some (rr, kk') → W p l e rX5_bestBuy s m args below meth c H locs 0 0 (MQ below (q_Ri D rr A ((fun k : (Nat → Int32) × (Nat → Int32) => (wX5_bestBuy cI cJ cZ cS a_t a_s a_keptS a_statuses a_pile a_tape a_steps a_wish a_mark a_bitsOf a_sizeOf a_number a_moved v_isKept v_taped v_at v_fault v_laid v_open v_s k.1 k.2)) kk')) args s 0 0 A) (F0 m 8 ls []) := by
  intro n
  induction n with
  | zero => intro v_pile v_wish y1 y2 y3 H locs ls h hl hf; exact (ll5_z hf).elim
  | succ n ih => intro v_pile v_wish y1 y2 y3 H locs ls h hl hf; exact LX5_bestBuy_8 fx ih h hl (ll5_s hf)
def fX5_bestBuy (v_s : Nat → Int32) (v_pile : Nat → Int32) (v_wish : Nat → Int32) (x1 : Int32) : Option (Int32 × (Nat → Int32) × (Nat → Int32)) :=
  bV (fX5_looksAll v_s v_pile v_wish) (fun k15 =>
  ll5 (fX5_bestBuy_8 v_s) qF k15.1 k15.2 x1 (-1) 0)
set_option maxRecDepth 100000 in
set_option maxHeartbeats 4000000 in
theorem tX5_bestBuy (l : Launch) (D : va_G) (cI cJ cZ cS : ClassId) (tb : Nat) (a_t a_s a_keptS a_statuses a_pile a_tape a_steps a_wish a_mark a_bitsOf a_sizeOf a_number a_moved : Nat) (sz : Nat) (v_isKept : Int32) (v_taped : Int32) (v_at : Int32) (v_fault : Int32) (v_laid : Int32) (v_open : Int32) (v_s : Nat → Int32) (v_pile : Nat → Int32) (v_wish : Nat → Int32) (x1 : Int32) (rr : Int32) (kk' : (Nat → Int32) × (Nat → Int32)) (hf : fX5_bestBuy v_s v_pile v_wish x1 = some (rr, kk')) : Met l yX5_bestBuy (Cond.code yX5_bestBuy cX5_bestBuy 5 (some .int) :: wA) rX5_bestBuy (q_Pre D cI cJ cZ cS tb [.ref a_t, .int x1] sz (wX5_bestBuy cI cJ cZ cS a_t a_s a_keptS a_statuses a_pile a_tape a_steps a_wish a_mark a_bitsOf a_sizeOf a_number a_moved v_isKept v_taped v_at v_fault v_laid v_open v_s v_pile v_wish)) (q_Ri D rr (va_A (wX5_bestBuy cI cJ cZ cS a_t a_s a_keptS a_statuses a_pile a_tape a_steps a_wish a_mark a_bitsOf a_sizeOf a_number a_moved v_isKept v_taped v_at v_fault v_laid v_open v_s v_pile v_wish) sz) ((fun k : (Nat → Int32) × (Nat → Int32) => (wX5_bestBuy cI cJ cZ cS a_t a_s a_keptS a_statuses a_pile a_tape a_steps a_wish a_mark a_bitsOf a_sizeOf a_number a_moved v_isKept v_taped v_at v_fault v_laid v_open v_s k.1 k.2)) kk')) 0 0 (va_A (wX5_bestBuy cI cJ cZ cS a_t a_s a_keptS a_statuses a_pile a_tape a_steps a_wish a_mark a_bitsOf a_sizeOf a_number a_moved v_isKept v_taped v_at v_fault v_laid v_open v_s v_pile v_wish) sz) := by
  refine q_enter (Qf := fun A => (q_Ri D rr A ((fun k : (Nat → Int32) × (Nat → Int32) => (wX5_bestBuy cI cJ cZ cS a_t a_s a_keptS a_statuses a_pile a_tape a_steps a_wish a_mark a_bitsOf a_sizeOf a_number a_moved v_isKept v_taped v_at v_fault v_laid v_open v_s k.1 k.2)) kk'))) (by decide) rfl (Nat.le_of_ble_eq_true rfl) ?_
  intro p e s m below meth c A ls fx hname h hl
  have hx := fx.1
  have hb := fx.2.1
  have hl : lv_has ls 5 [(0, .ref a_t), (1, .int x1)] := hl
  generalize h9 : s.heap = H at h ⊢
  clear h9
  generalize h9 : ([] : List Loc) = locs at h ⊢
  clear h9
  unfold fX5_bestBuy at hf
  refine lv_aload_n hx hb dX5_bestBuy_0 rfl (lv_at hl 0 rfl) ?_
  obtain ⟨k15, hg, hf⟩ := bV_inv hf
  refine q_cv (rest := []) (ws' := (wX5_bestBuy cI cJ cZ cS a_t a_s a_keptS a_statuses a_pile a_tape a_steps a_wish a_mark a_bitsOf a_sizeOf a_number a_moved v_isKept v_taped v_at v_fault v_laid v_open v_s k15.1 k15.2)) (w1 := (wX5_looksAll cI cJ cZ cS a_t a_s a_keptS a_statuses a_pile a_tape a_steps a_wish a_mark a_bitsOf a_sizeOf a_number a_moved v_isKept v_taped v_at v_fault v_laid v_open v_s k15.1 k15.2)) fx h [0, 1, 2, 3] rfl rfl rfl rfl (q_runV fx h hl.1 [0, 1, 2, 3] rfl rfl (tX5_looksAll l D cI cJ cZ cS tb a_t a_s a_keptS a_statuses a_pile a_tape a_steps a_wish a_mark a_bitsOf a_sizeOf a_number a_moved H.size v_isKept v_taped v_at v_fault v_laid v_open v_s v_pile v_wish k15 hg) mvX5_looksAll k_860 ⟨rfl, rfl⟩ ⟨Nat.le_of_ble_eq_true rfl, Nat.le_of_ble_eq_true rfl⟩ rfl rfl rfl rfl (Nat.le_of_ble_eq_true rfl) dX5_bestBuy_1 ⟨Nat.le_of_ble_eq_true rfl, Nat.le_of_ble_eq_true rfl⟩) (fun H locs h => ?_)
  refine lv_iconst (v := -1) hx hb dX5_bestBuy_4 (by decide) ?_
  refine lv_istore_n (lv' := [(2, .int (-1)), (0, .ref a_t), (1, .int x1)]) hx hb dX5_bestBuy_5 rfl hl (by decide) rfl (fun ls hl => ?_)
  refine lv_iconst (v := 0) hx hb dX5_bestBuy_6 (by decide) ?_
  refine lv_istore_n (lv' := [(3, .int 0), (2, .int (-1)), (0, .ref a_t), (1, .int x1)]) hx hb dX5_bestBuy_7 rfl hl (by decide) rfl (fun ls hl => ?_)
  exact EX5_bestBuy_8 fx qF h (lv_sub hl [2, 3, 1, 0] rfl) hf
/-! X5_buys -/
abbrev wX5_buys (cI cJ cZ cS : ClassId) (a_t a_s a_keptS a_statuses a_pile a_tape a_steps a_wish a_mark a_bitsOf a_sizeOf a_number a_moved : Nat) (v_isKept : Int32) (v_taped : Int32) (v_at : Int32) (v_fault : Int32) (v_laid : Int32) (v_open : Int32) (v_s : Nat → Int32) (v_statuses : Nat → Int32) (v_pile : Nat → Int32) (v_wish : Nat → Int32) : va_W := [(a_t, .inr (5, [.ref a_s, .ref a_keptS, .ref a_statuses, .int v_isKept, .ref a_pile, .ref a_tape, .ref a_steps, .int v_taped, .int v_at, .int v_fault, .int v_laid, .int v_open, .ref a_wish, .ref a_mark, .ref a_bitsOf, .ref a_sizeOf, .ref a_number, .ref a_moved])), (a_s, .inl (cI, 538, .inl v_s)), (a_statuses, .inl (cI, 7, .inl v_statuses)), (a_pile, .inl (cZ, 64, .inl v_pile)), (a_wish, .inl (cI, 256, .inl v_wish))]
abbrev rX5_buys : Room := { frames := 7, cells := 0, slots := 0, locals := 161 }
def fX5_buys (v_s : Nat → Int32) (v_statuses : Nat → Int32) (v_pile : Nat → Int32) (v_wish : Nat → Int32) (x1 : Int32) : Option (Int32 × (Nat → Int32) × (Nat → Int32) × (Nat → Int32)) :=
  bR (fX5_in (x1.toInt64) 0 8) (fun r1 k1 =>
  (if r1 = 0 then (
  bR (fX5_finds v_statuses (-1000000001)) (fun r3 k3 =>
  some (r3, (k3, v_pile, v_wish))))
  else (
  bR (fX5_bestBuy v_s v_pile v_wish x1) (fun r4 k4 =>
  bR (fX5_orNone v_statuses r4) (fun r5 k5 =>
  some (r5, (k5, k4.1, k4.2)))))))
set_option maxRecDepth 100000 in
set_option maxHeartbeats 4000000 in
theorem tX5_buys (l : Launch) (D : va_G) (cI cJ cZ cS : ClassId) (tb : Nat) (a_t a_s a_keptS a_statuses a_pile a_tape a_steps a_wish a_mark a_bitsOf a_sizeOf a_number a_moved : Nat) (sz : Nat) (v_isKept : Int32) (v_taped : Int32) (v_at : Int32) (v_fault : Int32) (v_laid : Int32) (v_open : Int32) (v_s : Nat → Int32) (v_statuses : Nat → Int32) (v_pile : Nat → Int32) (v_wish : Nat → Int32) (x1 : Int32) (rr : Int32) (kk' : (Nat → Int32) × (Nat → Int32) × (Nat → Int32)) (hf : fX5_buys v_s v_statuses v_pile v_wish x1 = some (rr, kk')) : Met l yX5_buys (Cond.code yX5_buys cX5_buys 2 (some .int) :: wA) rX5_buys (q_Pre D cI cJ cZ cS tb [.ref a_t, .int x1] sz (wX5_buys cI cJ cZ cS a_t a_s a_keptS a_statuses a_pile a_tape a_steps a_wish a_mark a_bitsOf a_sizeOf a_number a_moved v_isKept v_taped v_at v_fault v_laid v_open v_s v_statuses v_pile v_wish)) (q_Ri D rr (va_A (wX5_buys cI cJ cZ cS a_t a_s a_keptS a_statuses a_pile a_tape a_steps a_wish a_mark a_bitsOf a_sizeOf a_number a_moved v_isKept v_taped v_at v_fault v_laid v_open v_s v_statuses v_pile v_wish) sz) ((fun k : (Nat → Int32) × (Nat → Int32) × (Nat → Int32) => (wX5_buys cI cJ cZ cS a_t a_s a_keptS a_statuses a_pile a_tape a_steps a_wish a_mark a_bitsOf a_sizeOf a_number a_moved v_isKept v_taped v_at v_fault v_laid v_open v_s k.1 k.2.1 k.2.2)) kk')) 0 0 (va_A (wX5_buys cI cJ cZ cS a_t a_s a_keptS a_statuses a_pile a_tape a_steps a_wish a_mark a_bitsOf a_sizeOf a_number a_moved v_isKept v_taped v_at v_fault v_laid v_open v_s v_statuses v_pile v_wish) sz) := by
  refine q_enter (Qf := fun A => (q_Ri D rr A ((fun k : (Nat → Int32) × (Nat → Int32) × (Nat → Int32) => (wX5_buys cI cJ cZ cS a_t a_s a_keptS a_statuses a_pile a_tape a_steps a_wish a_mark a_bitsOf a_sizeOf a_number a_moved v_isKept v_taped v_at v_fault v_laid v_open v_s k.1 k.2.1 k.2.2)) kk'))) (by decide) rfl (Nat.le_of_ble_eq_true rfl) ?_
  intro p e s m below meth c A ls fx hname h hl
  have hx := fx.1
  have hb := fx.2.1
  have hl : lv_has ls 2 [(0, .ref a_t), (1, .int x1)] := hl
  generalize h9 : s.heap = H at h ⊢
  clear h9
  generalize h9 : ([] : List Loc) = locs at h ⊢
  clear h9
  unfold fX5_buys at hf
  refine lv_iload_n hx hb dX5_buys_0 rfl (lv_at hl 1 rfl) ?_
  refine lv_i2l hx hb dX5_buys_1 rfl ?_
  refine lv_lconst (v := 0) hx hb dX5_buys_2 (by decide) ?_
  refine q_ldc2 fx k_926 dX5_buys_3 ?_
  obtain ⟨r1, k1, hg, hf⟩ := bR_inv hf
  refine q_ci (rest := []) (ws' := (wX5_buys cI cJ cZ cS a_t a_s a_keptS a_statuses a_pile a_tape a_steps a_wish a_mark a_bitsOf a_sizeOf a_number a_moved v_isKept v_taped v_at v_fault v_laid v_open v_s v_statuses v_pile v_wish)) (w1 := (wX5_in cI cJ cZ cS)) fx h [] rfl rfl rfl rfl (q_runS fx h hl.1 [] rfl rfl (tX5_in l D cI cJ cZ cS tb H.size (x1.toInt64) 0 8 r1 k1 hg) msX5_in k_697 ⟨rfl, rfl⟩ ⟨Nat.le_of_ble_eq_true rfl, Nat.le_of_ble_eq_true rfl⟩ rfl rfl (Nat.le_of_ble_eq_true rfl) dX5_buys_6 ⟨Nat.le_of_ble_eq_true rfl, Nat.le_of_ble_eq_true rfl⟩) (fun H locs h => ?_)
  refine lv_if_eq (tgt := 24) hx hb dX5_buys_9 (by decide) (fun c2 => ?_) (fun c2 => ?_)
  · have hf := it_t c2 hf
    refine lv_aload_n hx hb dX5_buys_24 rfl (lv_at hl 0 rfl) ?_
    refine q_ldc fx k_701 dX5_buys_25 ?_
    obtain ⟨r3, k3, hg, hf⟩ := bR_inv hf
    refine q_ci (rest := []) (ws' := (wX5_buys cI cJ cZ cS a_t a_s a_keptS a_statuses a_pile a_tape a_steps a_wish a_mark a_bitsOf a_sizeOf a_number a_moved v_isKept v_taped v_at v_fault v_laid v_open v_s k3 v_pile v_wish)) (w1 := (wX5_finds cI cJ cZ cS a_t a_s a_keptS a_statuses a_pile a_tape a_steps a_wish a_mark a_bitsOf a_sizeOf a_number a_moved v_isKept v_taped v_at v_fault v_laid v_open k3)) fx h [0, 2] rfl rfl rfl rfl (q_runV fx h hl.1 [0, 2] rfl rfl (tX5_finds l D cI cJ cZ cS tb a_t a_s a_keptS a_statuses a_pile a_tape a_steps a_wish a_mark a_bitsOf a_sizeOf a_number a_moved H.size v_isKept v_taped v_at v_fault v_laid v_open v_statuses (-1000000001) r3 k3 hg) mvX5_finds k_702 ⟨rfl, rfl⟩ ⟨Nat.le_of_ble_eq_true rfl, Nat.le_of_ble_eq_true rfl⟩ rfl rfl rfl rfl (Nat.le_of_ble_eq_true rfl) dX5_buys_27 ⟨Nat.le_of_ble_eq_true rfl, Nat.le_of_ble_eq_true rfl⟩) (fun H locs h => ?_)
    exact q_reti (fun k : (Nat → Int32) × (Nat → Int32) × (Nat → Int32) => (wX5_buys cI cJ cZ cS a_t a_s a_keptS a_statuses a_pile a_tape a_steps a_wish a_mark a_bitsOf a_sizeOf a_number a_moved v_isKept v_taped v_at v_fault v_laid v_open v_s k.1 k.2.1 k.2.2)) fx hf h dX5_buys_30
  have hf := it_f c2 hf
  refine lv_aload_n hx hb dX5_buys_12 rfl (lv_at hl 0 rfl) ?_
  refine lv_aload_n hx hb dX5_buys_13 rfl (lv_at hl 0 rfl) ?_
  refine lv_iload_n hx hb dX5_buys_14 rfl (lv_at hl 1 rfl) ?_
  obtain ⟨r4, k4, hg, hf⟩ := bR_inv hf
  refine q_ci (rest := [.ref a_t]) (ws' := (wX5_buys cI cJ cZ cS a_t a_s a_keptS a_statuses a_pile a_tape a_steps a_wish a_mark a_bitsOf a_sizeOf a_number a_moved v_isKept v_taped v_at v_fault v_laid v_open v_s v_statuses k4.1 k4.2)) (w1 := (wX5_bestBuy cI cJ cZ cS a_t a_s a_keptS a_statuses a_pile a_tape a_steps a_wish a_mark a_bitsOf a_sizeOf a_number a_moved v_isKept v_taped v_at v_fault v_laid v_open v_s k4.1 k4.2)) fx h [0, 1, 3, 4] rfl rfl rfl rfl (q_runV fx h hl.1 [0, 1, 3, 4] rfl rfl (tX5_bestBuy l D cI cJ cZ cS tb a_t a_s a_keptS a_statuses a_pile a_tape a_steps a_wish a_mark a_bitsOf a_sizeOf a_number a_moved H.size v_isKept v_taped v_at v_fault v_laid v_open v_s v_pile v_wish x1 r4 k4 hg) mvX5_bestBuy k_927 ⟨rfl, rfl⟩ ⟨Nat.le_of_ble_eq_true rfl, Nat.le_of_ble_eq_true rfl⟩ rfl rfl rfl rfl (Nat.le_of_ble_eq_true rfl) dX5_buys_15 ⟨Nat.le_of_ble_eq_true rfl, Nat.le_of_ble_eq_true rfl⟩) (fun H locs h => ?_)
  obtain ⟨r5, k5, hg, hf⟩ := bR_inv hf
  refine q_ci (rest := []) (ws' := (wX5_buys cI cJ cZ cS a_t a_s a_keptS a_statuses a_pile a_tape a_steps a_wish a_mark a_bitsOf a_sizeOf a_number a_moved v_isKept v_taped v_at v_fault v_laid v_open v_s k5 k4.1 k4.2)) (w1 := (wX5_orNone cI cJ cZ cS a_t a_s a_keptS a_statuses a_pile a_tape a_steps a_wish a_mark a_bitsOf a_sizeOf a_number a_moved v_isKept v_taped v_at v_fault v_laid v_open k5)) fx h [0, 2] rfl rfl rfl rfl (q_runV fx h hl.1 [0, 2] rfl rfl (tX5_orNone l D cI cJ cZ cS tb a_t a_s a_keptS a_statuses a_pile a_tape a_steps a_wish a_mark a_bitsOf a_sizeOf a_number a_moved H.size v_isKept v_taped v_at v_fault v_laid v_open v_statuses r4 r5 k5 hg) mvX5_orNone k_877 ⟨rfl, rfl⟩ ⟨Nat.le_of_ble_eq_true rfl, Nat.le_of_ble_eq_true rfl⟩ rfl rfl rfl rfl (Nat.le_of_ble_eq_true rfl) dX5_buys_18 ⟨Nat.le_of_ble_eq_true rfl, Nat.le_of_ble_eq_true rfl⟩) (fun H locs h => ?_)
  refine lv_goto (tgt := 30) hx hb dX5_buys_21 (by decide) ?_
  exact q_reti (fun k : (Nat → Int32) × (Nat → Int32) × (Nat → Int32) => (wX5_buys cI cJ cZ cS a_t a_s a_keptS a_statuses a_pile a_tape a_steps a_wish a_mark a_bitsOf a_sizeOf a_number a_moved v_isKept v_taped v_at v_fault v_laid v_open v_s k.1 k.2.1 k.2.2)) fx hf h dX5_buys_30
/-! X5_price -/
abbrev wX5_price (cI cJ cZ cS : ClassId) (a_t a_s a_keptS a_statuses a_pile a_tape a_steps a_wish a_mark a_bitsOf a_sizeOf a_number a_moved : Nat) (v_isKept : Int32) (v_taped : Int32) (v_at : Int32) (v_fault : Int32) (v_laid : Int32) (v_open : Int32) (v_s : Nat → Int32) (v_statuses : Nat → Int32) (v_pile : Nat → Int32) (v_wish : Nat → Int32) : va_W := [(a_t, .inr (5, [.ref a_s, .ref a_keptS, .ref a_statuses, .int v_isKept, .ref a_pile, .ref a_tape, .ref a_steps, .int v_taped, .int v_at, .int v_fault, .int v_laid, .int v_open, .ref a_wish, .ref a_mark, .ref a_bitsOf, .ref a_sizeOf, .ref a_number, .ref a_moved])), (a_s, .inl (cI, 538, .inl v_s)), (a_statuses, .inl (cI, 7, .inl v_statuses)), (a_pile, .inl (cZ, 64, .inl v_pile)), (a_wish, .inl (cI, 256, .inl v_wish))]
abbrev rX5_price : Room := { frames := 7, cells := 0, slots := 0, locals := 161 }
def fX5_price (v_s : Nat → Int32) (v_statuses : Nat → Int32) (v_pile : Nat → Int32) (v_wish : Nat → Int32) (x1 : Int32) : Option (Int32 × (Nat → Int32) × (Nat → Int32) × (Nat → Int32)) :=
  bR (fX5_in (x1.toInt64) 0 8) (fun r1 k1 =>
  (if r1 = 0 then (
  bR (fX5_finds v_statuses (-1000000001)) (fun r7 k7 =>
  some (r7, (k7, v_pile, v_wish))))
  else (
  bR (fX5_bestBuy v_s v_pile v_wish x1) (fun r3 k3 =>
  (if (0 : Int32) ≤ r3 then (
  bR (fX5_costOf v_s r3) (fun r5 k5 =>
  some (r5, (v_statuses, k3.1, k3.2))))
  else (
  bR (fX5_finds v_statuses (-1000000004)) (fun r6 k6 =>
  some (r6, (k6, k3.1, k3.2)))))))))
set_option maxRecDepth 100000 in
set_option maxHeartbeats 4000000 in
theorem tX5_price (l : Launch) (D : va_G) (cI cJ cZ cS : ClassId) (tb : Nat) (a_t a_s a_keptS a_statuses a_pile a_tape a_steps a_wish a_mark a_bitsOf a_sizeOf a_number a_moved : Nat) (sz : Nat) (v_isKept : Int32) (v_taped : Int32) (v_at : Int32) (v_fault : Int32) (v_laid : Int32) (v_open : Int32) (v_s : Nat → Int32) (v_statuses : Nat → Int32) (v_pile : Nat → Int32) (v_wish : Nat → Int32) (x1 : Int32) (rr : Int32) (kk' : (Nat → Int32) × (Nat → Int32) × (Nat → Int32)) (hf : fX5_price v_s v_statuses v_pile v_wish x1 = some (rr, kk')) : Met l yX5_price (Cond.code yX5_price cX5_price 3 (some .int) :: wA) rX5_price (q_Pre D cI cJ cZ cS tb [.ref a_t, .int x1] sz (wX5_price cI cJ cZ cS a_t a_s a_keptS a_statuses a_pile a_tape a_steps a_wish a_mark a_bitsOf a_sizeOf a_number a_moved v_isKept v_taped v_at v_fault v_laid v_open v_s v_statuses v_pile v_wish)) (q_Ri D rr (va_A (wX5_price cI cJ cZ cS a_t a_s a_keptS a_statuses a_pile a_tape a_steps a_wish a_mark a_bitsOf a_sizeOf a_number a_moved v_isKept v_taped v_at v_fault v_laid v_open v_s v_statuses v_pile v_wish) sz) ((fun k : (Nat → Int32) × (Nat → Int32) × (Nat → Int32) => (wX5_price cI cJ cZ cS a_t a_s a_keptS a_statuses a_pile a_tape a_steps a_wish a_mark a_bitsOf a_sizeOf a_number a_moved v_isKept v_taped v_at v_fault v_laid v_open v_s k.1 k.2.1 k.2.2)) kk')) 0 0 (va_A (wX5_price cI cJ cZ cS a_t a_s a_keptS a_statuses a_pile a_tape a_steps a_wish a_mark a_bitsOf a_sizeOf a_number a_moved v_isKept v_taped v_at v_fault v_laid v_open v_s v_statuses v_pile v_wish) sz) := by
  refine q_enter (Qf := fun A => (q_Ri D rr A ((fun k : (Nat → Int32) × (Nat → Int32) × (Nat → Int32) => (wX5_price cI cJ cZ cS a_t a_s a_keptS a_statuses a_pile a_tape a_steps a_wish a_mark a_bitsOf a_sizeOf a_number a_moved v_isKept v_taped v_at v_fault v_laid v_open v_s k.1 k.2.1 k.2.2)) kk'))) (by decide) rfl (Nat.le_of_ble_eq_true rfl) ?_
  intro p e s m below meth c A ls fx hname h hl
  have hx := fx.1
  have hb := fx.2.1
  have hl : lv_has ls 3 [(0, .ref a_t), (1, .int x1)] := hl
  generalize h9 : s.heap = H at h ⊢
  clear h9
  generalize h9 : ([] : List Loc) = locs at h ⊢
  clear h9
  unfold fX5_price at hf
  refine lv_iload_n hx hb dX5_price_0 rfl (lv_at hl 1 rfl) ?_
  refine lv_i2l hx hb dX5_price_1 rfl ?_
  refine lv_lconst (v := 0) hx hb dX5_price_2 (by decide) ?_
  refine q_ldc2 fx k_926 dX5_price_3 ?_
  obtain ⟨r1, k1, hg, hf⟩ := bR_inv hf
  refine q_ci (rest := []) (ws' := (wX5_price cI cJ cZ cS a_t a_s a_keptS a_statuses a_pile a_tape a_steps a_wish a_mark a_bitsOf a_sizeOf a_number a_moved v_isKept v_taped v_at v_fault v_laid v_open v_s v_statuses v_pile v_wish)) (w1 := (wX5_in cI cJ cZ cS)) fx h [] rfl rfl rfl rfl (q_runS fx h hl.1 [] rfl rfl (tX5_in l D cI cJ cZ cS tb H.size (x1.toInt64) 0 8 r1 k1 hg) msX5_in k_697 ⟨rfl, rfl⟩ ⟨Nat.le_of_ble_eq_true rfl, Nat.le_of_ble_eq_true rfl⟩ rfl rfl (Nat.le_of_ble_eq_true rfl) dX5_price_6 ⟨Nat.le_of_ble_eq_true rfl, Nat.le_of_ble_eq_true rfl⟩) (fun H locs h => ?_)
  refine lv_if_ne (tgt := 19) hx hb dX5_price_9 (by decide) (fun c2 => ?_) (fun c2 => ?_)
  · have hf := it_f c2 hf
    refine lv_aload_n hx hb dX5_price_19 rfl (lv_at hl 0 rfl) ?_
    refine lv_iload_n hx hb dX5_price_20 rfl (lv_at hl 1 rfl) ?_
    obtain ⟨r3, k3, hg, hf⟩ := bR_inv hf
    refine q_ci (rest := []) (ws' := (wX5_price cI cJ cZ cS a_t a_s a_keptS a_statuses a_pile a_tape a_steps a_wish a_mark a_bitsOf a_sizeOf a_number a_moved v_isKept v_taped v_at v_fault v_laid v_open v_s v_statuses k3.1 k3.2)) (w1 := (wX5_bestBuy cI cJ cZ cS a_t a_s a_keptS a_statuses a_pile a_tape a_steps a_wish a_mark a_bitsOf a_sizeOf a_number a_moved v_isKept v_taped v_at v_fault v_laid v_open v_s k3.1 k3.2)) fx h [0, 1, 3, 4] rfl rfl rfl rfl (q_runV fx h hl.1 [0, 1, 3, 4] rfl rfl (tX5_bestBuy l D cI cJ cZ cS tb a_t a_s a_keptS a_statuses a_pile a_tape a_steps a_wish a_mark a_bitsOf a_sizeOf a_number a_moved H.size v_isKept v_taped v_at v_fault v_laid v_open v_s v_pile v_wish x1 r3 k3 hg) mvX5_bestBuy k_927 ⟨rfl, rfl⟩ ⟨Nat.le_of_ble_eq_true rfl, Nat.le_of_ble_eq_true rfl⟩ rfl rfl rfl rfl (Nat.le_of_ble_eq_true rfl) dX5_price_21 ⟨Nat.le_of_ble_eq_true rfl, Nat.le_of_ble_eq_true rfl⟩) (fun H locs h => ?_)
    refine lv_istore_n (lv' := [(2, .int r3), (0, .ref a_t), (1, .int x1)]) hx hb dX5_price_24 rfl hl (by decide) rfl (fun ls hl => ?_)
    refine lv_iload_n hx hb dX5_price_25 rfl (lv_at hl 0 rfl) ?_
    refine lv_if_ge (tgt := 38) hx hb dX5_price_26 (by decide) (fun c4 => ?_) (fun c4 => ?_)
    · have hf := it_t c4 hf
      refine lv_aload_n hx hb dX5_price_38 rfl (lv_at hl 1 rfl) ?_
      refine lv_iload_n hx hb dX5_price_39 rfl (lv_at hl 0 rfl) ?_
      obtain ⟨r5, k5, hg, hf⟩ := bR_inv hf
      refine q_ci (rest := []) (ws' := (wX5_price cI cJ cZ cS a_t a_s a_keptS a_statuses a_pile a_tape a_steps a_wish a_mark a_bitsOf a_sizeOf a_number a_moved v_isKept v_taped v_at v_fault v_laid v_open v_s v_statuses k3.1 k3.2)) (w1 := (wX5_costOf cI cJ cZ cS a_t a_s a_keptS a_statuses a_pile a_tape a_steps a_wish a_mark a_bitsOf a_sizeOf a_number a_moved v_isKept v_taped v_at v_fault v_laid v_open v_s)) fx h [0, 1] rfl rfl rfl rfl (q_runV fx h hl.1 [0, 1] rfl rfl (tX5_costOf l D cI cJ cZ cS tb a_t a_s a_keptS a_statuses a_pile a_tape a_steps a_wish a_mark a_bitsOf a_sizeOf a_number a_moved H.size v_isKept v_taped v_at v_fault v_laid v_open v_s r3 r5 k5 hg) mvX5_costOf k_822 ⟨rfl, rfl⟩ ⟨Nat.le_of_ble_eq_true rfl, Nat.le_of_ble_eq_true rfl⟩ rfl rfl rfl rfl (Nat.le_of_ble_eq_true rfl) dX5_price_40 ⟨Nat.le_of_ble_eq_true rfl, Nat.le_of_ble_eq_true rfl⟩) (fun H locs h => ?_)
      exact q_reti (fun k : (Nat → Int32) × (Nat → Int32) × (Nat → Int32) => (wX5_price cI cJ cZ cS a_t a_s a_keptS a_statuses a_pile a_tape a_steps a_wish a_mark a_bitsOf a_sizeOf a_number a_moved v_isKept v_taped v_at v_fault v_laid v_open v_s k.1 k.2.1 k.2.2)) fx hf h dX5_price_43
    have hf := it_f c4 hf
    refine lv_aload_n hx hb dX5_price_29 rfl (lv_at hl 1 rfl) ?_
    refine q_ldc fx k_864 dX5_price_30 ?_
    obtain ⟨r6, k6, hg, hf⟩ := bR_inv hf
    refine q_ci (rest := []) (ws' := (wX5_price cI cJ cZ cS a_t a_s a_keptS a_statuses a_pile a_tape a_steps a_wish a_mark a_bitsOf a_sizeOf a_number a_moved v_isKept v_taped v_at v_fault v_laid v_open v_s k6 k3.1 k3.2)) (w1 := (wX5_finds cI cJ cZ cS a_t a_s a_keptS a_statuses a_pile a_tape a_steps a_wish a_mark a_bitsOf a_sizeOf a_number a_moved v_isKept v_taped v_at v_fault v_laid v_open k6)) fx h [0, 2] rfl rfl rfl rfl (q_runV fx h hl.1 [0, 2] rfl rfl (tX5_finds l D cI cJ cZ cS tb a_t a_s a_keptS a_statuses a_pile a_tape a_steps a_wish a_mark a_bitsOf a_sizeOf a_number a_moved H.size v_isKept v_taped v_at v_fault v_laid v_open v_statuses (-1000000004) r6 k6 hg) mvX5_finds k_702 ⟨rfl, rfl⟩ ⟨Nat.le_of_ble_eq_true rfl, Nat.le_of_ble_eq_true rfl⟩ rfl rfl rfl rfl (Nat.le_of_ble_eq_true rfl) dX5_price_32 ⟨Nat.le_of_ble_eq_true rfl, Nat.le_of_ble_eq_true rfl⟩) (fun H locs h => ?_)
    refine lv_goto (tgt := 43) hx hb dX5_price_35 (by decide) ?_
    exact q_reti (fun k : (Nat → Int32) × (Nat → Int32) × (Nat → Int32) => (wX5_price cI cJ cZ cS a_t a_s a_keptS a_statuses a_pile a_tape a_steps a_wish a_mark a_bitsOf a_sizeOf a_number a_moved v_isKept v_taped v_at v_fault v_laid v_open v_s k.1 k.2.1 k.2.2)) fx hf h dX5_price_43
  have hf := it_t c2 hf
  refine lv_aload_n hx hb dX5_price_12 rfl (lv_at hl 0 rfl) ?_
  refine q_ldc fx k_701 dX5_price_13 ?_
  obtain ⟨r7, k7, hg, hf⟩ := bR_inv hf
  refine q_ci (rest := []) (ws' := (wX5_price cI cJ cZ cS a_t a_s a_keptS a_statuses a_pile a_tape a_steps a_wish a_mark a_bitsOf a_sizeOf a_number a_moved v_isKept v_taped v_at v_fault v_laid v_open v_s k7 v_pile v_wish)) (w1 := (wX5_finds cI cJ cZ cS a_t a_s a_keptS a_statuses a_pile a_tape a_steps a_wish a_mark a_bitsOf a_sizeOf a_number a_moved v_isKept v_taped v_at v_fault v_laid v_open k7)) fx h [0, 2] rfl rfl rfl rfl (q_runV fx h hl.1 [0, 2] rfl rfl (tX5_finds l D cI cJ cZ cS tb a_t a_s a_keptS a_statuses a_pile a_tape a_steps a_wish a_mark a_bitsOf a_sizeOf a_number a_moved H.size v_isKept v_taped v_at v_fault v_laid v_open v_statuses (-1000000001) r7 k7 hg) mvX5_finds k_702 ⟨rfl, rfl⟩ ⟨Nat.le_of_ble_eq_true rfl, Nat.le_of_ble_eq_true rfl⟩ rfl rfl rfl rfl (Nat.le_of_ble_eq_true rfl) dX5_price_15 ⟨Nat.le_of_ble_eq_true rfl, Nat.le_of_ble_eq_true rfl⟩) (fun H locs h => ?_)
  exact q_reti (fun k : (Nat → Int32) × (Nat → Int32) × (Nat → Int32) => (wX5_price cI cJ cZ cS a_t a_s a_keptS a_statuses a_pile a_tape a_steps a_wish a_mark a_bitsOf a_sizeOf a_number a_moved v_isKept v_taped v_at v_fault v_laid v_open v_s k.1 k.2.1 k.2.2)) fx hf h dX5_price_18
/-! X5_spoils -/
abbrev wX5_spoils (cI cJ cZ cS : ClassId) (a_t a_s a_keptS a_statuses a_pile a_tape a_steps a_wish a_mark a_bitsOf a_sizeOf a_number a_moved : Nat) (v_isKept : Int32) (v_taped : Int32) (v_at : Int32) (v_fault : Int32) (v_laid : Int32) (v_open : Int32) (v_s : Nat → Int32) (v_statuses : Nat → Int32) (v_pile : Nat → Int32) (v_wish : Nat → Int32) : va_W := [(a_t, .inr (5, [.ref a_s, .ref a_keptS, .ref a_statuses, .int v_isKept, .ref a_pile, .ref a_tape, .ref a_steps, .int v_taped, .int v_at, .int v_fault, .int v_laid, .int v_open, .ref a_wish, .ref a_mark, .ref a_bitsOf, .ref a_sizeOf, .ref a_number, .ref a_moved])), (a_s, .inl (cI, 538, .inl v_s)), (a_statuses, .inl (cI, 7, .inl v_statuses)), (a_pile, .inl (cZ, 64, .inl v_pile)), (a_wish, .inl (cI, 256, .inl v_wish))]
abbrev rX5_spoils : Room := { frames := 6, cells := 0, slots := 0, locals := 137 }
def fX5_spoils_64 (v_s : Nat → Int32) (ag11 : (Nat → Int32) → (Nat → Int32) → (Nat → Int32) → Int32 → Int32 → Int32 → Option (Int32 × (Nat → Int32) × (Nat → Int32) × (Nat → Int32))) (v_statuses : Nat → Int32) (v_pile : Nat → Int32) (v_wish : Nat → Int32) (s0 : Int32) (y1 : Int32) (y3 : Int32) : Option (Int32 × (Nat → Int32) × (Nat → Int32) × (Nat → Int32)) :=
  nm (y3 + 1) (fun u1 =>
  ag11 v_statuses v_pile v_wish y1 s0 u1)
set_option maxRecDepth 100000 in
set_option maxHeartbeats 4000000 in
theorem LX5_spoils_64 {p : Program} {l : Launch} {e : Env} {s : State} {m : MethodId} {args : Array Value} {below : List Frame} {meth : Method} {c : Code} {D : va_G} {cI cJ cZ cS : ClassId} {tb : Nat} {A : Nat → Prop} {a_t a_s a_keptS a_statuses a_pile a_tape a_steps a_wish a_mark a_bitsOf a_sizeOf a_number a_moved : Nat} {v_isKept : Int32} {v_taped : Int32} {v_at : Int32} {v_fault : Int32} {v_laid : Int32} {v_open : Int32} {v_s : Nat → Int32} {rr : Int32} {kk' : (Nat → Int32) × (Nat → Int32) × (Nat → Int32)} (fx : q_Fx p s m args meth c cX5_spoils 5 RX5 (some .int) D cI cJ cZ cS tb A) {ag11 : (Nat → Int32) → (Nat → Int32) → (Nat → Int32) → Int32 → Int32 → Int32 → Option (Int32 × (Nat → Int32) × (Nat → Int32) × (Nat → Int32))} (hag11 : ∀ {v_statuses : Nat → Int32} {v_pile : Nat → Int32} {v_wish : Nat → Int32} {y1 : Int32} {y2 : Int32} {y3 : Int32} {H : Heap} {locs : List Loc} {ls : Array Slot}, q_H D A s (wX5_spoils cI cJ cZ cS a_t a_s a_keptS a_statuses a_pile a_tape a_steps a_wish a_mark a_bitsOf a_sizeOf a_number a_moved v_isKept v_taped v_at v_fault v_laid v_open v_s v_statuses v_pile v_wish) H locs → lv_has ls 5 [(0, .ref a_t), (1, .int y1), (2, .int y2), (3, .int y3)] → ag11 v_statuses v_pile v_wish y1 y2 y3 = some (rr, kk') → W p l e rX5_spoils s m args below meth c H locs 0 0 (MQ below (q_Ri D rr A ((fun k : (Nat → Int32) × (Nat → Int32) × (Nat → Int32) => (wX5_spoils cI cJ cZ cS a_t a_s a_keptS a_statuses a_pile a_tape a_steps a_wish a_mark a_bitsOf a_sizeOf a_number a_moved v_isKept v_taped v_at v_fault v_laid v_open v_s k.1 k.2.1 k.2.2)) kk')) args s 0 0 A) (F0 m 11 ls [])) : ∀ {v_statuses : Nat → Int32} {v_pile : Nat → Int32} {v_wish : Nat → Int32} {s0 : Int32} {y1 : Int32} {y3 : Int32} {H : Heap} {locs : List Loc} {ls : Array Slot}, q_H D A s (wX5_spoils cI cJ cZ cS a_t a_s a_keptS a_statuses a_pile a_tape a_steps a_wish a_mark a_bitsOf a_sizeOf a_number a_moved v_isKept v_taped v_at v_fault v_laid v_open v_s v_statuses v_pile v_wish) H locs → lv_has ls 5 [(0, .ref a_t), (1, .int y1), (3, .int y3)] → fX5_spoils_64 v_s ag11 v_statuses v_pile v_wish s0 y1 y3 = some (rr, kk') → W p l e rX5_spoils s m args below meth c H locs 0 0 (MQ below (q_Ri D rr A ((fun k : (Nat → Int32) × (Nat → Int32) × (Nat → Int32) => (wX5_spoils cI cJ cZ cS a_t a_s a_keptS a_statuses a_pile a_tape a_steps a_wish a_mark a_bitsOf a_sizeOf a_number a_moved v_isKept v_taped v_at v_fault v_laid v_open v_s k.1 k.2.1 k.2.2)) kk')) args s 0 0 A) (F0 m 64 ls [.int s0]) := by
  intro v_statuses v_pile v_wish s0 y1 y3 H locs ls h hl hf
  have hx := fx.1
  have hb := fx.2.1
  unfold fX5_spoils_64 at hf
  refine lv_istore_n (lv' := [(2, .int s0), (0, .ref a_t), (1, .int y1), (3, .int y3)]) hx hb dX5_spoils_64 rfl hl (by decide) rfl (fun ls hl => ?_)
  obtain ⟨u1, eu1, hf⟩ := nm_inv hf
  refine lv_iinc (v := u1) (lv' := [(3, .int u1), (2, .int s0), (0, .ref a_t), (1, .int y1)]) hx hb dX5_spoils_65 hl (k := 3) rfl (by rw [eu1]; rfl) (by decide) rfl (fun ls hl => ?_)
  refine lv_goto (tgt := 11) hx hb dX5_spoils_68 (by decide) ?_
  exact hag11 h (lv_sub hl [2, 3, 1, 0] rfl) hf
def fX5_spoils_51 (v_s : Nat → Int32) (ag11 : (Nat → Int32) → (Nat → Int32) → (Nat → Int32) → Int32 → Int32 → Int32 → Option (Int32 × (Nat → Int32) × (Nat → Int32) × (Nat → Int32))) (v_statuses : Nat → Int32) (v_pile : Nat → Int32) (v_wish : Nat → Int32) (s0 : Int32) (y2 : Int32) (y3 : Int32) (y4 : Int32) : Option (Int32 × (Nat → Int32) × (Nat → Int32) × (Nat → Int32)) :=
  (if y2 ≤ y4 then (
  fX5_spoils_64 v_s ag11 v_statuses v_pile v_wish y2 s0 y3)
  else (
  fX5_spoils_64 v_s ag11 v_statuses v_pile v_wish y4 s0 y3))
set_option maxRecDepth 100000 in
set_option maxHeartbeats 4000000 in
theorem LX5_spoils_51 {p : Program} {l : Launch} {e : Env} {s : State} {m : MethodId} {args : Array Value} {below : List Frame} {meth : Method} {c : Code} {D : va_G} {cI cJ cZ cS : ClassId} {tb : Nat} {A : Nat → Prop} {a_t a_s a_keptS a_statuses a_pile a_tape a_steps a_wish a_mark a_bitsOf a_sizeOf a_number a_moved : Nat} {v_isKept : Int32} {v_taped : Int32} {v_at : Int32} {v_fault : Int32} {v_laid : Int32} {v_open : Int32} {v_s : Nat → Int32} {rr : Int32} {kk' : (Nat → Int32) × (Nat → Int32) × (Nat → Int32)} (fx : q_Fx p s m args meth c cX5_spoils 5 RX5 (some .int) D cI cJ cZ cS tb A) {ag11 : (Nat → Int32) → (Nat → Int32) → (Nat → Int32) → Int32 → Int32 → Int32 → Option (Int32 × (Nat → Int32) × (Nat → Int32) × (Nat → Int32))} (hag11 : ∀ {v_statuses : Nat → Int32} {v_pile : Nat → Int32} {v_wish : Nat → Int32} {y1 : Int32} {y2 : Int32} {y3 : Int32} {H : Heap} {locs : List Loc} {ls : Array Slot}, q_H D A s (wX5_spoils cI cJ cZ cS a_t a_s a_keptS a_statuses a_pile a_tape a_steps a_wish a_mark a_bitsOf a_sizeOf a_number a_moved v_isKept v_taped v_at v_fault v_laid v_open v_s v_statuses v_pile v_wish) H locs → lv_has ls 5 [(0, .ref a_t), (1, .int y1), (2, .int y2), (3, .int y3)] → ag11 v_statuses v_pile v_wish y1 y2 y3 = some (rr, kk') → W p l e rX5_spoils s m args below meth c H locs 0 0 (MQ below (q_Ri D rr A ((fun k : (Nat → Int32) × (Nat → Int32) × (Nat → Int32) => (wX5_spoils cI cJ cZ cS a_t a_s a_keptS a_statuses a_pile a_tape a_steps a_wish a_mark a_bitsOf a_sizeOf a_number a_moved v_isKept v_taped v_at v_fault v_laid v_open v_s k.1 k.2.1 k.2.2)) kk')) args s 0 0 A) (F0 m 11 ls [])) : ∀ {v_statuses : Nat → Int32} {v_pile : Nat → Int32} {v_wish : Nat → Int32} {s0 : Int32} {y2 : Int32} {y3 : Int32} {y4 : Int32} {H : Heap} {locs : List Loc} {ls : Array Slot}, q_H D A s (wX5_spoils cI cJ cZ cS a_t a_s a_keptS a_statuses a_pile a_tape a_steps a_wish a_mark a_bitsOf a_sizeOf a_number a_moved v_isKept v_taped v_at v_fault v_laid v_open v_s v_statuses v_pile v_wish) H locs → lv_has ls 5 [(0, .ref a_t), (2, .int y2), (3, .int y3), (4, .int y4)] → fX5_spoils_51 v_s ag11 v_statuses v_pile v_wish s0 y2 y3 y4 = some (rr, kk') → W p l e rX5_spoils s m args below meth c H locs 0 0 (MQ below (q_Ri D rr A ((fun k : (Nat → Int32) × (Nat → Int32) × (Nat → Int32) => (wX5_spoils cI cJ cZ cS a_t a_s a_keptS a_statuses a_pile a_tape a_steps a_wish a_mark a_bitsOf a_sizeOf a_number a_moved v_isKept v_taped v_at v_fault v_laid v_open v_s k.1 k.2.1 k.2.2)) kk')) args s 0 0 A) (F0 m 51 ls [.int s0]) := by
  intro v_statuses v_pile v_wish s0 y2 y3 y4 H locs ls h hl hf
  have hx := fx.1
  have hb := fx.2.1
  unfold fX5_spoils_51 at hf
  refine lv_istore_n (lv' := [(1, .int s0), (0, .ref a_t), (2, .int y2), (3, .int y3), (4, .int y4)]) hx hb dX5_spoils_51 rfl hl (by decide) rfl (fun ls hl => ?_)
  refine lv_iload hx hb dX5_spoils_52 (lv_at hl 4 rfl) ?_
  refine lv_iload_n hx hb dX5_spoils_54 rfl (lv_at hl 2 rfl) ?_
  refine lv_icmp_ge (tgt := 63) hx hb dX5_spoils_55 (by decide) (fun c2 => ?_) (fun c2 => ?_)
  · have hf := it_t c2 hf
    refine lv_iload_n hx hb dX5_spoils_63 rfl (lv_at hl 2 rfl) ?_
    exact LX5_spoils_64 fx hag11 h (lv_sub hl [1, 0, 3] rfl) hf
  have hf := it_f c2 hf
  refine lv_iload hx hb dX5_spoils_58 (lv_at hl 4 rfl) ?_
  refine lv_goto (tgt := 64) hx hb dX5_spoils_60 (by decide) ?_
  exact LX5_spoils_64 fx hag11 h (lv_sub hl [1, 0, 3] rfl) hf
def fX5_spoils_11 (v_s : Nat → Int32) (ag11 : (Nat → Int32) → (Nat → Int32) → (Nat → Int32) → Int32 → Int32 → Int32 → Option (Int32 × (Nat → Int32) × (Nat → Int32) × (Nat → Int32))) (v_statuses : Nat → Int32) (v_pile : Nat → Int32) (v_wish : Nat → Int32) (y1 : Int32) (y2 : Int32) (y3 : Int32) : Option (Int32 × (Nat → Int32) × (Nat → Int32) × (Nat → Int32)) :=
  (if (v_s 0) ≤ y3 then (
  bR (fX5_orNone v_statuses y1) (fun r4 k4 =>
  some (r4, (k4, v_pile, v_wish))))
  else (
  bR (fX5_lastOf v_wish 0 (255 &&& ((jshl 1 y3) ^^^ (-1)))) (fun r5 k5 =>
  bR (fX5_ones r5) (fun r6 k6 =>
  (if y2 ≤ r6 then (
  fX5_spoils_51 v_s ag11 v_statuses v_pile v_wish y1 y2 y3 r6)
  else (
  fX5_spoils_51 v_s ag11 v_statuses v_pile v_wish y3 y2 y3 r6))))))
set_option maxRecDepth 100000 in
set_option maxHeartbeats 4000000 in
theorem LX5_spoils_11 {p : Program} {l : Launch} {e : Env} {s : State} {m : MethodId} {args : Array Value} {below : List Frame} {meth : Method} {c : Code} {D : va_G} {cI cJ cZ cS : ClassId} {tb : Nat} {A : Nat → Prop} {a_t a_s a_keptS a_statuses a_pile a_tape a_steps a_wish a_mark a_bitsOf a_sizeOf a_number a_moved : Nat} {v_isKept : Int32} {v_taped : Int32} {v_at : Int32} {v_fault : Int32} {v_laid : Int32} {v_open : Int32} {v_s : Nat → Int32} {rr : Int32} {kk' : (Nat → Int32) × (Nat → Int32) × (Nat → Int32)} (fx : q_Fx p s m args meth c cX5_spoils 5 RX5 (some .int) D cI cJ cZ cS tb A) {ag11 : (Nat → Int32) → (Nat → Int32) → (Nat → Int32) → Int32 → Int32 → Int32 → Option (Int32 × (Nat → Int32) × (Nat → Int32) × (Nat → Int32))} (hag11 : ∀ {v_statuses : Nat → Int32} {v_pile : Nat → Int32} {v_wish : Nat → Int32} {y1 : Int32} {y2 : Int32} {y3 : Int32} {H : Heap} {locs : List Loc} {ls : Array Slot}, q_H D A s (wX5_spoils cI cJ cZ cS a_t a_s a_keptS a_statuses a_pile a_tape a_steps a_wish a_mark a_bitsOf a_sizeOf a_number a_moved v_isKept v_taped v_at v_fault v_laid v_open v_s v_statuses v_pile v_wish) H locs → lv_has ls 5 [(0, .ref a_t), (1, .int y1), (2, .int y2), (3, .int y3)] → ag11 v_statuses v_pile v_wish y1 y2 y3 = some (rr, kk') → W p l e rX5_spoils s m args below meth c H locs 0 0 (MQ below (q_Ri D rr A ((fun k : (Nat → Int32) × (Nat → Int32) × (Nat → Int32) => (wX5_spoils cI cJ cZ cS a_t a_s a_keptS a_statuses a_pile a_tape a_steps a_wish a_mark a_bitsOf a_sizeOf a_number a_moved v_isKept v_taped v_at v_fault v_laid v_open v_s k.1 k.2.1 k.2.2)) kk')) args s 0 0 A) (F0 m 11 ls [])) : ∀ {v_statuses : Nat → Int32} {v_pile : Nat → Int32} {v_wish : Nat → Int32} {y1 : Int32} {y2 : Int32} {y3 : Int32} {H : Heap} {locs : List Loc} {ls : Array Slot}, q_H D A s (wX5_spoils cI cJ cZ cS a_t a_s a_keptS a_statuses a_pile a_tape a_steps a_wish a_mark a_bitsOf a_sizeOf a_number a_moved v_isKept v_taped v_at v_fault v_laid v_open v_s v_statuses v_pile v_wish) H locs → lv_has ls 5 [(0, .ref a_t), (1, .int y1), (2, .int y2), (3, .int y3)] → fX5_spoils_11 v_s ag11 v_statuses v_pile v_wish y1 y2 y3 = some (rr, kk') → W p l e rX5_spoils s m args below meth c H locs 0 0 (MQ below (q_Ri D rr A ((fun k : (Nat → Int32) × (Nat → Int32) × (Nat → Int32) => (wX5_spoils cI cJ cZ cS a_t a_s a_keptS a_statuses a_pile a_tape a_steps a_wish a_mark a_bitsOf a_sizeOf a_number a_moved v_isKept v_taped v_at v_fault v_laid v_open v_s k.1 k.2.1 k.2.2)) kk')) args s 0 0 A) (F0 m 11 ls []) := by
  intro v_statuses v_pile v_wish y1 y2 y3 H locs ls h hl hf
  have hx := fx.1
  have hb := fx.2.1
  unfold fX5_spoils_11 at hf
  refine lv_iload_n hx hb dX5_spoils_11 rfl (lv_at hl 3 rfl) ?_
  refine lv_aload_n hx hb dX5_spoils_12 rfl (lv_at hl 0 rfl) ?_
  refine q_get (v := .ref a_s) fx inX5 h 0 rfl rfl 0 (by decide) k_636 rfl dX5_spoils_13 ?_
  refine lv_iconst (v := 0) hx hb dX5_spoils_16 (by decide) ?_
  refine q_ialdK fx h 1 rfl 0 (vinK (by decide)) (by decide) dX5_spoils_17 ?_
  refine lv_icmp_ge (tgt := 71) hx hb dX5_spoils_18 (by decide) (fun c3 => ?_) (fun c3 => ?_)
  · have hf := it_t c3 hf
    refine lv_aload_n hx hb dX5_spoils_71 rfl (lv_at hl 0 rfl) ?_
    refine lv_iload_n hx hb dX5_spoils_72 rfl (lv_at hl 1 rfl) ?_
    obtain ⟨r4, k4, hg, hf⟩ := bR_inv hf
    refine q_ci (rest := []) (ws' := (wX5_spoils cI cJ cZ cS a_t a_s a_keptS a_statuses a_pile a_tape a_steps a_wish a_mark a_bitsOf a_sizeOf a_number a_moved v_isKept v_taped v_at v_fault v_laid v_open v_s k4 v_pile v_wish)) (w1 := (wX5_orNone cI cJ cZ cS a_t a_s a_keptS a_statuses a_pile a_tape a_steps a_wish a_mark a_bitsOf a_sizeOf a_number a_moved v_isKept v_taped v_at v_fault v_laid v_open k4)) fx h [0, 2] rfl rfl rfl rfl (q_runV fx h hl.1 [0, 2] rfl rfl (tX5_orNone l D cI cJ cZ cS tb a_t a_s a_keptS a_statuses a_pile a_tape a_steps a_wish a_mark a_bitsOf a_sizeOf a_number a_moved H.size v_isKept v_taped v_at v_fault v_laid v_open v_statuses y1 r4 k4 hg) mvX5_orNone k_877 ⟨rfl, rfl⟩ ⟨Nat.le_of_ble_eq_true rfl, Nat.le_of_ble_eq_true rfl⟩ rfl rfl rfl rfl (Nat.le_of_ble_eq_true rfl) dX5_spoils_73 ⟨Nat.le_of_ble_eq_true rfl, Nat.le_of_ble_eq_true rfl⟩) (fun H locs h => ?_)
    exact q_reti (fun k : (Nat → Int32) × (Nat → Int32) × (Nat → Int32) => (wX5_spoils cI cJ cZ cS a_t a_s a_keptS a_statuses a_pile a_tape a_steps a_wish a_mark a_bitsOf a_sizeOf a_number a_moved v_isKept v_taped v_at v_fault v_laid v_open v_s k.1 k.2.1 k.2.2)) fx hf h dX5_spoils_76
  have hf := it_f c3 hf
  refine lv_aload_n hx hb dX5_spoils_21 rfl (lv_at hl 0 rfl) ?_
  refine lv_iconst (v := 0) hx hb dX5_spoils_22 (by decide) ?_
  refine lv_sipush (v := 255) hx hb dX5_spoils_23 (by decide) ?_
  refine lv_iconst (v := 1) hx hb dX5_spoils_26 (by decide) ?_
  refine lv_iload_n hx hb dX5_spoils_27 rfl (lv_at hl 3 rfl) ?_
  refine lv_ishl hx hb dX5_spoils_28 ?_
  refine lv_iconst (v := -1) hx hb dX5_spoils_29 (by decide) ?_
  refine lv_ixor hx hb dX5_spoils_30 ?_
  refine lv_iand hx hb dX5_spoils_31 ?_
  obtain ⟨r5, k5, hg, hf⟩ := bR_inv hf
  refine q_ci (rest := []) (ws' := (wX5_spoils cI cJ cZ cS a_t a_s a_keptS a_statuses a_pile a_tape a_steps a_wish a_mark a_bitsOf a_sizeOf a_number a_moved v_isKept v_taped v_at v_fault v_laid v_open v_s v_statuses v_pile v_wish)) (w1 := (wX5_lastOf cI cJ cZ cS a_t a_s a_keptS a_statuses a_pile a_tape a_steps a_wish a_mark a_bitsOf a_sizeOf a_number a_moved v_isKept v_taped v_at v_fault v_laid v_open v_wish)) fx h [0, 4] rfl rfl rfl rfl (q_runV fx h hl.1 [0, 4] rfl rfl (tX5_lastOf l D cI cJ cZ cS tb a_t a_s a_keptS a_statuses a_pile a_tape a_steps a_wish a_mark a_bitsOf a_sizeOf a_number a_moved H.size v_isKept v_taped v_at v_fault v_laid v_open v_wish 0 (255 &&& ((jshl 1 y3) ^^^ (-1))) r5 k5 hg) mvX5_lastOf k_918 ⟨rfl, rfl⟩ ⟨Nat.le_of_ble_eq_true rfl, Nat.le_of_ble_eq_true rfl⟩ rfl rfl rfl rfl (Nat.le_of_ble_eq_true rfl) dX5_spoils_32 ⟨Nat.le_of_ble_eq_true rfl, Nat.le_of_ble_eq_true rfl⟩) (fun H locs h => ?_)
  obtain ⟨r6, k6, hg, hf⟩ := bR_inv hf
  refine q_ci (rest := []) (ws' := (wX5_spoils cI cJ cZ cS a_t a_s a_keptS a_statuses a_pile a_tape a_steps a_wish a_mark a_bitsOf a_sizeOf a_number a_moved v_isKept v_taped v_at v_fault v_laid v_open v_s v_statuses v_pile v_wish)) (w1 := (wX5_ones cI cJ cZ cS)) fx h [] rfl rfl rfl rfl (q_runS fx h hl.1 [] rfl rfl (tX5_ones l D cI cJ cZ cS tb H.size r5 r6 k6 hg) msX5_ones k_722 ⟨rfl, rfl⟩ ⟨Nat.le_of_ble_eq_true rfl, Nat.le_of_ble_eq_true rfl⟩ rfl rfl (Nat.le_of_ble_eq_true rfl) dX5_spoils_35 ⟨Nat.le_of_ble_eq_true rfl, Nat.le_of_ble_eq_true rfl⟩) (fun H locs h => ?_)
  refine lv_istore (lv' := [(4, .int r6), (0, .ref a_t), (1, .int y1), (2, .int y2), (3, .int y3)]) hx hb dX5_spoils_38 hl (by decide) rfl (fun ls hl => ?_)
  refine lv_iload hx hb dX5_spoils_40 (lv_at hl 0 rfl) ?_
  refine lv_iload_n hx hb dX5_spoils_42 rfl (lv_at hl 3 rfl) ?_
  refine lv_icmp_ge (tgt := 50) hx hb dX5_spoils_43 (by decide) (fun c7 => ?_) (fun c7 => ?_)
  · have hf := it_t c7 hf
    refine lv_iload_n hx hb dX5_spoils_50 rfl (lv_at hl 2 rfl) ?_
    exact LX5_spoils_51 fx hag11 h (lv_sub hl [1, 3, 4, 0] rfl) hf
  have hf := it_f c7 hf
  refine lv_iload_n hx hb dX5_spoils_46 rfl (lv_at hl 4 rfl) ?_
  refine lv_goto (tgt := 51) hx hb dX5_spoils_47 (by decide) ?_
  exact LX5_spoils_51 fx hag11 h (lv_sub hl [1, 3, 4, 0] rfl) hf
set_option maxRecDepth 100000 in
theorem EX5_spoils_11 {p : Program} {l : Launch} {e : Env} {s : State} {m : MethodId} {args : Array Value} {below : List Frame} {meth : Method} {c : Code} {D : va_G} {cI cJ cZ cS : ClassId} {tb : Nat} {A : Nat → Prop} {a_t a_s a_keptS a_statuses a_pile a_tape a_steps a_wish a_mark a_bitsOf a_sizeOf a_number a_moved : Nat} {v_isKept : Int32} {v_taped : Int32} {v_at : Int32} {v_fault : Int32} {v_laid : Int32} {v_open : Int32} {v_s : Nat → Int32} {rr : Int32} {kk' : (Nat → Int32) × (Nat → Int32) × (Nat → Int32)} (fx : q_Fx p s m args meth c cX5_spoils 5 RX5 (some .int) D cI cJ cZ cS tb A) : ∀ (n : Nat), ∀ {v_statuses : Nat → Int32} {v_pile : Nat → Int32} {v_wish : Nat → Int32} {y1 : Int32} {y2 : Int32} {y3 : Int32} {H : Heap} {locs : List Loc} {ls : Array Slot}, q_H D A s (wX5_spoils cI cJ cZ cS a_t a_s a_keptS a_statuses a_pile a_tape a_steps a_wish a_mark a_bitsOf a_sizeOf a_number a_moved v_isKept v_taped v_at v_fault v_laid v_open v_s v_statuses v_pile v_wish) H locs → lv_has ls 5 [(0, .ref a_t), (1, .int y1), (2, .int y2), (3, .int y3)] → ll6 (fX5_spoils_11 v_s) n v_statuses v_pile v_wish y1 y2 y3 = some (rr, kk') → W p l e rX5_spoils s m args below meth c H locs 0 0 (MQ below (q_Ri D rr A ((fun k : (Nat → Int32) × (Nat → Int32) × (Nat → Int32) => (wX5_spoils cI cJ cZ cS a_t a_s a_keptS a_statuses a_pile a_tape a_steps a_wish a_mark a_bitsOf a_sizeOf a_number a_moved v_isKept v_taped v_at v_fault v_laid v_open v_s k.1 k.2.1 k.2.2)) kk')) args s 0 0 A) (F0 m 11 ls []) := by
  intro n
  induction n with
  | zero => intro v_statuses v_pile v_wish y1 y2 y3 H locs ls h hl hf; exact (ll6_z hf).elim
  | succ n ih => intro v_statuses v_pile v_wish y1 y2 y3 H locs ls h hl hf; exact LX5_spoils_11 fx ih h hl (ll6_s hf)
def fX5_spoils (v_s : Nat → Int32) (v_statuses : Nat → Int32) (v_pile : Nat → Int32) (v_wish : Nat → Int32) : Option (Int32 × (Nat → Int32) × (Nat → Int32) × (Nat → Int32)) :=
  bV (fX5_looksAll v_s v_pile v_wish) (fun k8 =>
  ll6 (fX5_spoils_11 v_s) qF v_statuses k8.1 k8.2 (-1) 9 0)
set_option maxRecDepth 100000 in
set_option maxHeartbeats 4000000 in
theorem tX5_spoils (l : Launch) (D : va_G) (cI cJ cZ cS : ClassId) (tb : Nat) (a_t a_s a_keptS a_statuses a_pile a_tape a_steps a_wish a_mark a_bitsOf a_sizeOf a_number a_moved : Nat) (sz : Nat) (v_isKept : Int32) (v_taped : Int32) (v_at : Int32) (v_fault : Int32) (v_laid : Int32) (v_open : Int32) (v_s : Nat → Int32) (v_statuses : Nat → Int32) (v_pile : Nat → Int32) (v_wish : Nat → Int32) (rr : Int32) (kk' : (Nat → Int32) × (Nat → Int32) × (Nat → Int32)) (hf : fX5_spoils v_s v_statuses v_pile v_wish = some (rr, kk')) : Met l yX5_spoils (Cond.code yX5_spoils cX5_spoils 5 (some .int) :: wA) rX5_spoils (q_Pre D cI cJ cZ cS tb [.ref a_t] sz (wX5_spoils cI cJ cZ cS a_t a_s a_keptS a_statuses a_pile a_tape a_steps a_wish a_mark a_bitsOf a_sizeOf a_number a_moved v_isKept v_taped v_at v_fault v_laid v_open v_s v_statuses v_pile v_wish)) (q_Ri D rr (va_A (wX5_spoils cI cJ cZ cS a_t a_s a_keptS a_statuses a_pile a_tape a_steps a_wish a_mark a_bitsOf a_sizeOf a_number a_moved v_isKept v_taped v_at v_fault v_laid v_open v_s v_statuses v_pile v_wish) sz) ((fun k : (Nat → Int32) × (Nat → Int32) × (Nat → Int32) => (wX5_spoils cI cJ cZ cS a_t a_s a_keptS a_statuses a_pile a_tape a_steps a_wish a_mark a_bitsOf a_sizeOf a_number a_moved v_isKept v_taped v_at v_fault v_laid v_open v_s k.1 k.2.1 k.2.2)) kk')) 0 0 (va_A (wX5_spoils cI cJ cZ cS a_t a_s a_keptS a_statuses a_pile a_tape a_steps a_wish a_mark a_bitsOf a_sizeOf a_number a_moved v_isKept v_taped v_at v_fault v_laid v_open v_s v_statuses v_pile v_wish) sz) := by
  refine q_enter (Qf := fun A => (q_Ri D rr A ((fun k : (Nat → Int32) × (Nat → Int32) × (Nat → Int32) => (wX5_spoils cI cJ cZ cS a_t a_s a_keptS a_statuses a_pile a_tape a_steps a_wish a_mark a_bitsOf a_sizeOf a_number a_moved v_isKept v_taped v_at v_fault v_laid v_open v_s k.1 k.2.1 k.2.2)) kk'))) (by decide) rfl (Nat.le_of_ble_eq_true rfl) ?_
  intro p e s m below meth c A ls fx hname h hl
  have hx := fx.1
  have hb := fx.2.1
  have hl : lv_has ls 5 [(0, .ref a_t)] := hl
  generalize h9 : s.heap = H at h ⊢
  clear h9
  generalize h9 : ([] : List Loc) = locs at h ⊢
  clear h9
  unfold fX5_spoils at hf
  refine lv_aload_n hx hb dX5_spoils_0 rfl (lv_at hl 0 rfl) ?_
  obtain ⟨k8, hg, hf⟩ := bV_inv hf
  refine q_cv (rest := []) (ws' := (wX5_spoils cI cJ cZ cS a_t a_s a_keptS a_statuses a_pile a_tape a_steps a_wish a_mark a_bitsOf a_sizeOf a_number a_moved v_isKept v_taped v_at v_fault v_laid v_open v_s v_statuses k8.1 k8.2)) (w1 := (wX5_looksAll cI cJ cZ cS a_t a_s a_keptS a_statuses a_pile a_tape a_steps a_wish a_mark a_bitsOf a_sizeOf a_number a_moved v_isKept v_taped v_at v_fault v_laid v_open v_s k8.1 k8.2)) fx h [0, 1, 3, 4] rfl rfl rfl rfl (q_runV fx h hl.1 [0, 1, 3, 4] rfl rfl (tX5_looksAll l D cI cJ cZ cS tb a_t a_s a_keptS a_statuses a_pile a_tape a_steps a_wish a_mark a_bitsOf a_sizeOf a_number a_moved H.size v_isKept v_taped v_at v_fault v_laid v_open v_s v_pile v_wish k8 hg) mvX5_looksAll k_860 ⟨rfl, rfl⟩ ⟨Nat.le_of_ble_eq_true rfl, Nat.le_of_ble_eq_true rfl⟩ rfl rfl rfl rfl (Nat.le_of_ble_eq_true rfl) dX5_spoils_1 ⟨Nat.le_of_ble_eq_true rfl, Nat.le_of_ble_eq_true rfl⟩) (fun H locs h => ?_)
  refine lv_iconst (v := -1) hx hb dX5_spoils_4 (by decide) ?_
  refine lv_istore_n (lv' := [(1, .int (-1)), (0, .ref a_t)]) hx hb dX5_spoils_5 rfl hl (by decide) rfl (fun ls hl => ?_)
  refine lv_bipush (v := 9) hx hb dX5_spoils_6 (by decide) ?_
  refine lv_istore_n (lv' := [(2, .int 9), (1, .int (-1)), (0, .ref a_t)]) hx hb dX5_spoils_8 rfl hl (by decide) rfl (fun ls hl => ?_)
  refine lv_iconst (v := 0) hx hb dX5_spoils_9 (by decide) ?_
  refine lv_istore_n (lv' := [(3, .int 0), (2, .int 9), (1, .int (-1)), (0, .ref a_t)]) hx hb dX5_spoils_10 rfl hl (by decide) rfl (fun ls hl => ?_)
  exact EX5_spoils_11 fx qF h (lv_sub hl [3, 2, 1, 0] rfl) hf
/-! X5_invites -/
abbrev wX5_invites (cI cJ cZ cS : ClassId) (a_t a_s a_keptS a_statuses a_pile a_tape a_steps a_wish a_mark a_bitsOf a_sizeOf a_number a_moved : Nat) (v_isKept : Int32) (v_taped : Int32) (v_at : Int32) (v_fault : Int32) (v_laid : Int32) (v_open : Int32) (v_s : Nat → Int32) (v_statuses : Nat → Int32) (v_pile : Nat → Int32) (v_wish : Nat → Int32) : va_W := [(a_t, .inr (5, [.ref a_s, .ref a_keptS, .ref a_statuses, .int v_isKept, .ref a_pile, .ref a_tape, .ref a_steps, .int v_taped, .int v_at, .int v_fault, .int v_laid, .int v_open, .ref a_wish, .ref a_mark, .ref a_bitsOf, .ref a_sizeOf, .ref a_number, .ref a_moved])), (a_s, .inl (cI, 538, .inl v_s)), (a_statuses, .inl (cI, 7, .inl v_statuses)), (a_pile, .inl (cZ, 64, .inl v_pile)), (a_wish, .inl (cI, 256, .inl v_wish))]
abbrev rX5_invites : Room := { frames := 6, cells := 0, slots := 0, locals := 137 }
def fX5_invites_128 (v_s : Nat → Int32) (ag45 : (Nat → Int32) → (Nat → Int32) → (Nat → Int32) → Int32 → Int32 → Int32 → Int32 → Option (Int32 × (Nat → Int32) × (Nat → Int32) × (Nat → Int32))) (v_statuses : Nat → Int32) (v_pile : Nat → Int32) (v_wish : Nat → Int32) (s0 : Int32) (y1 : Int32) (y2 : Int32) (y4 : Int32) : Option (Int32 × (Nat → Int32) × (Nat → Int32) × (Nat → Int32)) :=
  nm (y4 + 1) (fun u1 =>
  ag45 v_statuses v_pile v_wish y1 y2 s0 u1)
set_option maxRecDepth 100000 in
set_option maxHeartbeats 4000000 in
theorem LX5_invites_128 {p : Program} {l : Launch} {e : Env} {s : State} {m : MethodId} {args : Array Value} {below : List Frame} {meth : Method} {c : Code} {D : va_G} {cI cJ cZ cS : ClassId} {tb : Nat} {A : Nat → Prop} {a_t a_s a_keptS a_statuses a_pile a_tape a_steps a_wish a_mark a_bitsOf a_sizeOf a_number a_moved : Nat} {v_isKept : Int32} {v_taped : Int32} {v_at : Int32} {v_fault : Int32} {v_laid : Int32} {v_open : Int32} {v_s : Nat → Int32} {rr : Int32} {kk' : (Nat → Int32) × (Nat → Int32) × (Nat → Int32)} (fx : q_Fx p s m args meth c cX5_invites 7 RX5 (some .int) D cI cJ cZ cS tb A) {ag45 : (Nat → Int32) → (Nat → Int32) → (Nat → Int32) → Int32 → Int32 → Int32 → Int32 → Option (Int32 × (Nat → Int32) × (Nat → Int32) × (Nat → Int32))} (hag45 : ∀ {v_statuses : Nat → Int32} {v_pile : Nat → Int32} {v_wish : Nat → Int32} {y1 : Int32} {y2 : Int32} {y3 : Int32} {y4 : Int32} {H : Heap} {locs : List Loc} {ls : Array Slot}, q_H D A s (wX5_invites cI cJ cZ cS a_t a_s a_keptS a_statuses a_pile a_tape a_steps a_wish a_mark a_bitsOf a_sizeOf a_number a_moved v_isKept v_taped v_at v_fault v_laid v_open v_s v_statuses v_pile v_wish) H locs → lv_has ls 7 [(0, .ref a_t), (1, .int y1), (2, .int y2), (3, .int y3), (4, .int y4)] → ag45 v_statuses v_pile v_wish y1 y2 y3 y4 = some (rr, kk') → W p l e rX5_invites s m args below meth c H locs 0 0 (MQ below (q_Ri D rr A ((fun k : (Nat → Int32) × (Nat → Int32) × (Nat → Int32) => (wX5_invites cI cJ cZ cS a_t a_s a_keptS a_statuses a_pile a_tape a_steps a_wish a_mark a_bitsOf a_sizeOf a_number a_moved v_isKept v_taped v_at v_fault v_laid v_open v_s k.1 k.2.1 k.2.2)) kk')) args s 0 0 A) (F0 m 45 ls [])) : ∀ {v_statuses : Nat → Int32} {v_pile : Nat → Int32} {v_wish : Nat → Int32} {s0 : Int32} {y1 : Int32} {y2 : Int32} {y4 : Int32} {H : Heap} {locs : List Loc} {ls : Array Slot}, q_H D A s (wX5_invites cI cJ cZ cS a_t a_s a_keptS a_statuses a_pile a_tape a_steps a_wish a_mark a_bitsOf a_sizeOf a_number a_moved v_isKept v_taped v_at v_fault v_laid v_open v_s v_statuses v_pile v_wish) H locs → lv_has ls 7 [(0, .ref a_t), (1, .int y1), (2, .int y2), (4, .int y4)] → fX5_invites_128 v_s ag45 v_statuses v_pile v_wish s0 y1 y2 y4 = some (rr, kk') → W p l e rX5_invites s m args below meth c H locs 0 0 (MQ below (q_Ri D rr A ((fun k : (Nat → Int32) × (Nat → Int32) × (Nat → Int32) => (wX5_invites cI cJ cZ cS a_t a_s a_keptS a_statuses a_pile a_tape a_steps a_wish a_mark a_bitsOf a_sizeOf a_number a_moved v_isKept v_taped v_at v_fault v_laid v_open v_s k.1 k.2.1 k.2.2)) kk')) args s 0 0 A) (F0 m 128 ls [.int s0]) := by
  intro v_statuses v_pile v_wish s0 y1 y2 y4 H locs ls h hl hf
  have hx := fx.1
  have hb := fx.2.1
  unfold fX5_invites_128 at hf
  refine lv_istore_n (lv' := [(3, .int s0), (0, .ref a_t), (1, .int y1), (2, .int y2), (4, .int y4)]) hx hb dX5_invites_128 rfl hl (by decide) rfl (fun ls hl => ?_)
  obtain ⟨u1, eu1, hf⟩ := nm_inv hf
  refine lv_iinc (v := u1) (lv' := [(4, .int u1), (3, .int s0), (0, .ref a_t), (1, .int y1), (2, .int y2)]) hx hb dX5_invites_129 hl (k := 4) rfl (by rw [eu1]; rfl) (by decide) rfl (fun ls hl => ?_)
  refine lv_goto (tgt := 45) hx hb dX5_invites_132 (by decide) ?_
  exact hag45 h (lv_sub hl [2, 3, 4, 1, 0] rfl) hf
def fX5_invites_127 (v_s : Nat → Int32) (ag45 : (Nat → Int32) → (Nat → Int32) → (Nat → Int32) → Int32 → Int32 → Int32 → Int32 → Option (Int32 × (Nat → Int32) × (Nat → Int32) × (Nat → Int32))) (v_statuses : Nat → Int32) (v_pile : Nat → Int32) (v_wish : Nat → Int32) (y1 : Int32) (y2 : Int32) (y3 : Int32) (y4 : Int32) : Option (Int32 × (Nat → Int32) × (Nat → Int32) × (Nat → Int32)) :=
  fX5_invites_128 v_s ag45 v_statuses v_pile v_wish y3 y1 y2 y4
set_option maxRecDepth 100000 in
set_option maxHeartbeats 4000000 in
theorem LX5_invites_127 {p : Program} {l : Launch} {e : Env} {s : State} {m : MethodId} {args : Array Value} {below : List Frame} {meth : Method} {c : Code} {D : va_G} {cI cJ cZ cS : ClassId} {tb : Nat} {A : Nat → Prop} {a_t a_s a_keptS a_statuses a_pile a_tape a_steps a_wish a_mark a_bitsOf a_sizeOf a_number a_moved : Nat} {v_isKept : Int32} {v_taped : Int32} {v_at : Int32} {v_fault : Int32} {v_laid : Int32} {v_open : Int32} {v_s : Nat → Int32} {rr : Int32} {kk' : (Nat → Int32) × (Nat → Int32) × (Nat → Int32)} (fx : q_Fx p s m args meth c cX5_invites 7 RX5 (some .int) D cI cJ cZ cS tb A) {ag45 : (Nat → Int32) → (Nat → Int32) → (Nat → Int32) → Int32 → Int32 → Int32 → Int32 → Option (Int32 × (Nat → Int32) × (Nat → Int32) × (Nat → Int32))} (hag45 : ∀ {v_statuses : Nat → Int32} {v_pile : Nat → Int32} {v_wish : Nat → Int32} {y1 : Int32} {y2 : Int32} {y3 : Int32} {y4 : Int32} {H : Heap} {locs : List Loc} {ls : Array Slot}, q_H D A s (wX5_invites cI cJ cZ cS a_t a_s a_keptS a_statuses a_pile a_tape a_steps a_wish a_mark a_bitsOf a_sizeOf a_number a_moved v_isKept v_taped v_at v_fault v_laid v_open v_s v_statuses v_pile v_wish) H locs → lv_has ls 7 [(0, .ref a_t), (1, .int y1), (2, .int y2), (3, .int y3), (4, .int y4)] → ag45 v_statuses v_pile v_wish y1 y2 y3 y4 = some (rr, kk') → W p l e rX5_invites s m args below meth c H locs 0 0 (MQ below (q_Ri D rr A ((fun k : (Nat → Int32) × (Nat → Int32) × (Nat → Int32) => (wX5_invites cI cJ cZ cS a_t a_s a_keptS a_statuses a_pile a_tape a_steps a_wish a_mark a_bitsOf a_sizeOf a_number a_moved v_isKept v_taped v_at v_fault v_laid v_open v_s k.1 k.2.1 k.2.2)) kk')) args s 0 0 A) (F0 m 45 ls [])) : ∀ {v_statuses : Nat → Int32} {v_pile : Nat → Int32} {v_wish : Nat → Int32} {y1 : Int32} {y2 : Int32} {y3 : Int32} {y4 : Int32} {H : Heap} {locs : List Loc} {ls : Array Slot}, q_H D A s (wX5_invites cI cJ cZ cS a_t a_s a_keptS a_statuses a_pile a_tape a_steps a_wish a_mark a_bitsOf a_sizeOf a_number a_moved v_isKept v_taped v_at v_fault v_laid v_open v_s v_statuses v_pile v_wish) H locs → lv_has ls 7 [(0, .ref a_t), (1, .int y1), (2, .int y2), (3, .int y3), (4, .int y4)] → fX5_invites_127 v_s ag45 v_statuses v_pile v_wish y1 y2 y3 y4 = some (rr, kk') → W p l e rX5_invites s m args below meth c H locs 0 0 (MQ below (q_Ri D rr A ((fun k : (Nat → Int32) × (Nat → Int32) × (Nat → Int32) => (wX5_invites cI cJ cZ cS a_t a_s a_keptS a_statuses a_pile a_tape a_steps a_wish a_mark a_bitsOf a_sizeOf a_number a_moved v_isKept v_taped v_at v_fault v_laid v_open v_s k.1 k.2.1 k.2.2)) kk')) args s 0 0 A) (F0 m 127 ls []) := by
  intro v_statuses v_pile v_wish y1 y2 y3 y4 H locs ls h hl hf
  have hx := fx.1
  have hb := fx.2.1
  unfold fX5_invites_127 at hf
  refine lv_iload_n hx hb dX5_invites_127 rfl (lv_at hl 3 rfl) ?_
  exact LX5_invites_128 fx hag45 h (lv_sub hl [0, 1, 2, 4] rfl) hf
def fX5_invites_122 (v_s : Nat → Int32) (ag45 : (Nat → Int32) → (Nat → Int32) → (Nat → Int32) → Int32 → Int32 → Int32 → Int32 → Option (Int32 × (Nat → Int32) × (Nat → Int32) × (Nat → Int32))) (v_statuses : Nat → Int32) (v_pile : Nat → Int32) (v_wish : Nat → Int32) (y1 : Int32) (y2 : Int32) (y4 : Int32) : Option (Int32 × (Nat → Int32) × (Nat → Int32) × (Nat → Int32)) :=
  fX5_invites_128 v_s ag45 v_statuses v_pile v_wish y4 y1 y2 y4
set_option maxRecDepth 100000 in
set_option maxHeartbeats 4000000 in
theorem LX5_invites_122 {p : Program} {l : Launch} {e : Env} {s : State} {m : MethodId} {args : Array Value} {below : List Frame} {meth : Method} {c : Code} {D : va_G} {cI cJ cZ cS : ClassId} {tb : Nat} {A : Nat → Prop} {a_t a_s a_keptS a_statuses a_pile a_tape a_steps a_wish a_mark a_bitsOf a_sizeOf a_number a_moved : Nat} {v_isKept : Int32} {v_taped : Int32} {v_at : Int32} {v_fault : Int32} {v_laid : Int32} {v_open : Int32} {v_s : Nat → Int32} {rr : Int32} {kk' : (Nat → Int32) × (Nat → Int32) × (Nat → Int32)} (fx : q_Fx p s m args meth c cX5_invites 7 RX5 (some .int) D cI cJ cZ cS tb A) {ag45 : (Nat → Int32) → (Nat → Int32) → (Nat → Int32) → Int32 → Int32 → Int32 → Int32 → Option (Int32 × (Nat → Int32) × (Nat → Int32) × (Nat → Int32))} (hag45 : ∀ {v_statuses : Nat → Int32} {v_pile : Nat → Int32} {v_wish : Nat → Int32} {y1 : Int32} {y2 : Int32} {y3 : Int32} {y4 : Int32} {H : Heap} {locs : List Loc} {ls : Array Slot}, q_H D A s (wX5_invites cI cJ cZ cS a_t a_s a_keptS a_statuses a_pile a_tape a_steps a_wish a_mark a_bitsOf a_sizeOf a_number a_moved v_isKept v_taped v_at v_fault v_laid v_open v_s v_statuses v_pile v_wish) H locs → lv_has ls 7 [(0, .ref a_t), (1, .int y1), (2, .int y2), (3, .int y3), (4, .int y4)] → ag45 v_statuses v_pile v_wish y1 y2 y3 y4 = some (rr, kk') → W p l e rX5_invites s m args below meth c H locs 0 0 (MQ below (q_Ri D rr A ((fun k : (Nat → Int32) × (Nat → Int32) × (Nat → Int32) => (wX5_invites cI cJ cZ cS a_t a_s a_keptS a_statuses a_pile a_tape a_steps a_wish a_mark a_bitsOf a_sizeOf a_number a_moved v_isKept v_taped v_at v_fault v_laid v_open v_s k.1 k.2.1 k.2.2)) kk')) args s 0 0 A) (F0 m 45 ls [])) : ∀ {v_statuses : Nat → Int32} {v_pile : Nat → Int32} {v_wish : Nat → Int32} {y1 : Int32} {y2 : Int32} {y4 : Int32} {H : Heap} {locs : List Loc} {ls : Array Slot}, q_H D A s (wX5_invites cI cJ cZ cS a_t a_s a_keptS a_statuses a_pile a_tape a_steps a_wish a_mark a_bitsOf a_sizeOf a_number a_moved v_isKept v_taped v_at v_fault v_laid v_open v_s v_statuses v_pile v_wish) H locs → lv_has ls 7 [(0, .ref a_t), (1, .int y1), (2, .int y2), (4, .int y4)] → fX5_invites_122 v_s ag45 v_statuses v_pile v_wish y1 y2 y4 = some (rr, kk') → W p l e rX5_invites s m args below meth c H locs 0 0 (MQ below (q_Ri D rr A ((fun k : (Nat → Int32) × (Nat → Int32) × (Nat → Int32) => (wX5_invites cI cJ cZ cS a_t a_s a_keptS a_statuses a_pile a_tape a_steps a_wish a_mark a_bitsOf a_sizeOf a_number a_moved v_isKept v_taped v_at v_fault v_laid v_open v_s k.1 k.2.1 k.2.2)) kk')) args s 0 0 A) (F0 m 122 ls []) := by
  intro v_statuses v_pile v_wish y1 y2 y4 H locs ls h hl hf
  have hx := fx.1
  have hb := fx.2.1
  unfold fX5_invites_122 at hf
  refine lv_iload hx hb dX5_invites_122 (lv_at hl 3 rfl) ?_
  refine lv_goto (tgt := 128) hx hb dX5_invites_124 (by decide) ?_
  exact LX5_invites_128 fx hag45 h (lv_sub hl [0, 1, 2, 3] rfl) hf
def fX5_invites_99 (v_s : Nat → Int32) (ag45 : (Nat → Int32) → (Nat → Int32) → (Nat → Int32) → Int32 → Int32 → Int32 → Int32 → Option (Int32 × (Nat → Int32) × (Nat → Int32) × (Nat → Int32))) (v_statuses : Nat → Int32) (v_pile : Nat → Int32) (v_wish : Nat → Int32) (s0 : Int32) (y1 : Int32) (y2 : Int32) (y3 : Int32) (y4 : Int32) : Option (Int32 × (Nat → Int32) × (Nat → Int32) × (Nat → Int32)) :=
  (if s0 = 0 then (
  fX5_invites_127 v_s ag45 v_statuses v_pile v_wish y1 y2 y3 y4)
  else (
  (if y3 < 0 then (
  fX5_invites_122 v_s ag45 v_statuses v_pile v_wish y1 y2 y4)
  else (
  bR (fX5_ones y4) (fun r4 k4 =>
  bR (fX5_ones y3) (fun r5 k5 =>
  (if r5 ≤ r4 then (
  fX5_invites_127 v_s ag45 v_statuses v_pile v_wish y1 y2 y3 y4)
  else (
  fX5_invites_122 v_s ag45 v_statuses v_pile v_wish y1 y2 y4))))))))
set_option maxRecDepth 100000 in
set_option maxHeartbeats 4000000 in
theorem LX5_invites_99 {p : Program} {l : Launch} {e : Env} {s : State} {m : MethodId} {args : Array Value} {below : List Frame} {meth : Method} {c : Code} {D : va_G} {cI cJ cZ cS : ClassId} {tb : Nat} {A : Nat → Prop} {a_t a_s a_keptS a_statuses a_pile a_tape a_steps a_wish a_mark a_bitsOf a_sizeOf a_number a_moved : Nat} {v_isKept : Int32} {v_taped : Int32} {v_at : Int32} {v_fault : Int32} {v_laid : Int32} {v_open : Int32} {v_s : Nat → Int32} {rr : Int32} {kk' : (Nat → Int32) × (Nat → Int32) × (Nat → Int32)} (fx : q_Fx p s m args meth c cX5_invites 7 RX5 (some .int) D cI cJ cZ cS tb A) {ag45 : (Nat → Int32) → (Nat → Int32) → (Nat → Int32) → Int32 → Int32 → Int32 → Int32 → Option (Int32 × (Nat → Int32) × (Nat → Int32) × (Nat → Int32))} (hag45 : ∀ {v_statuses : Nat → Int32} {v_pile : Nat → Int32} {v_wish : Nat → Int32} {y1 : Int32} {y2 : Int32} {y3 : Int32} {y4 : Int32} {H : Heap} {locs : List Loc} {ls : Array Slot}, q_H D A s (wX5_invites cI cJ cZ cS a_t a_s a_keptS a_statuses a_pile a_tape a_steps a_wish a_mark a_bitsOf a_sizeOf a_number a_moved v_isKept v_taped v_at v_fault v_laid v_open v_s v_statuses v_pile v_wish) H locs → lv_has ls 7 [(0, .ref a_t), (1, .int y1), (2, .int y2), (3, .int y3), (4, .int y4)] → ag45 v_statuses v_pile v_wish y1 y2 y3 y4 = some (rr, kk') → W p l e rX5_invites s m args below meth c H locs 0 0 (MQ below (q_Ri D rr A ((fun k : (Nat → Int32) × (Nat → Int32) × (Nat → Int32) => (wX5_invites cI cJ cZ cS a_t a_s a_keptS a_statuses a_pile a_tape a_steps a_wish a_mark a_bitsOf a_sizeOf a_number a_moved v_isKept v_taped v_at v_fault v_laid v_open v_s k.1 k.2.1 k.2.2)) kk')) args s 0 0 A) (F0 m 45 ls [])) : ∀ {v_statuses : Nat → Int32} {v_pile : Nat → Int32} {v_wish : Nat → Int32} {s0 : Int32} {y1 : Int32} {y2 : Int32} {y3 : Int32} {y4 : Int32} {H : Heap} {locs : List Loc} {ls : Array Slot}, q_H D A s (wX5_invites cI cJ cZ cS a_t a_s a_keptS a_statuses a_pile a_tape a_steps a_wish a_mark a_bitsOf a_sizeOf a_number a_moved v_isKept v_taped v_at v_fault v_laid v_open v_s v_statuses v_pile v_wish) H locs → lv_has ls 7 [(0, .ref a_t), (1, .int y1), (2, .int y2), (3, .int y3), (4, .int y4)] → fX5_invites_99 v_s ag45 v_statuses v_pile v_wish s0 y1 y2 y3 y4 = some (rr, kk') → W p l e rX5_invites s m args below meth c H locs 0 0 (MQ below (q_Ri D rr A ((fun k : (Nat → Int32) × (Nat → Int32) × (Nat → Int32) => (wX5_invites cI cJ cZ cS a_t a_s a_keptS a_statuses a_pile a_tape a_steps a_wish a_mark a_bitsOf a_sizeOf a_number a_moved v_isKept v_taped v_at v_fault v_laid v_open v_s k.1 k.2.1 k.2.2)) kk')) args s 0 0 A) (F0 m 99 ls [.int s0]) := by
  intro v_statuses v_pile v_wish s0 y1 y2 y3 y4 H locs ls h hl hf
  have hx := fx.1
  have hb := fx.2.1
  unfold fX5_invites_99 at hf
  refine lv_istore (lv' := [(6, .int s0), (0, .ref a_t), (1, .int y1), (2, .int y2), (3, .int y3), (4, .int y4)]) hx hb dX5_invites_99 hl (by decide) rfl (fun ls hl => ?_)
  refine lv_iload hx hb dX5_invites_101 (lv_at hl 0 rfl) ?_
  refine lv_if_eq (tgt := 127) hx hb dX5_invites_103 (by decide) (fun c2 => ?_) (fun c2 => ?_)
  · have hf := it_t c2 hf
    exact LX5_invites_127 fx hag45 h (lv_sub hl [1, 2, 3, 4, 5] rfl) hf
  have hf := it_f c2 hf
  refine lv_iload_n hx hb dX5_invites_106 rfl (lv_at hl 4 rfl) ?_
  refine lv_if_lt (tgt := 122) hx hb dX5_invites_107 (by decide) (fun c3 => ?_) (fun c3 => ?_)
  · have hf := it_t c3 hf
    exact LX5_invites_122 fx hag45 h (lv_sub hl [1, 2, 3, 5] rfl) hf
  have hf := it_f c3 hf
  refine lv_iload hx hb dX5_invites_110 (lv_at hl 5 rfl) ?_
  obtain ⟨r4, k4, hg, hf⟩ := bR_inv hf
  refine q_ci (rest := []) (ws' := (wX5_invites cI cJ cZ cS a_t a_s a_keptS a_statuses a_pile a_tape a_steps a_wish a_mark a_bitsOf a_sizeOf a_number a_moved v_isKept v_taped v_at v_fault v_laid v_open v_s v_statuses v_pile v_wish)) (w1 := (wX5_ones cI cJ cZ cS)) fx h [] rfl rfl rfl rfl (q_runS fx h hl.1 [] rfl rfl (tX5_ones l D cI cJ cZ cS tb H.size y4 r4 k4 hg) msX5_ones k_722 ⟨rfl, rfl⟩ ⟨Nat.le_of_ble_eq_true rfl, Nat.le_of_ble_eq_true rfl⟩ rfl rfl (Nat.le_of_ble_eq_true rfl) dX5_invites_112 ⟨Nat.le_of_ble_eq_true rfl, Nat.le_of_ble_eq_true rfl⟩) (fun H locs h => ?_)
  refine lv_iload_n hx hb dX5_invites_115 rfl (lv_at hl 4 rfl) ?_
  obtain ⟨r5, k5, hg, hf⟩ := bR_inv hf
  refine q_ci (rest := [.int r4]) (ws' := (wX5_invites cI cJ cZ cS a_t a_s a_keptS a_statuses a_pile a_tape a_steps a_wish a_mark a_bitsOf a_sizeOf a_number a_moved v_isKept v_taped v_at v_fault v_laid v_open v_s v_statuses v_pile v_wish)) (w1 := (wX5_ones cI cJ cZ cS)) fx h [] rfl rfl rfl rfl (q_runS fx h hl.1 [] rfl rfl (tX5_ones l D cI cJ cZ cS tb H.size y3 r5 k5 hg) msX5_ones k_722 ⟨rfl, rfl⟩ ⟨Nat.le_of_ble_eq_true rfl, Nat.le_of_ble_eq_true rfl⟩ rfl rfl (Nat.le_of_ble_eq_true rfl) dX5_invites_116 ⟨Nat.le_of_ble_eq_true rfl, Nat.le_of_ble_eq_true rfl⟩) (fun H locs h => ?_)
  refine lv_icmp_ge (tgt := 127) hx hb dX5_invites_119 (by decide) (fun c6 => ?_) (fun c6 => ?_)
  · have hf := it_t c6 hf
    exact LX5_invites_127 fx hag45 h (lv_sub hl [1, 2, 3, 4, 5] rfl) hf
  have hf := it_f c6 hf
  exact LX5_invites_122 fx hag45 h (lv_sub hl [1, 2, 3, 5] rfl) hf
def fX5_invites_98 (v_s : Nat → Int32) (ag45 : (Nat → Int32) → (Nat → Int32) → (Nat → Int32) → Int32 → Int32 → Int32 → Int32 → Option (Int32 × (Nat → Int32) × (Nat → Int32) × (Nat → Int32))) (v_statuses : Nat → Int32) (v_pile : Nat → Int32) (v_wish : Nat → Int32) (y1 : Int32) (y2 : Int32) (y3 : Int32) (y4 : Int32) : Option (Int32 × (Nat → Int32) × (Nat → Int32) × (Nat → Int32)) :=
  fX5_invites_99 v_s ag45 v_statuses v_pile v_wish 0 y1 y2 y3 y4
set_option maxRecDepth 100000 in
set_option maxHeartbeats 4000000 in
theorem LX5_invites_98 {p : Program} {l : Launch} {e : Env} {s : State} {m : MethodId} {args : Array Value} {below : List Frame} {meth : Method} {c : Code} {D : va_G} {cI cJ cZ cS : ClassId} {tb : Nat} {A : Nat → Prop} {a_t a_s a_keptS a_statuses a_pile a_tape a_steps a_wish a_mark a_bitsOf a_sizeOf a_number a_moved : Nat} {v_isKept : Int32} {v_taped : Int32} {v_at : Int32} {v_fault : Int32} {v_laid : Int32} {v_open : Int32} {v_s : Nat → Int32} {rr : Int32} {kk' : (Nat → Int32) × (Nat → Int32) × (Nat → Int32)} (fx : q_Fx p s m args meth c cX5_invites 7 RX5 (some .int) D cI cJ cZ cS tb A) {ag45 : (Nat → Int32) → (Nat → Int32) → (Nat → Int32) → Int32 → Int32 → Int32 → Int32 → Option (Int32 × (Nat → Int32) × (Nat → Int32) × (Nat → Int32))} (hag45 : ∀ {v_statuses : Nat → Int32} {v_pile : Nat → Int32} {v_wish : Nat → Int32} {y1 : Int32} {y2 : Int32} {y3 : Int32} {y4 : Int32} {H : Heap} {locs : List Loc} {ls : Array Slot}, q_H D A s (wX5_invites cI cJ cZ cS a_t a_s a_keptS a_statuses a_pile a_tape a_steps a_wish a_mark a_bitsOf a_sizeOf a_number a_moved v_isKept v_taped v_at v_fault v_laid v_open v_s v_statuses v_pile v_wish) H locs → lv_has ls 7 [(0, .ref a_t), (1, .int y1), (2, .int y2), (3, .int y3), (4, .int y4)] → ag45 v_statuses v_pile v_wish y1 y2 y3 y4 = some (rr, kk') → W p l e rX5_invites s m args below meth c H locs 0 0 (MQ below (q_Ri D rr A ((fun k : (Nat → Int32) × (Nat → Int32) × (Nat → Int32) => (wX5_invites cI cJ cZ cS a_t a_s a_keptS a_statuses a_pile a_tape a_steps a_wish a_mark a_bitsOf a_sizeOf a_number a_moved v_isKept v_taped v_at v_fault v_laid v_open v_s k.1 k.2.1 k.2.2)) kk')) args s 0 0 A) (F0 m 45 ls [])) : ∀ {v_statuses : Nat → Int32} {v_pile : Nat → Int32} {v_wish : Nat → Int32} {y1 : Int32} {y2 : Int32} {y3 : Int32} {y4 : Int32} {H : Heap} {locs : List Loc} {ls : Array Slot}, q_H D A s (wX5_invites cI cJ cZ cS a_t a_s a_keptS a_statuses a_pile a_tape a_steps a_wish a_mark a_bitsOf a_sizeOf a_number a_moved v_isKept v_taped v_at v_fault v_laid v_open v_s v_statuses v_pile v_wish) H locs → lv_has ls 7 [(0, .ref a_t), (1, .int y1), (2, .int y2), (3, .int y3), (4, .int y4)] → fX5_invites_98 v_s ag45 v_statuses v_pile v_wish y1 y2 y3 y4 = some (rr, kk') → W p l e rX5_invites s m args below meth c H locs 0 0 (MQ below (q_Ri D rr A ((fun k : (Nat → Int32) × (Nat → Int32) × (Nat → Int32) => (wX5_invites cI cJ cZ cS a_t a_s a_keptS a_statuses a_pile a_tape a_steps a_wish a_mark a_bitsOf a_sizeOf a_number a_moved v_isKept v_taped v_at v_fault v_laid v_open v_s k.1 k.2.1 k.2.2)) kk')) args s 0 0 A) (F0 m 98 ls []) := by
  intro v_statuses v_pile v_wish y1 y2 y3 y4 H locs ls h hl hf
  have hx := fx.1
  have hb := fx.2.1
  unfold fX5_invites_98 at hf
  refine lv_iconst (v := 0) hx hb dX5_invites_98 (by decide) ?_
  exact LX5_invites_99 fx hag45 h (lv_sub hl [0, 1, 2, 3, 4] rfl) hf
def fX5_invites_45 (v_s : Nat → Int32) (ag45 : (Nat → Int32) → (Nat → Int32) → (Nat → Int32) → Int32 → Int32 → Int32 → Int32 → Option (Int32 × (Nat → Int32) × (Nat → Int32) × (Nat → Int32))) (v_statuses : Nat → Int32) (v_pile : Nat → Int32) (v_wish : Nat → Int32) (y1 : Int32) (y2 : Int32) (y3 : Int32) (y4 : Int32) : Option (Int32 × (Nat → Int32) × (Nat → Int32) × (Nat → Int32)) :=
  bR (fX5_lists v_s) (fun r7 k7 =>
  (if r7 ≤ y4 then (
  bR (fX5_orNone v_statuses y3) (fun r9 k9 =>
  some (r9, (k9, v_pile, v_wish))))
  else (
  bR (fX5_lastOf v_wish 0 y4) (fun r10 k10 =>
  bR (fX5_ones r10) (fun r11 k11 =>
  bR (fX5_in (r11.toInt64) (y1.toInt64) (y2.toInt64)) (fun r12 k12 =>
  (if r12 = 0 then (
  fX5_invites_98 v_s ag45 v_statuses v_pile v_wish y1 y2 y3 y4)
  else (
  gIn r10 256 (
  (if ((v_wish r10.toNatClampNeg) &&& y4) = r10 then (
  fX5_invites_99 v_s ag45 v_statuses v_pile v_wish 1 y1 y2 y3 y4)
  else (
  fX5_invites_98 v_s ag45 v_statuses v_pile v_wish y1 y2 y3 y4)))))))))))
set_option maxRecDepth 100000 in
set_option maxHeartbeats 4000000 in
theorem LX5_invites_45 {p : Program} {l : Launch} {e : Env} {s : State} {m : MethodId} {args : Array Value} {below : List Frame} {meth : Method} {c : Code} {D : va_G} {cI cJ cZ cS : ClassId} {tb : Nat} {A : Nat → Prop} {a_t a_s a_keptS a_statuses a_pile a_tape a_steps a_wish a_mark a_bitsOf a_sizeOf a_number a_moved : Nat} {v_isKept : Int32} {v_taped : Int32} {v_at : Int32} {v_fault : Int32} {v_laid : Int32} {v_open : Int32} {v_s : Nat → Int32} {rr : Int32} {kk' : (Nat → Int32) × (Nat → Int32) × (Nat → Int32)} (fx : q_Fx p s m args meth c cX5_invites 7 RX5 (some .int) D cI cJ cZ cS tb A) {ag45 : (Nat → Int32) → (Nat → Int32) → (Nat → Int32) → Int32 → Int32 → Int32 → Int32 → Option (Int32 × (Nat → Int32) × (Nat → Int32) × (Nat → Int32))} (hag45 : ∀ {v_statuses : Nat → Int32} {v_pile : Nat → Int32} {v_wish : Nat → Int32} {y1 : Int32} {y2 : Int32} {y3 : Int32} {y4 : Int32} {H : Heap} {locs : List Loc} {ls : Array Slot}, q_H D A s (wX5_invites cI cJ cZ cS a_t a_s a_keptS a_statuses a_pile a_tape a_steps a_wish a_mark a_bitsOf a_sizeOf a_number a_moved v_isKept v_taped v_at v_fault v_laid v_open v_s v_statuses v_pile v_wish) H locs → lv_has ls 7 [(0, .ref a_t), (1, .int y1), (2, .int y2), (3, .int y3), (4, .int y4)] → ag45 v_statuses v_pile v_wish y1 y2 y3 y4 = some (rr, kk') → W p l e rX5_invites s m args below meth c H locs 0 0 (MQ below (q_Ri D rr A ((fun k : (Nat → Int32) × (Nat → Int32) × (Nat → Int32) => (wX5_invites cI cJ cZ cS a_t a_s a_keptS a_statuses a_pile a_tape a_steps a_wish a_mark a_bitsOf a_sizeOf a_number a_moved v_isKept v_taped v_at v_fault v_laid v_open v_s k.1 k.2.1 k.2.2)) kk')) args s 0 0 A) (F0 m 45 ls [])) : ∀ {v_statuses : Nat → Int32} {v_pile : Nat → Int32} {v_wish : Nat → Int32} {y1 : Int32} {y2 : Int32} {y3 : Int32} {y4 : Int32} {H : Heap} {locs : List Loc} {ls : Array Slot}, q_H D A s (wX5_invites cI cJ cZ cS a_t a_s a_keptS a_statuses a_pile a_tape a_steps a_wish a_mark a_bitsOf a_sizeOf a_number a_moved v_isKept v_taped v_at v_fault v_laid v_open v_s v_statuses v_pile v_wish) H locs → lv_has ls 7 [(0, .ref a_t), (1, .int y1), (2, .int y2), (3, .int y3), (4, .int y4)] → fX5_invites_45 v_s ag45 v_statuses v_pile v_wish y1 y2 y3 y4 = some (rr, kk') → W p l e rX5_invites s m args below meth c H locs 0 0 (MQ below (q_Ri D rr A ((fun k : (Nat → Int32) × (Nat → Int32) × (Nat → Int32) => (wX5_invites cI cJ cZ cS a_t a_s a_keptS a_statuses a_pile a_tape a_steps a_wish a_mark a_bitsOf a_sizeOf a_number a_moved v_isKept v_taped v_at v_fault v_laid v_open v_s k.1 k.2.1 k.2.2)) kk')) args s 0 0 A) (F0 m 45 ls []) := by
  intro v_statuses v_pile v_wish y1 y2 y3 y4 H locs ls h hl hf
  have hx := fx.1
  have hb := fx.2.1
  unfold fX5_invites_45 at hf
  refine lv_iload hx hb dX5_invites_45 (lv_at hl 4 rfl) ?_
  refine lv_aload_n hx hb dX5_invites_47 rfl (lv_at hl 0 rfl) ?_
  obtain ⟨r7, k7, hg, hf⟩ := bR_inv hf
  refine q_ci (rest := [.int y4]) (ws' := (wX5_invites cI cJ cZ cS a_t a_s a_keptS a_statuses a_pile a_tape a_steps a_wish a_mark a_bitsOf a_sizeOf a_number a_moved v_isKept v_taped v_at v_fault v_laid v_open v_s v_statuses v_pile v_wish)) (w1 := (wX5_lists cI cJ cZ cS a_t a_s a_keptS a_statuses a_pile a_tape a_steps a_wish a_mark a_bitsOf a_sizeOf a_number a_moved v_isKept v_taped v_at v_fault v_laid v_open v_s)) fx h [0, 1] rfl rfl rfl rfl (q_runV fx h hl.1 [0, 1] rfl rfl (tX5_lists l D cI cJ cZ cS tb a_t a_s a_keptS a_statuses a_pile a_tape a_steps a_wish a_mark a_bitsOf a_sizeOf a_number a_moved H.size v_isKept v_taped v_at v_fault v_laid v_open v_s r7 k7 hg) mvX5_lists k_810 ⟨rfl, rfl⟩ ⟨Nat.le_of_ble_eq_true rfl, Nat.le_of_ble_eq_true rfl⟩ rfl rfl rfl rfl (Nat.le_of_ble_eq_true rfl) dX5_invites_48 ⟨Nat.le_of_ble_eq_true rfl, Nat.le_of_ble_eq_true rfl⟩) (fun H locs h => ?_)
  refine lv_icmp_ge (tgt := 135) hx hb dX5_invites_51 (by decide) (fun c8 => ?_) (fun c8 => ?_)
  · have hf := it_t c8 hf
    refine lv_aload_n hx hb dX5_invites_135 rfl (lv_at hl 0 rfl) ?_
    refine lv_iload_n hx hb dX5_invites_136 rfl (lv_at hl 3 rfl) ?_
    obtain ⟨r9, k9, hg, hf⟩ := bR_inv hf
    refine q_ci (rest := []) (ws' := (wX5_invites cI cJ cZ cS a_t a_s a_keptS a_statuses a_pile a_tape a_steps a_wish a_mark a_bitsOf a_sizeOf a_number a_moved v_isKept v_taped v_at v_fault v_laid v_open v_s k9 v_pile v_wish)) (w1 := (wX5_orNone cI cJ cZ cS a_t a_s a_keptS a_statuses a_pile a_tape a_steps a_wish a_mark a_bitsOf a_sizeOf a_number a_moved v_isKept v_taped v_at v_fault v_laid v_open k9)) fx h [0, 2] rfl rfl rfl rfl (q_runV fx h hl.1 [0, 2] rfl rfl (tX5_orNone l D cI cJ cZ cS tb a_t a_s a_keptS a_statuses a_pile a_tape a_steps a_wish a_mark a_bitsOf a_sizeOf a_number a_moved H.size v_isKept v_taped v_at v_fault v_laid v_open v_statuses y3 r9 k9 hg) mvX5_orNone k_877 ⟨rfl, rfl⟩ ⟨Nat.le_of_ble_eq_true rfl, Nat.le_of_ble_eq_true rfl⟩ rfl rfl rfl rfl (Nat.le_of_ble_eq_true rfl) dX5_invites_137 ⟨Nat.le_of_ble_eq_true rfl, Nat.le_of_ble_eq_true rfl⟩) (fun H locs h => ?_)
    exact q_reti (fun k : (Nat → Int32) × (Nat → Int32) × (Nat → Int32) => (wX5_invites cI cJ cZ cS a_t a_s a_keptS a_statuses a_pile a_tape a_steps a_wish a_mark a_bitsOf a_sizeOf a_number a_moved v_isKept v_taped v_at v_fault v_laid v_open v_s k.1 k.2.1 k.2.2)) fx hf h dX5_invites_140
  have hf := it_f c8 hf
  refine lv_aload_n hx hb dX5_invites_54 rfl (lv_at hl 0 rfl) ?_
  refine lv_iconst (v := 0) hx hb dX5_invites_55 (by decide) ?_
  refine lv_iload hx hb dX5_invites_56 (lv_at hl 4 rfl) ?_
  obtain ⟨r10, k10, hg, hf⟩ := bR_inv hf
  refine q_ci (rest := []) (ws' := (wX5_invites cI cJ cZ cS a_t a_s a_keptS a_statuses a_pile a_tape a_steps a_wish a_mark a_bitsOf a_sizeOf a_number a_moved v_isKept v_taped v_at v_fault v_laid v_open v_s v_statuses v_pile v_wish)) (w1 := (wX5_lastOf cI cJ cZ cS a_t a_s a_keptS a_statuses a_pile a_tape a_steps a_wish a_mark a_bitsOf a_sizeOf a_number a_moved v_isKept v_taped v_at v_fault v_laid v_open v_wish)) fx h [0, 4] rfl rfl rfl rfl (q_runV fx h hl.1 [0, 4] rfl rfl (tX5_lastOf l D cI cJ cZ cS tb a_t a_s a_keptS a_statuses a_pile a_tape a_steps a_wish a_mark a_bitsOf a_sizeOf a_number a_moved H.size v_isKept v_taped v_at v_fault v_laid v_open v_wish 0 y4 r10 k10 hg) mvX5_lastOf k_918 ⟨rfl, rfl⟩ ⟨Nat.le_of_ble_eq_true rfl, Nat.le_of_ble_eq_true rfl⟩ rfl rfl rfl rfl (Nat.le_of_ble_eq_true rfl) dX5_invites_58 ⟨Nat.le_of_ble_eq_true rfl, Nat.le_of_ble_eq_true rfl⟩) (fun H locs h => ?_)
  refine lv_istore (lv' := [(5, .int r10), (0, .ref a_t), (1, .int y1), (2, .int y2), (3, .int y3), (4, .int y4)]) hx hb dX5_invites_61 hl (by decide) rfl (fun ls hl => ?_)
  refine lv_iload hx hb dX5_invites_63 (lv_at hl 0 rfl) ?_
  obtain ⟨r11, k11, hg, hf⟩ := bR_inv hf
  refine q_ci (rest := []) (ws' := (wX5_invites cI cJ cZ cS a_t a_s a_keptS a_statuses a_pile a_tape a_steps a_wish a_mark a_bitsOf a_sizeOf a_number a_moved v_isKept v_taped v_at v_fault v_laid v_open v_s v_statuses v_pile v_wish)) (w1 := (wX5_ones cI cJ cZ cS)) fx h [] rfl rfl rfl rfl (q_runS fx h hl.1 [] rfl rfl (tX5_ones l D cI cJ cZ cS tb H.size r10 r11 k11 hg) msX5_ones k_722 ⟨rfl, rfl⟩ ⟨Nat.le_of_ble_eq_true rfl, Nat.le_of_ble_eq_true rfl⟩ rfl rfl (Nat.le_of_ble_eq_true rfl) dX5_invites_65 ⟨Nat.le_of_ble_eq_true rfl, Nat.le_of_ble_eq_true rfl⟩) (fun H locs h => ?_)
  refine lv_i2l hx hb dX5_invites_68 rfl ?_
  refine lv_iload_n hx hb dX5_invites_69 rfl (lv_at hl 2 rfl) ?_
  refine lv_i2l hx hb dX5_invites_70 rfl ?_
  refine lv_iload_n hx hb dX5_invites_71 rfl (lv_at hl 3 rfl) ?_
  refine lv_i2l hx hb dX5_invites_72 rfl ?_
  obtain ⟨r12, k12, hg, hf⟩ := bR_inv hf
  refine q_ci (rest := []) (ws' := (wX5_invites cI cJ cZ cS a_t a_s a_keptS a_statuses a_pile a_tape a_steps a_wish a_mark a_bitsOf a_sizeOf a_number a_moved v_isKept v_taped v_at v_fault v_laid v_open v_s v_statuses v_pile v_wish)) (w1 := (wX5_in cI cJ cZ cS)) fx h [] rfl rfl rfl rfl (q_runS fx h hl.1 [] rfl rfl (tX5_in l D cI cJ cZ cS tb H.size (r11.toInt64) (y1.toInt64) (y2.toInt64) r12 k12 hg) msX5_in k_697 ⟨rfl, rfl⟩ ⟨Nat.le_of_ble_eq_true rfl, Nat.le_of_ble_eq_true rfl⟩ rfl rfl (Nat.le_of_ble_eq_true rfl) dX5_invites_73 ⟨Nat.le_of_ble_eq_true rfl, Nat.le_of_ble_eq_true rfl⟩) (fun H locs h => ?_)
  refine lv_if_eq (tgt := 98) hx hb dX5_invites_76 (by decide) (fun c13 => ?_) (fun c13 => ?_)
  · have hf := it_t c13 hf
    exact LX5_invites_98 fx hag45 h (lv_sub hl [1, 2, 3, 4, 5] rfl) hf
  have hf := it_f c13 hf
  refine lv_aload_n hx hb dX5_invites_79 rfl (lv_at hl 1 rfl) ?_
  refine q_get (v := .ref a_wish) fx inX5 h 0 rfl rfl 12 (by decide) k_648 rfl dX5_invites_80 ?_
  refine lv_iload hx hb dX5_invites_83 (lv_at hl 0 rfl) ?_
  obtain ⟨i14, hf⟩ := gIn_inv hf
  refine q_iald fx h 4 rfl i14 dX5_invites_85 ?_
  refine lv_iload hx hb dX5_invites_86 (lv_at hl 5 rfl) ?_
  refine lv_iand hx hb dX5_invites_88 ?_
  refine lv_iload hx hb dX5_invites_89 (lv_at hl 0 rfl) ?_
  refine lv_icmp_ne (tgt := 98) hx hb dX5_invites_91 (by decide) (fun c15 => ?_) (fun c15 => ?_)
  · have hf := it_f c15 hf
    exact LX5_invites_98 fx hag45 h (lv_sub hl [1, 2, 3, 4, 5] rfl) hf
  have hf := it_t c15 hf
  refine lv_iconst (v := 1) hx hb dX5_invites_94 (by decide) ?_
  refine lv_goto (tgt := 99) hx hb dX5_invites_95 (by decide) ?_
  exact LX5_invites_99 fx hag45 h (lv_sub hl [1, 2, 3, 4, 5] rfl) hf
set_option maxRecDepth 100000 in
theorem EX5_invites_45 {p : Program} {l : Launch} {e : Env} {s : State} {m : MethodId} {args : Array Value} {below : List Frame} {meth : Method} {c : Code} {D : va_G} {cI cJ cZ cS : ClassId} {tb : Nat} {A : Nat → Prop} {a_t a_s a_keptS a_statuses a_pile a_tape a_steps a_wish a_mark a_bitsOf a_sizeOf a_number a_moved : Nat} {v_isKept : Int32} {v_taped : Int32} {v_at : Int32} {v_fault : Int32} {v_laid : Int32} {v_open : Int32} {v_s : Nat → Int32} {rr : Int32} {kk' : (Nat → Int32) × (Nat → Int32) × (Nat → Int32)} (fx : q_Fx p s m args meth c cX5_invites 7 RX5 (some .int) D cI cJ cZ cS tb A) : ∀ (n : Nat), ∀ {v_statuses : Nat → Int32} {v_pile : Nat → Int32} {v_wish : Nat → Int32} {y1 : Int32} {y2 : Int32} {y3 : Int32} {y4 : Int32} {H : Heap} {locs : List Loc} {ls : Array Slot}, q_H D A s (wX5_invites cI cJ cZ cS a_t a_s a_keptS a_statuses a_pile a_tape a_steps a_wish a_mark a_bitsOf a_sizeOf a_number a_moved v_isKept v_taped v_at v_fault v_laid v_open v_s v_statuses v_pile v_wish) H locs → lv_has ls 7 [(0, .ref a_t), (1, .int y1), (2, .int y2), (3, .int y3), (4, .int y4)] → ll7 (fX5_invites_45 v_s) n v_statuses v_pile v_wish y1 y2 y3 y4 = some (rr, kk') → W p l e rX5_invites s m args below meth c H locs 0 0 (MQ below (q_Ri D rr A ((fun k : (Nat → Int32) × (Nat → Int32) × (Nat → Int32) => (wX5_invites cI cJ cZ cS a_t a_s a_keptS a_statuses a_pile a_tape a_steps a_wish a_mark a_bitsOf a_sizeOf a_number a_moved v_isKept v_taped v_at v_fault v_laid v_open v_s k.1 k.2.1 k.2.2)) kk')) args s 0 0 A) (F0 m 45 ls []) := by
  intro n
  induction n with
  | zero => intro v_statuses v_pile v_wish y1 y2 y3 y4 H locs ls h hl hf; exact (ll7_z hf).elim
  | succ n ih => intro v_statuses v_pile v_wish y1 y2 y3 y4 H locs ls h hl hf; exact LX5_invites_45 fx ih h hl (ll7_s hf)
def fX5_invites_29 (v_s : Nat → Int32) (v_statuses : Nat → Int32) (v_pile : Nat → Int32) (v_wish : Nat → Int32) : Option (Int32 × (Nat → Int32) × (Nat → Int32) × (Nat → Int32)) :=
  bR (fX5_finds v_statuses (-1000000001)) (fun r16 k16 =>
  some (r16, (k16, v_pile, v_wish)))
set_option maxRecDepth 100000 in
set_option maxHeartbeats 4000000 in
theorem LX5_invites_29 {p : Program} {l : Launch} {e : Env} {s : State} {m : MethodId} {args : Array Value} {below : List Frame} {meth : Method} {c : Code} {D : va_G} {cI cJ cZ cS : ClassId} {tb : Nat} {A : Nat → Prop} {a_t a_s a_keptS a_statuses a_pile a_tape a_steps a_wish a_mark a_bitsOf a_sizeOf a_number a_moved : Nat} {v_isKept : Int32} {v_taped : Int32} {v_at : Int32} {v_fault : Int32} {v_laid : Int32} {v_open : Int32} {v_s : Nat → Int32} {rr : Int32} {kk' : (Nat → Int32) × (Nat → Int32) × (Nat → Int32)} (fx : q_Fx p s m args meth c cX5_invites 7 RX5 (some .int) D cI cJ cZ cS tb A) : ∀ {v_statuses : Nat → Int32} {v_pile : Nat → Int32} {v_wish : Nat → Int32} {H : Heap} {locs : List Loc} {ls : Array Slot}, q_H D A s (wX5_invites cI cJ cZ cS a_t a_s a_keptS a_statuses a_pile a_tape a_steps a_wish a_mark a_bitsOf a_sizeOf a_number a_moved v_isKept v_taped v_at v_fault v_laid v_open v_s v_statuses v_pile v_wish) H locs → lv_has ls 7 [(0, .ref a_t)] → fX5_invites_29 v_s v_statuses v_pile v_wish = some (rr, kk') → W p l e rX5_invites s m args below meth c H locs 0 0 (MQ below (q_Ri D rr A ((fun k : (Nat → Int32) × (Nat → Int32) × (Nat → Int32) => (wX5_invites cI cJ cZ cS a_t a_s a_keptS a_statuses a_pile a_tape a_steps a_wish a_mark a_bitsOf a_sizeOf a_number a_moved v_isKept v_taped v_at v_fault v_laid v_open v_s k.1 k.2.1 k.2.2)) kk')) args s 0 0 A) (F0 m 29 ls []) := by
  intro v_statuses v_pile v_wish H locs ls h hl hf
  have hx := fx.1
  have hb := fx.2.1
  unfold fX5_invites_29 at hf
  refine lv_aload_n hx hb dX5_invites_29 rfl (lv_at hl 0 rfl) ?_
  refine q_ldc fx k_701 dX5_invites_30 ?_
  obtain ⟨r16, k16, hg, hf⟩ := bR_inv hf
  refine q_ci (rest := []) (ws' := (wX5_invites cI cJ cZ cS a_t a_s a_keptS a_statuses a_pile a_tape a_steps a_wish a_mark a_bitsOf a_sizeOf a_number a_moved v_isKept v_taped v_at v_fault v_laid v_open v_s k16 v_pile v_wish)) (w1 := (wX5_finds cI cJ cZ cS a_t a_s a_keptS a_statuses a_pile a_tape a_steps a_wish a_mark a_bitsOf a_sizeOf a_number a_moved v_isKept v_taped v_at v_fault v_laid v_open k16)) fx h [0, 2] rfl rfl rfl rfl (q_runV fx h hl.1 [0, 2] rfl rfl (tX5_finds l D cI cJ cZ cS tb a_t a_s a_keptS a_statuses a_pile a_tape a_steps a_wish a_mark a_bitsOf a_sizeOf a_number a_moved H.size v_isKept v_taped v_at v_fault v_laid v_open v_statuses (-1000000001) r16 k16 hg) mvX5_finds k_702 ⟨rfl, rfl⟩ ⟨Nat.le_of_ble_eq_true rfl, Nat.le_of_ble_eq_true rfl⟩ rfl rfl rfl rfl (Nat.le_of_ble_eq_true rfl) dX5_invites_32 ⟨Nat.le_of_ble_eq_true rfl, Nat.le_of_ble_eq_true rfl⟩) (fun H locs h => ?_)
  exact q_reti (fun k : (Nat → Int32) × (Nat → Int32) × (Nat → Int32) => (wX5_invites cI cJ cZ cS a_t a_s a_keptS a_statuses a_pile a_tape a_steps a_wish a_mark a_bitsOf a_sizeOf a_number a_moved v_isKept v_taped v_at v_fault v_laid v_open v_s k.1 k.2.1 k.2.2)) fx hf h dX5_invites_35
def fX5_invites (v_s : Nat → Int32) (v_statuses : Nat → Int32) (v_pile : Nat → Int32) (v_wish : Nat → Int32) (x1 : Int32) (x2 : Int32) : Option (Int32 × (Nat → Int32) × (Nat → Int32) × (Nat → Int32)) :=
  bR (fX5_in (x1.toInt64) 0 8) (fun r17 k17 =>
  (if r17 = 0 then (
  fX5_invites_29 v_s v_statuses v_pile v_wish)
  else (
  bR (fX5_in (x2.toInt64) 0 8) (fun r19 k19 =>
  (if r19 = 0 then (
  fX5_invites_29 v_s v_statuses v_pile v_wish)
  else (
  (if x1 ≤ x2 then (
  bV (fX5_looksAll v_s v_pile v_wish) (fun k22 =>
  ll7 (fX5_invites_45 v_s) qF v_statuses k22.1 k22.2 x1 x2 (-1) 0))
  else (
  fX5_invites_29 v_s v_statuses v_pile v_wish))))))))
set_option maxRecDepth 100000 in
set_option maxHeartbeats 4000000 in
theorem tX5_invites (l : Launch) (D : va_G) (cI cJ cZ cS : ClassId) (tb : Nat) (a_t a_s a_keptS a_statuses a_pile a_tape a_steps a_wish a_mark a_bitsOf a_sizeOf a_number a_moved : Nat) (sz : Nat) (v_isKept : Int32) (v_taped : Int32) (v_at : Int32) (v_fault : Int32) (v_laid : Int32) (v_open : Int32) (v_s : Nat → Int32) (v_statuses : Nat → Int32) (v_pile : Nat → Int32) (v_wish : Nat → Int32) (x1 : Int32) (x2 : Int32) (rr : Int32) (kk' : (Nat → Int32) × (Nat → Int32) × (Nat → Int32)) (hf : fX5_invites v_s v_statuses v_pile v_wish x1 x2 = some (rr, kk')) : Met l yX5_invites (Cond.code yX5_invites cX5_invites 7 (some .int) :: wA) rX5_invites (q_Pre D cI cJ cZ cS tb [.ref a_t, .int x1, .int x2] sz (wX5_invites cI cJ cZ cS a_t a_s a_keptS a_statuses a_pile a_tape a_steps a_wish a_mark a_bitsOf a_sizeOf a_number a_moved v_isKept v_taped v_at v_fault v_laid v_open v_s v_statuses v_pile v_wish)) (q_Ri D rr (va_A (wX5_invites cI cJ cZ cS a_t a_s a_keptS a_statuses a_pile a_tape a_steps a_wish a_mark a_bitsOf a_sizeOf a_number a_moved v_isKept v_taped v_at v_fault v_laid v_open v_s v_statuses v_pile v_wish) sz) ((fun k : (Nat → Int32) × (Nat → Int32) × (Nat → Int32) => (wX5_invites cI cJ cZ cS a_t a_s a_keptS a_statuses a_pile a_tape a_steps a_wish a_mark a_bitsOf a_sizeOf a_number a_moved v_isKept v_taped v_at v_fault v_laid v_open v_s k.1 k.2.1 k.2.2)) kk')) 0 0 (va_A (wX5_invites cI cJ cZ cS a_t a_s a_keptS a_statuses a_pile a_tape a_steps a_wish a_mark a_bitsOf a_sizeOf a_number a_moved v_isKept v_taped v_at v_fault v_laid v_open v_s v_statuses v_pile v_wish) sz) := by
  refine q_enter (Qf := fun A => (q_Ri D rr A ((fun k : (Nat → Int32) × (Nat → Int32) × (Nat → Int32) => (wX5_invites cI cJ cZ cS a_t a_s a_keptS a_statuses a_pile a_tape a_steps a_wish a_mark a_bitsOf a_sizeOf a_number a_moved v_isKept v_taped v_at v_fault v_laid v_open v_s k.1 k.2.1 k.2.2)) kk'))) (by decide) rfl (Nat.le_of_ble_eq_true rfl) ?_
  intro p e s m below meth c A ls fx hname h hl
  have hx := fx.1
  have hb := fx.2.1
  have hl : lv_has ls 7 [(0, .ref a_t), (1, .int x1), (2, .int x2)] := hl
  generalize h9 : s.heap = H at h ⊢
  clear h9
  generalize h9 : ([] : List Loc) = locs at h ⊢
  clear h9
  unfold fX5_invites at hf
  refine lv_iload_n hx hb dX5_invites_0 rfl (lv_at hl 1 rfl) ?_
  refine lv_i2l hx hb dX5_invites_1 rfl ?_
  refine lv_lconst (v := 0) hx hb dX5_invites_2 (by decide) ?_
  refine q_ldc2 fx k_926 dX5_invites_3 ?_
  obtain ⟨r17, k17, hg, hf⟩ := bR_inv hf
  refine q_ci (rest := []) (ws' := (wX5_invites cI cJ cZ cS a_t a_s a_keptS a_statuses a_pile a_tape a_steps a_wish a_mark a_bitsOf a_sizeOf a_number a_moved v_isKept v_taped v_at v_fault v_laid v_open v_s v_statuses v_pile v_wish)) (w1 := (wX5_in cI cJ cZ cS)) fx h [] rfl rfl rfl rfl (q_runS fx h hl.1 [] rfl rfl (tX5_in l D cI cJ cZ cS tb H.size (x1.toInt64) 0 8 r17 k17 hg) msX5_in k_697 ⟨rfl, rfl⟩ ⟨Nat.le_of_ble_eq_true rfl, Nat.le_of_ble_eq_true rfl⟩ rfl rfl (Nat.le_of_ble_eq_true rfl) dX5_invites_6 ⟨Nat.le_of_ble_eq_true rfl, Nat.le_of_ble_eq_true rfl⟩) (fun H locs h => ?_)
  refine lv_if_eq (tgt := 29) hx hb dX5_invites_9 (by decide) (fun c18 => ?_) (fun c18 => ?_)
  · have hf := it_t c18 hf
    exact LX5_invites_29 fx h (lv_sub hl [0] rfl) hf
  have hf := it_f c18 hf
  refine lv_iload_n hx hb dX5_invites_12 rfl (lv_at hl 2 rfl) ?_
  refine lv_i2l hx hb dX5_invites_13 rfl ?_
  refine lv_lconst (v := 0) hx hb dX5_invites_14 (by decide) ?_
  refine q_ldc2 fx k_926 dX5_invites_15 ?_
  obtain ⟨r19, k19, hg, hf⟩ := bR_inv hf
  refine q_ci (rest := []) (ws' := (wX5_invites cI cJ cZ cS a_t a_s a_keptS a_statuses a_pile a_tape a_steps a_wish a_mark a_bitsOf a_sizeOf a_number a_moved v_isKept v_taped v_at v_fault v_laid v_open v_s v_statuses v_pile v_wish)) (w1 := (wX5_in cI cJ cZ cS)) fx h [] rfl rfl rfl rfl (q_runS fx h hl.1 [] rfl rfl (tX5_in l D cI cJ cZ cS tb H.size (x2.toInt64) 0 8 r19 k19 hg) msX5_in k_697 ⟨rfl, rfl⟩ ⟨Nat.le_of_ble_eq_true rfl, Nat.le_of_ble_eq_true rfl⟩ rfl rfl (Nat.le_of_ble_eq_true rfl) dX5_invites_18 ⟨Nat.le_of_ble_eq_true rfl, Nat.le_of_ble_eq_true rfl⟩) (fun H locs h => ?_)
  refine lv_if_eq (tgt := 29) hx hb dX5_invites_21 (by decide) (fun c20 => ?_) (fun c20 => ?_)
  · have hf := it_t c20 hf
    exact LX5_invites_29 fx h (lv_sub hl [0] rfl) hf
  have hf := it_f c20 hf
  refine lv_iload_n hx hb dX5_invites_24 rfl (lv_at hl 1 rfl) ?_
  refine lv_iload_n hx hb dX5_invites_25 rfl (lv_at hl 2 rfl) ?_
  refine lv_icmp_le (tgt := 36) hx hb dX5_invites_26 (by decide) (fun c21 => ?_) (fun c21 => ?_)
  · have hf := it_t c21 hf
    refine lv_aload_n hx hb dX5_invites_36 rfl (lv_at hl 0 rfl) ?_
    obtain ⟨k22, hg, hf⟩ := bV_inv hf
    refine q_cv (rest := []) (ws' := (wX5_invites cI cJ cZ cS a_t a_s a_keptS a_statuses a_pile a_tape a_steps a_wish a_mark a_bitsOf a_sizeOf a_number a_moved v_isKept v_taped v_at v_fault v_laid v_open v_s v_statuses k22.1 k22.2)) (w1 := (wX5_looksAll cI cJ cZ cS a_t a_s a_keptS a_statuses a_pile a_tape a_steps a_wish a_mark a_bitsOf a_sizeOf a_number a_moved v_isKept v_taped v_at v_fault v_laid v_open v_s k22.1 k22.2)) fx h [0, 1, 3, 4] rfl rfl rfl rfl (q_runV fx h hl.1 [0, 1, 3, 4] rfl rfl (tX5_looksAll l D cI cJ cZ cS tb a_t a_s a_keptS a_statuses a_pile a_tape a_steps a_wish a_mark a_bitsOf a_sizeOf a_number a_moved H.size v_isKept v_taped v_at v_fault v_laid v_open v_s v_pile v_wish k22 hg) mvX5_looksAll k_860 ⟨rfl, rfl⟩ ⟨Nat.le_of_ble_eq_true rfl, Nat.le_of_ble_eq_true rfl⟩ rfl rfl rfl rfl (Nat.le_of_ble_eq_true rfl) dX5_invites_37 ⟨Nat.le_of_ble_eq_true rfl, Nat.le_of_ble_eq_true rfl⟩) (fun H locs h => ?_)
    refine lv_iconst (v := -1) hx hb dX5_invites_40 (by decide) ?_
    refine lv_istore_n (lv' := [(3, .int (-1)), (0, .ref a_t), (1, .int x1), (2, .int x2)]) hx hb dX5_invites_41 rfl hl (by decide) rfl (fun ls hl => ?_)
    refine lv_iconst (v := 0) hx hb dX5_invites_42 (by decide) ?_
    refine lv_istore (lv' := [(4, .int 0), (3, .int (-1)), (0, .ref a_t), (1, .int x1), (2, .int x2)]) hx hb dX5_invites_43 hl (by decide) rfl (fun ls hl => ?_)
    exact EX5_invites_45 fx qF h (lv_sub hl [2, 3, 4, 1, 0] rfl) hf
  have hf := it_f c21 hf
  exact LX5_invites_29 fx h (lv_sub hl [0] rfl) hf
end
section
/-! X5_against -/
abbrev wX5_against (cI cJ cZ cS : ClassId) (a_t a_s a_keptS a_statuses a_pile a_tape a_steps a_wish a_mark a_bitsOf a_sizeOf a_number a_moved : Nat) (v_isKept : Int32) (v_taped : Int32) (v_at : Int32) (v_fault : Int32) (v_laid : Int32) (v_open : Int32) (v_s : Nat → Int32) (v_statuses : Nat → Int32) (v_pile : Nat → Int32) (v_wish : Nat → Int32) : va_W := [(a_t, .inr (5, [.ref a_s, .ref a_keptS, .ref a_statuses, .int v_isKept, .ref a_pile, .ref a_tape, .ref a_steps, .int v_taped, .int v_at, .int v_fault, .int v_laid, .int v_open, .ref a_wish, .ref a_mark, .ref a_bitsOf, .ref a_sizeOf, .ref a_number, .ref a_moved])), (a_s, .inl (cI, 538, .inl v_s)), (a_statuses, .inl (cI, 7, .inl v_statuses)), (a_pile, .inl (cZ, 64, .inl v_pile)), (a_wish, .inl (cI, 256, .inl v_wish))]
abbrev rX5_against : Room := { frames := 6, cells := 0, slots := 0, locals := 137 }
def fX5_against_154 (v_s : Nat → Int32) (ag43 : (Nat → Int32) → (Nat → Int32) → (Nat → Int32) → Int32 → Int32 → Int32 → Int32 → Int32 → Int32 → Option (Int32 × (Nat → Int32) × (Nat → Int32) × (Nat → Int32))) (v_statuses : Nat → Int32) (v_pile : Nat → Int32) (v_wish : Nat → Int32) (s0 : Int32) (y1 : Int32) (y2 : Int32) (y3 : Int32) (y4 : Int32) (y6 : Int32) : Option (Int32 × (Nat → Int32) × (Nat → Int32) × (Nat → Int32)) :=
  nm (y6 + 1) (fun u1 =>
  ag43 v_statuses v_pile v_wish y1 y2 y3 y4 s0 u1)
set_option maxRecDepth 100000 in
set_option maxHeartbeats 4000000 in
theorem LX5_against_154 {p : Program} {l : Launch} {e : Env} {s : State} {m : MethodId} {args : Array Value} {below : List Frame} {meth : Method} {c : Code} {D : va_G} {cI cJ cZ cS : ClassId} {tb : Nat} {A : Nat → Prop} {a_t a_s a_keptS a_statuses a_pile a_tape a_steps a_wish a_mark a_bitsOf a_sizeOf a_number a_moved : Nat} {v_isKept : Int32} {v_taped : Int32} {v_at : Int32} {v_fault : Int32} {v_laid : Int32} {v_open : Int32} {v_s : Nat → Int32} {rr : Int32} {kk' : (Nat → Int32) × (Nat → Int32) × (Nat → Int32)} (fx : q_Fx p s m args meth c cX5_against 8 RX5 (some .int) D cI cJ cZ cS tb A) {ag43 : (Nat → Int32) → (Nat → Int32) → (Nat → Int32) → Int32 → Int32 → Int32 → Int32 → Int32 → Int32 → Option (Int32 × (Nat → Int32) × (Nat → Int32) × (Nat → Int32))} (hag43 : ∀ {v_statuses : Nat → Int32} {v_pile : Nat → Int32} {v_wish : Nat → Int32} {y1 : Int32} {y2 : Int32} {y3 : Int32} {y4 : Int32} {y5 : Int32} {y6 : Int32} {H : Heap} {locs : List Loc} {ls : Array Slot}, q_H D A s (wX5_against cI cJ cZ cS a_t a_s a_keptS a_statuses a_pile a_tape a_steps a_wish a_mark a_bitsOf a_sizeOf a_number a_moved v_isKept v_taped v_at v_fault v_laid v_open v_s v_statuses v_pile v_wish) H locs → lv_has ls 8 [(0, .ref a_t), (1, .int y1), (2, .int y2), (3, .int y3), (4, .int y4), (5, .int y5), (6, .int y6)] → ag43 v_statuses v_pile v_wish y1 y2 y3 y4 y5 y6 = some (rr, kk') → W p l e rX5_against s m args below meth c H locs 0 0 (MQ below (q_Ri D rr A ((fun k : (Nat → Int32) × (Nat → Int32) × (Nat → Int32) => (wX5_against cI cJ cZ cS a_t a_s a_keptS a_statuses a_pile a_tape a_steps a_wish a_mark a_bitsOf a_sizeOf a_number a_moved v_isKept v_taped v_at v_fault v_laid v_open v_s k.1 k.2.1 k.2.2)) kk')) args s 0 0 A) (F0 m 43 ls [])) : ∀ {v_statuses : Nat → Int32} {v_pile : Nat → Int32} {v_wish : Nat → Int32} {s0 : Int32} {y1 : Int32} {y2 : Int32} {y3 : Int32} {y4 : Int32} {y6 : Int32} {H : Heap} {locs : List Loc} {ls : Array Slot}, q_H D A s (wX5_against cI cJ cZ cS a_t a_s a_keptS a_statuses a_pile a_tape a_steps a_wish a_mark a_bitsOf a_sizeOf a_number a_moved v_isKept v_taped v_at v_fault v_laid v_open v_s v_statuses v_pile v_wish) H locs → lv_has ls 8 [(0, .ref a_t), (1, .int y1), (2, .int y2), (3, .int y3), (4, .int y4), (6, .int y6)] → fX5_against_154 v_s ag43 v_statuses v_pile v_wish s0 y1 y2 y3 y4 y6 = some (rr, kk') → W p l e rX5_against s m args below meth c H locs 0 0 (MQ below (q_Ri D rr A ((fun k : (Nat → Int32) × (Nat → Int32) × (Nat → Int32) => (wX5_against cI cJ cZ cS a_t a_s a_keptS a_statuses a_pile a_tape a_steps a_wish a_mark a_bitsOf a_sizeOf a_number a_moved v_isKept v_taped v_at v_fault v_laid v_open v_s k.1 k.2.1 k.2.2)) kk')) args s 0 0 A) (F0 m 154 ls [.int s0]) := by
  intro v_statuses v_pile v_wish s0 y1 y2 y3 y4 y6 H locs ls h hl hf
  have hx := fx.1
  have hb := fx.2.1
  unfold fX5_against_154 at hf
  refine lv_istore (lv' := [(5, .int s0), (0, .ref a_t), (1, .int y1), (2, .int y2), (3, .int y3), (4, .int y4), (6, .int y6)]) hx hb dX5_against_154 hl (by decide) rfl (fun ls hl => ?_)
  obtain ⟨u1, eu1, hf⟩ := nm_inv hf
  refine lv_iinc (v := u1) (lv' := [(6, .int u1), (5, .int s0), (0, .ref a_t), (1, .int y1), (2, .int y2), (3, .int y3), (4, .int y4)]) hx hb dX5_against_156 hl (k := 6) rfl (by rw [eu1]; rfl) (by decide) rfl (fun ls hl => ?_)
  refine lv_goto (tgt := 43) hx hb dX5_against_159 (by decide) ?_
  exact hag43 h (lv_sub hl [2, 3, 4, 5, 6, 1, 0] rfl) hf
def fX5_against_153 (v_s : Nat → Int32) (ag43 : (Nat → Int32) → (Nat → Int32) → (Nat → Int32) → Int32 → Int32 → Int32 → Int32 → Int32 → Int32 → Option (Int32 × (Nat → Int32) × (Nat → Int32) × (Nat → Int32))) (v_statuses : Nat → Int32) (v_pile : Nat → Int32) (v_wish : Nat → Int32) (y1 : Int32) (y2 : Int32) (y3 : Int32) (y4 : Int32) (y6 : Int32) : Option (Int32 × (Nat → Int32) × (Nat → Int32) × (Nat → Int32)) :=
  fX5_against_154 v_s ag43 v_statuses v_pile v_wish 0 y1 y2 y3 y4 y6
set_option maxRecDepth 100000 in
set_option maxHeartbeats 4000000 in
theorem LX5_against_153 {p : Program} {l : Launch} {e : Env} {s : State} {m : MethodId} {args : Array Value} {below : List Frame} {meth : Method} {c : Code} {D : va_G} {cI cJ cZ cS : ClassId} {tb : Nat} {A : Nat → Prop} {a_t a_s a_keptS a_statuses a_pile a_tape a_steps a_wish a_mark a_bitsOf a_sizeOf a_number a_moved : Nat} {v_isKept : Int32} {v_taped : Int32} {v_at : Int32} {v_fault : Int32} {v_laid : Int32} {v_open : Int32} {v_s : Nat → Int32} {rr : Int32} {kk' : (Nat → Int32) × (Nat → Int32) × (Nat → Int32)} (fx : q_Fx p s m args meth c cX5_against 8 RX5 (some .int) D cI cJ cZ cS tb A) {ag43 : (Nat → Int32) → (Nat → Int32) → (Nat → Int32) → Int32 → Int32 → Int32 → Int32 → Int32 → Int32 → Option (Int32 × (Nat → Int32) × (Nat → Int32) × (Nat → Int32))} (hag43 : ∀ {v_statuses : Nat → Int32} {v_pile : Nat → Int32} {v_wish : Nat → Int32} {y1 : Int32} {y2 : Int32} {y3 : Int32} {y4 : Int32} {y5 : Int32} {y6 : Int32} {H : Heap} {locs : List Loc} {ls : Array Slot}, q_H D A s (wX5_against cI cJ cZ cS a_t a_s a_keptS a_statuses a_pile a_tape a_steps a_wish a_mark a_bitsOf a_sizeOf a_number a_moved v_isKept v_taped v_at v_fault v_laid v_open v_s v_statuses v_pile v_wish) H locs → lv_has ls 8 [(0, .ref a_t), (1, .int y1), (2, .int y2), (3, .int y3), (4, .int y4), (5, .int y5), (6, .int y6)] → ag43 v_statuses v_pile v_wish y1 y2 y3 y4 y5 y6 = some (rr, kk') → W p l e rX5_against s m args below meth c H locs 0 0 (MQ below (q_Ri D rr A ((fun k : (Nat → Int32) × (Nat → Int32) × (Nat → Int32) => (wX5_against cI cJ cZ cS a_t a_s a_keptS a_statuses a_pile a_tape a_steps a_wish a_mark a_bitsOf a_sizeOf a_number a_moved v_isKept v_taped v_at v_fault v_laid v_open v_s k.1 k.2.1 k.2.2)) kk')) args s 0 0 A) (F0 m 43 ls [])) : ∀ {v_statuses : Nat → Int32} {v_pile : Nat → Int32} {v_wish : Nat → Int32} {y1 : Int32} {y2 : Int32} {y3 : Int32} {y4 : Int32} {y6 : Int32} {H : Heap} {locs : List Loc} {ls : Array Slot}, q_H D A s (wX5_against cI cJ cZ cS a_t a_s a_keptS a_statuses a_pile a_tape a_steps a_wish a_mark a_bitsOf a_sizeOf a_number a_moved v_isKept v_taped v_at v_fault v_laid v_open v_s v_statuses v_pile v_wish) H locs → lv_has ls 8 [(0, .ref a_t), (1, .int y1), (2, .int y2), (3, .int y3), (4, .int y4), (6, .int y6)] → fX5_against_153 v_s ag43 v_statuses v_pile v_wish y1 y2 y3 y4 y6 = some (rr, kk') → W p l e rX5_against s m args below meth c H locs 0 0 (MQ below (q_Ri D rr A ((fun k : (Nat → Int32) × (Nat → Int32) × (Nat → Int32) => (wX5_against cI cJ cZ cS a_t a_s a_keptS a_statuses a_pile a_tape a_steps a_wish a_mark a_bitsOf a_sizeOf a_number a_moved v_isKept v_taped v_at v_fault v_laid v_open v_s k.1 k.2.1 k.2.2)) kk')) args s 0 0 A) (F0 m 153 ls []) := by
  intro v_statuses v_pile v_wish y1 y2 y3 y4 y6 H locs ls h hl hf
  have hx := fx.1
  have hb := fx.2.1
  unfold fX5_against_153 at hf
  refine lv_iconst (v := 0) hx hb dX5_against_153 (by decide) ?_
  exact LX5_against_154 fx hag43 h (lv_sub hl [0, 1, 2, 3, 4, 5] rfl) hf
def fX5_against_149 (v_s : Nat → Int32) (ag43 : (Nat → Int32) → (Nat → Int32) → (Nat → Int32) → Int32 → Int32 → Int32 → Int32 → Int32 → Int32 → Option (Int32 × (Nat → Int32) × (Nat → Int32) × (Nat → Int32))) (v_statuses : Nat → Int32) (v_pile : Nat → Int32) (v_wish : Nat → Int32) (y1 : Int32) (y2 : Int32) (y3 : Int32) (y4 : Int32) (y6 : Int32) : Option (Int32 × (Nat → Int32) × (Nat → Int32) × (Nat → Int32)) :=
  fX5_against_154 v_s ag43 v_statuses v_pile v_wish 1 y1 y2 y3 y4 y6
set_option maxRecDepth 100000 in
set_option maxHeartbeats 4000000 in
theorem LX5_against_149 {p : Program} {l : Launch} {e : Env} {s : State} {m : MethodId} {args : Array Value} {below : List Frame} {meth : Method} {c : Code} {D : va_G} {cI cJ cZ cS : ClassId} {tb : Nat} {A : Nat → Prop} {a_t a_s a_keptS a_statuses a_pile a_tape a_steps a_wish a_mark a_bitsOf a_sizeOf a_number a_moved : Nat} {v_isKept : Int32} {v_taped : Int32} {v_at : Int32} {v_fault : Int32} {v_laid : Int32} {v_open : Int32} {v_s : Nat → Int32} {rr : Int32} {kk' : (Nat → Int32) × (Nat → Int32) × (Nat → Int32)} (fx : q_Fx p s m args meth c cX5_against 8 RX5 (some .int) D cI cJ cZ cS tb A) {ag43 : (Nat → Int32) → (Nat → Int32) → (Nat → Int32) → Int32 → Int32 → Int32 → Int32 → Int32 → Int32 → Option (Int32 × (Nat → Int32) × (Nat → Int32) × (Nat → Int32))} (hag43 : ∀ {v_statuses : Nat → Int32} {v_pile : Nat → Int32} {v_wish : Nat → Int32} {y1 : Int32} {y2 : Int32} {y3 : Int32} {y4 : Int32} {y5 : Int32} {y6 : Int32} {H : Heap} {locs : List Loc} {ls : Array Slot}, q_H D A s (wX5_against cI cJ cZ cS a_t a_s a_keptS a_statuses a_pile a_tape a_steps a_wish a_mark a_bitsOf a_sizeOf a_number a_moved v_isKept v_taped v_at v_fault v_laid v_open v_s v_statuses v_pile v_wish) H locs → lv_has ls 8 [(0, .ref a_t), (1, .int y1), (2, .int y2), (3, .int y3), (4, .int y4), (5, .int y5), (6, .int y6)] → ag43 v_statuses v_pile v_wish y1 y2 y3 y4 y5 y6 = some (rr, kk') → W p l e rX5_against s m args below meth c H locs 0 0 (MQ below (q_Ri D rr A ((fun k : (Nat → Int32) × (Nat → Int32) × (Nat → Int32) => (wX5_against cI cJ cZ cS a_t a_s a_keptS a_statuses a_pile a_tape a_steps a_wish a_mark a_bitsOf a_sizeOf a_number a_moved v_isKept v_taped v_at v_fault v_laid v_open v_s k.1 k.2.1 k.2.2)) kk')) args s 0 0 A) (F0 m 43 ls [])) : ∀ {v_statuses : Nat → Int32} {v_pile : Nat → Int32} {v_wish : Nat → Int32} {y1 : Int32} {y2 : Int32} {y3 : Int32} {y4 : Int32} {y6 : Int32} {H : Heap} {locs : List Loc} {ls : Array Slot}, q_H D A s (wX5_against cI cJ cZ cS a_t a_s a_keptS a_statuses a_pile a_tape a_steps a_wish a_mark a_bitsOf a_sizeOf a_number a_moved v_isKept v_taped v_at v_fault v_laid v_open v_s v_statuses v_pile v_wish) H locs → lv_has ls 8 [(0, .ref a_t), (1, .int y1), (2, .int y2), (3, .int y3), (4, .int y4), (6, .int y6)] → fX5_against_149 v_s ag43 v_statuses v_pile v_wish y1 y2 y3 y4 y6 = some (rr, kk') → W p l e rX5_against s m args below meth c H locs 0 0 (MQ below (q_Ri D rr A ((fun k : (Nat → Int32) × (Nat → Int32) × (Nat → Int32) => (wX5_against cI cJ cZ cS a_t a_s a_keptS a_statuses a_pile a_tape a_steps a_wish a_mark a_bitsOf a_sizeOf a_number a_moved v_isKept v_taped v_at v_fault v_laid v_open v_s k.1 k.2.1 k.2.2)) kk')) args s 0 0 A) (F0 m 149 ls []) := by
  intro v_statuses v_pile v_wish y1 y2 y3 y4 y6 H locs ls h hl hf
  have hx := fx.1
  have hb := fx.2.1
  unfold fX5_against_149 at hf
  refine lv_iconst (v := 1) hx hb dX5_against_149 (by decide) ?_
  refine lv_goto (tgt := 154) hx hb dX5_against_150 (by decide) ?_
  exact LX5_against_154 fx hag43 h (lv_sub hl [0, 1, 2, 3, 4, 5] rfl) hf
def fX5_against_119 (v_s : Nat → Int32) (ag43 : (Nat → Int32) → (Nat → Int32) → (Nat → Int32) → Int32 → Int32 → Int32 → Int32 → Int32 → Int32 → Option (Int32 × (Nat → Int32) × (Nat → Int32) × (Nat → Int32))) (v_statuses : Nat → Int32) (v_pile : Nat → Int32) (v_wish : Nat → Int32) (s0 : Int32) (y1 : Int32) (y2 : Int32) (y3 : Int32) (y5 : Int32) (y6 : Int32) (y7 : Int32) : Option (Int32 × (Nat → Int32) × (Nat → Int32) × (Nat → Int32)) :=
  (if y5 = 0 then (
  (if y7 = 0 then (
  fX5_against_153 v_s ag43 v_statuses v_pile v_wish y1 y2 y3 s0 y6)
  else (
  bR (fX5_has y6 y1) (fun r4 k4 =>
  (if r4 = 0 then (
  fX5_against_153 v_s ag43 v_statuses v_pile v_wish y1 y2 y3 s0 y6)
  else (
  bR (fX5_has y6 y2) (fun r6 k6 =>
  (if r6 = 0 then (
  fX5_against_153 v_s ag43 v_statuses v_pile v_wish y1 y2 y3 s0 y6)
  else (
  fX5_against_149 v_s ag43 v_statuses v_pile v_wish y1 y2 y3 s0 y6)))))))))
  else (
  fX5_against_149 v_s ag43 v_statuses v_pile v_wish y1 y2 y3 s0 y6))
set_option maxRecDepth 100000 in
set_option maxHeartbeats 4000000 in
theorem LX5_against_119 {p : Program} {l : Launch} {e : Env} {s : State} {m : MethodId} {args : Array Value} {below : List Frame} {meth : Method} {c : Code} {D : va_G} {cI cJ cZ cS : ClassId} {tb : Nat} {A : Nat → Prop} {a_t a_s a_keptS a_statuses a_pile a_tape a_steps a_wish a_mark a_bitsOf a_sizeOf a_number a_moved : Nat} {v_isKept : Int32} {v_taped : Int32} {v_at : Int32} {v_fault : Int32} {v_laid : Int32} {v_open : Int32} {v_s : Nat → Int32} {rr : Int32} {kk' : (Nat → Int32) × (Nat → Int32) × (Nat → Int32)} (fx : q_Fx p s m args meth c cX5_against 8 RX5 (some .int) D cI cJ cZ cS tb A) {ag43 : (Nat → Int32) → (Nat → Int32) → (Nat → Int32) → Int32 → Int32 → Int32 → Int32 → Int32 → Int32 → Option (Int32 × (Nat → Int32) × (Nat → Int32) × (Nat → Int32))} (hag43 : ∀ {v_statuses : Nat → Int32} {v_pile : Nat → Int32} {v_wish : Nat → Int32} {y1 : Int32} {y2 : Int32} {y3 : Int32} {y4 : Int32} {y5 : Int32} {y6 : Int32} {H : Heap} {locs : List Loc} {ls : Array Slot}, q_H D A s (wX5_against cI cJ cZ cS a_t a_s a_keptS a_statuses a_pile a_tape a_steps a_wish a_mark a_bitsOf a_sizeOf a_number a_moved v_isKept v_taped v_at v_fault v_laid v_open v_s v_statuses v_pile v_wish) H locs → lv_has ls 8 [(0, .ref a_t), (1, .int y1), (2, .int y2), (3, .int y3), (4, .int y4), (5, .int y5), (6, .int y6)] → ag43 v_statuses v_pile v_wish y1 y2 y3 y4 y5 y6 = some (rr, kk') → W p l e rX5_against s m args below meth c H locs 0 0 (MQ below (q_Ri D rr A ((fun k : (Nat → Int32) × (Nat → Int32) × (Nat → Int32) => (wX5_against cI cJ cZ cS a_t a_s a_keptS a_statuses a_pile a_tape a_steps a_wish a_mark a_bitsOf a_sizeOf a_number a_moved v_isKept v_taped v_at v_fault v_laid v_open v_s k.1 k.2.1 k.2.2)) kk')) args s 0 0 A) (F0 m 43 ls [])) : ∀ {v_statuses : Nat → Int32} {v_pile : Nat → Int32} {v_wish : Nat → Int32} {s0 : Int32} {y1 : Int32} {y2 : Int32} {y3 : Int32} {y5 : Int32} {y6 : Int32} {y7 : Int32} {H : Heap} {locs : List Loc} {ls : Array Slot}, q_H D A s (wX5_against cI cJ cZ cS a_t a_s a_keptS a_statuses a_pile a_tape a_steps a_wish a_mark a_bitsOf a_sizeOf a_number a_moved v_isKept v_taped v_at v_fault v_laid v_open v_s v_statuses v_pile v_wish) H locs → lv_has ls 8 [(0, .ref a_t), (1, .int y1), (2, .int y2), (3, .int y3), (5, .int y5), (6, .int y6), (7, .int y7)] → fX5_against_119 v_s ag43 v_statuses v_pile v_wish s0 y1 y2 y3 y5 y6 y7 = some (rr, kk') → W p l e rX5_against s m args below meth c H locs 0 0 (MQ below (q_Ri D rr A ((fun k : (Nat → Int32) × (Nat → Int32) × (Nat → Int32) => (wX5_against cI cJ cZ cS a_t a_s a_keptS a_statuses a_pile a_tape a_steps a_wish a_mark a_bitsOf a_sizeOf a_number a_moved v_isKept v_taped v_at v_fault v_laid v_open v_s k.1 k.2.1 k.2.2)) kk')) args s 0 0 A) (F0 m 119 ls [.int s0]) := by
  intro v_statuses v_pile v_wish s0 y1 y2 y3 y5 y6 y7 H locs ls h hl hf
  have hx := fx.1
  have hb := fx.2.1
  unfold fX5_against_119 at hf
  refine lv_istore (lv' := [(4, .int s0), (0, .ref a_t), (1, .int y1), (2, .int y2), (3, .int y3), (5, .int y5), (6, .int y6), (7, .int y7)]) hx hb dX5_against_119 hl (by decide) rfl (fun ls hl => ?_)
  refine lv_iload hx hb dX5_against_121 (lv_at hl 5 rfl) ?_
  refine lv_if_ne (tgt := 149) hx hb dX5_against_123 (by decide) (fun c2 => ?_) (fun c2 => ?_)
  · have hf := it_f c2 hf
    exact LX5_against_149 fx hag43 h (lv_sub hl [1, 2, 3, 4, 0, 6] rfl) hf
  have hf := it_t c2 hf
  refine lv_iload hx hb dX5_against_126 (lv_at hl 7 rfl) ?_
  refine lv_if_eq (tgt := 153) hx hb dX5_against_128 (by decide) (fun c3 => ?_) (fun c3 => ?_)
  · have hf := it_t c3 hf
    exact LX5_against_153 fx hag43 h (lv_sub hl [1, 2, 3, 4, 0, 6] rfl) hf
  have hf := it_f c3 hf
  refine lv_iload hx hb dX5_against_131 (lv_at hl 6 rfl) ?_
  refine lv_iload_n hx hb dX5_against_133 rfl (lv_at hl 2 rfl) ?_
  obtain ⟨r4, k4, hg, hf⟩ := bR_inv hf
  refine q_ci (rest := []) (ws' := (wX5_against cI cJ cZ cS a_t a_s a_keptS a_statuses a_pile a_tape a_steps a_wish a_mark a_bitsOf a_sizeOf a_number a_moved v_isKept v_taped v_at v_fault v_laid v_open v_s v_statuses v_pile v_wish)) (w1 := (wX5_has cI cJ cZ cS)) fx h [] rfl rfl rfl rfl (q_runS fx h hl.1 [] rfl rfl (tX5_has l D cI cJ cZ cS tb H.size y6 y1 r4 k4 hg) msX5_has k_733 ⟨rfl, rfl⟩ ⟨Nat.le_of_ble_eq_true rfl, Nat.le_of_ble_eq_true rfl⟩ rfl rfl (Nat.le_of_ble_eq_true rfl) dX5_against_134 ⟨Nat.le_of_ble_eq_true rfl, Nat.le_of_ble_eq_true rfl⟩) (fun H locs h => ?_)
  refine lv_if_eq (tgt := 153) hx hb dX5_against_137 (by decide) (fun c5 => ?_) (fun c5 => ?_)
  · have hf := it_t c5 hf
    exact LX5_against_153 fx hag43 h (lv_sub hl [1, 2, 3, 4, 0, 6] rfl) hf
  have hf := it_f c5 hf
  refine lv_iload hx hb dX5_against_140 (lv_at hl 6 rfl) ?_
  refine lv_iload_n hx hb dX5_against_142 rfl (lv_at hl 3 rfl) ?_
  obtain ⟨r6, k6, hg, hf⟩ := bR_inv hf
  refine q_ci (rest := []) (ws' := (wX5_against cI cJ cZ cS a_t a_s a_keptS a_statuses a_pile a_tape a_steps a_wish a_mark a_bitsOf a_sizeOf a_number a_moved v_isKept v_taped v_at v_fault v_laid v_open v_s v_statuses v_pile v_wish)) (w1 := (wX5_has cI cJ cZ cS)) fx h [] rfl rfl rfl rfl (q_runS fx h hl.1 [] rfl rfl (tX5_has l D cI cJ cZ cS tb H.size y6 y2 r6 k6 hg) msX5_has k_733 ⟨rfl, rfl⟩ ⟨Nat.le_of_ble_eq_true rfl, Nat.le_of_ble_eq_true rfl⟩ rfl rfl (Nat.le_of_ble_eq_true rfl) dX5_against_143 ⟨Nat.le_of_ble_eq_true rfl, Nat.le_of_ble_eq_true rfl⟩) (fun H locs h => ?_)
  refine lv_if_eq (tgt := 153) hx hb dX5_against_146 (by decide) (fun c7 => ?_) (fun c7 => ?_)
  · have hf := it_t c7 hf
    exact LX5_against_153 fx hag43 h (lv_sub hl [1, 2, 3, 4, 0, 6] rfl) hf
  have hf := it_f c7 hf
  exact LX5_against_149 fx hag43 h (lv_sub hl [1, 2, 3, 4, 0, 6] rfl) hf
def fX5_against_118 (v_s : Nat → Int32) (ag43 : (Nat → Int32) → (Nat → Int32) → (Nat → Int32) → Int32 → Int32 → Int32 → Int32 → Int32 → Int32 → Option (Int32 × (Nat → Int32) × (Nat → Int32) × (Nat → Int32))) (v_statuses : Nat → Int32) (v_pile : Nat → Int32) (v_wish : Nat → Int32) (y1 : Int32) (y2 : Int32) (y3 : Int32) (y5 : Int32) (y6 : Int32) (y7 : Int32) : Option (Int32 × (Nat → Int32) × (Nat → Int32) × (Nat → Int32)) :=
  fX5_against_119 v_s ag43 v_statuses v_pile v_wish 0 y1 y2 y3 y5 y6 y7
set_option maxRecDepth 100000 in
set_option maxHeartbeats 4000000 in
theorem LX5_against_118 {p : Program} {l : Launch} {e : Env} {s : State} {m : MethodId} {args : Array Value} {below : List Frame} {meth : Method} {c : Code} {D : va_G} {cI cJ cZ cS : ClassId} {tb : Nat} {A : Nat → Prop} {a_t a_s a_keptS a_statuses a_pile a_tape a_steps a_wish a_mark a_bitsOf a_sizeOf a_number a_moved : Nat} {v_isKept : Int32} {v_taped : Int32} {v_at : Int32} {v_fault : Int32} {v_laid : Int32} {v_open : Int32} {v_s : Nat → Int32} {rr : Int32} {kk' : (Nat → Int32) × (Nat → Int32) × (Nat → Int32)} (fx : q_Fx p s m args meth c cX5_against 8 RX5 (some .int) D cI cJ cZ cS tb A) {ag43 : (Nat → Int32) → (Nat → Int32) → (Nat → Int32) → Int32 → Int32 → Int32 → Int32 → Int32 → Int32 → Option (Int32 × (Nat → Int32) × (Nat → Int32) × (Nat → Int32))} (hag43 : ∀ {v_statuses : Nat → Int32} {v_pile : Nat → Int32} {v_wish : Nat → Int32} {y1 : Int32} {y2 : Int32} {y3 : Int32} {y4 : Int32} {y5 : Int32} {y6 : Int32} {H : Heap} {locs : List Loc} {ls : Array Slot}, q_H D A s (wX5_against cI cJ cZ cS a_t a_s a_keptS a_statuses a_pile a_tape a_steps a_wish a_mark a_bitsOf a_sizeOf a_number a_moved v_isKept v_taped v_at v_fault v_laid v_open v_s v_statuses v_pile v_wish) H locs → lv_has ls 8 [(0, .ref a_t), (1, .int y1), (2, .int y2), (3, .int y3), (4, .int y4), (5, .int y5), (6, .int y6)] → ag43 v_statuses v_pile v_wish y1 y2 y3 y4 y5 y6 = some (rr, kk') → W p l e rX5_against s m args below meth c H locs 0 0 (MQ below (q_Ri D rr A ((fun k : (Nat → Int32) × (Nat → Int32) × (Nat → Int32) => (wX5_against cI cJ cZ cS a_t a_s a_keptS a_statuses a_pile a_tape a_steps a_wish a_mark a_bitsOf a_sizeOf a_number a_moved v_isKept v_taped v_at v_fault v_laid v_open v_s k.1 k.2.1 k.2.2)) kk')) args s 0 0 A) (F0 m 43 ls [])) : ∀ {v_statuses : Nat → Int32} {v_pile : Nat → Int32} {v_wish : Nat → Int32} {y1 : Int32} {y2 : Int32} {y3 : Int32} {y5 : Int32} {y6 : Int32} {y7 : Int32} {H : Heap} {locs : List Loc} {ls : Array Slot}, q_H D A s (wX5_against cI cJ cZ cS a_t a_s a_keptS a_statuses a_pile a_tape a_steps a_wish a_mark a_bitsOf a_sizeOf a_number a_moved v_isKept v_taped v_at v_fault v_laid v_open v_s v_statuses v_pile v_wish) H locs → lv_has ls 8 [(0, .ref a_t), (1, .int y1), (2, .int y2), (3, .int y3), (5, .int y5), (6, .int y6), (7, .int y7)] → fX5_against_118 v_s ag43 v_statuses v_pile v_wish y1 y2 y3 y5 y6 y7 = some (rr, kk') → W p l e rX5_against s m args below meth c H locs 0 0 (MQ below (q_Ri D rr A ((fun k : (Nat → Int32) × (Nat → Int32) × (Nat → Int32) => (wX5_against cI cJ cZ cS a_t a_s a_keptS a_statuses a_pile a_tape a_steps a_wish a_mark a_bitsOf a_sizeOf a_number a_moved v_isKept v_taped v_at v_fault v_laid v_open v_s k.1 k.2.1 k.2.2)) kk')) args s 0 0 A) (F0 m 118 ls []) := by
  intro v_statuses v_pile v_wish y1 y2 y3 y5 y6 y7 H locs ls h hl hf
  have hx := fx.1
  have hb := fx.2.1
  unfold fX5_against_118 at hf
  refine lv_iconst (v := 0) hx hb dX5_against_118 (by decide) ?_
  exact LX5_against_119 fx hag43 h (lv_sub hl [0, 1, 2, 3, 4, 5, 6] rfl) hf
def fX5_against_114 (v_s : Nat → Int32) (ag43 : (Nat → Int32) → (Nat → Int32) → (Nat → Int32) → Int32 → Int32 → Int32 → Int32 → Int32 → Int32 → Option (Int32 × (Nat → Int32) × (Nat → Int32) × (Nat → Int32))) (v_statuses : Nat → Int32) (v_pile : Nat → Int32) (v_wish : Nat → Int32) (y1 : Int32) (y2 : Int32) (y3 : Int32) (y5 : Int32) (y6 : Int32) (y7 : Int32) : Option (Int32 × (Nat → Int32) × (Nat → Int32) × (Nat → Int32)) :=
  fX5_against_119 v_s ag43 v_statuses v_pile v_wish 1 y1 y2 y3 y5 y6 y7
set_option maxRecDepth 100000 in
set_option maxHeartbeats 4000000 in
theorem LX5_against_114 {p : Program} {l : Launch} {e : Env} {s : State} {m : MethodId} {args : Array Value} {below : List Frame} {meth : Method} {c : Code} {D : va_G} {cI cJ cZ cS : ClassId} {tb : Nat} {A : Nat → Prop} {a_t a_s a_keptS a_statuses a_pile a_tape a_steps a_wish a_mark a_bitsOf a_sizeOf a_number a_moved : Nat} {v_isKept : Int32} {v_taped : Int32} {v_at : Int32} {v_fault : Int32} {v_laid : Int32} {v_open : Int32} {v_s : Nat → Int32} {rr : Int32} {kk' : (Nat → Int32) × (Nat → Int32) × (Nat → Int32)} (fx : q_Fx p s m args meth c cX5_against 8 RX5 (some .int) D cI cJ cZ cS tb A) {ag43 : (Nat → Int32) → (Nat → Int32) → (Nat → Int32) → Int32 → Int32 → Int32 → Int32 → Int32 → Int32 → Option (Int32 × (Nat → Int32) × (Nat → Int32) × (Nat → Int32))} (hag43 : ∀ {v_statuses : Nat → Int32} {v_pile : Nat → Int32} {v_wish : Nat → Int32} {y1 : Int32} {y2 : Int32} {y3 : Int32} {y4 : Int32} {y5 : Int32} {y6 : Int32} {H : Heap} {locs : List Loc} {ls : Array Slot}, q_H D A s (wX5_against cI cJ cZ cS a_t a_s a_keptS a_statuses a_pile a_tape a_steps a_wish a_mark a_bitsOf a_sizeOf a_number a_moved v_isKept v_taped v_at v_fault v_laid v_open v_s v_statuses v_pile v_wish) H locs → lv_has ls 8 [(0, .ref a_t), (1, .int y1), (2, .int y2), (3, .int y3), (4, .int y4), (5, .int y5), (6, .int y6)] → ag43 v_statuses v_pile v_wish y1 y2 y3 y4 y5 y6 = some (rr, kk') → W p l e rX5_against s m args below meth c H locs 0 0 (MQ below (q_Ri D rr A ((fun k : (Nat → Int32) × (Nat → Int32) × (Nat → Int32) => (wX5_against cI cJ cZ cS a_t a_s a_keptS a_statuses a_pile a_tape a_steps a_wish a_mark a_bitsOf a_sizeOf a_number a_moved v_isKept v_taped v_at v_fault v_laid v_open v_s k.1 k.2.1 k.2.2)) kk')) args s 0 0 A) (F0 m 43 ls [])) : ∀ {v_statuses : Nat → Int32} {v_pile : Nat → Int32} {v_wish : Nat → Int32} {y1 : Int32} {y2 : Int32} {y3 : Int32} {y5 : Int32} {y6 : Int32} {y7 : Int32} {H : Heap} {locs : List Loc} {ls : Array Slot}, q_H D A s (wX5_against cI cJ cZ cS a_t a_s a_keptS a_statuses a_pile a_tape a_steps a_wish a_mark a_bitsOf a_sizeOf a_number a_moved v_isKept v_taped v_at v_fault v_laid v_open v_s v_statuses v_pile v_wish) H locs → lv_has ls 8 [(0, .ref a_t), (1, .int y1), (2, .int y2), (3, .int y3), (5, .int y5), (6, .int y6), (7, .int y7)] → fX5_against_114 v_s ag43 v_statuses v_pile v_wish y1 y2 y3 y5 y6 y7 = some (rr, kk') → W p l e rX5_against s m args below meth c H locs 0 0 (MQ below (q_Ri D rr A ((fun k : (Nat → Int32) × (Nat → Int32) × (Nat → Int32) => (wX5_against cI cJ cZ cS a_t a_s a_keptS a_statuses a_pile a_tape a_steps a_wish a_mark a_bitsOf a_sizeOf a_number a_moved v_isKept v_taped v_at v_fault v_laid v_open v_s k.1 k.2.1 k.2.2)) kk')) args s 0 0 A) (F0 m 114 ls []) := by
  intro v_statuses v_pile v_wish y1 y2 y3 y5 y6 y7 H locs ls h hl hf
  have hx := fx.1
  have hb := fx.2.1
  unfold fX5_against_114 at hf
  refine lv_iconst (v := 1) hx hb dX5_against_114 (by decide) ?_
  refine lv_goto (tgt := 119) hx hb dX5_against_115 (by decide) ?_
  exact LX5_against_119 fx hag43 h (lv_sub hl [0, 1, 2, 3, 4, 5, 6] rfl) hf
def fX5_against_94 (v_s : Nat → Int32) (ag43 : (Nat → Int32) → (Nat → Int32) → (Nat → Int32) → Int32 → Int32 → Int32 → Int32 → Int32 → Int32 → Option (Int32 × (Nat → Int32) × (Nat → Int32) × (Nat → Int32))) (v_statuses : Nat → Int32) (v_pile : Nat → Int32) (v_wish : Nat → Int32) (s0 : Int32) (y1 : Int32) (y2 : Int32) (y4 : Int32) (y5 : Int32) (y6 : Int32) (y7 : Int32) : Option (Int32 × (Nat → Int32) × (Nat → Int32) × (Nat → Int32)) :=
  (if y4 = 0 then (
  (if y7 = 0 then (
  fX5_against_118 v_s ag43 v_statuses v_pile v_wish y1 y2 s0 y5 y6 y7)
  else (
  bR (fX5_has y6 y2) (fun r10 k10 =>
  (if r10 = 0 then (
  fX5_against_118 v_s ag43 v_statuses v_pile v_wish y1 y2 s0 y5 y6 y7)
  else (
  fX5_against_114 v_s ag43 v_statuses v_pile v_wish y1 y2 s0 y5 y6 y7))))))
  else (
  fX5_against_114 v_s ag43 v_statuses v_pile v_wish y1 y2 s0 y5 y6 y7))
set_option maxRecDepth 100000 in
set_option maxHeartbeats 4000000 in
theorem LX5_against_94 {p : Program} {l : Launch} {e : Env} {s : State} {m : MethodId} {args : Array Value} {below : List Frame} {meth : Method} {c : Code} {D : va_G} {cI cJ cZ cS : ClassId} {tb : Nat} {A : Nat → Prop} {a_t a_s a_keptS a_statuses a_pile a_tape a_steps a_wish a_mark a_bitsOf a_sizeOf a_number a_moved : Nat} {v_isKept : Int32} {v_taped : Int32} {v_at : Int32} {v_fault : Int32} {v_laid : Int32} {v_open : Int32} {v_s : Nat → Int32} {rr : Int32} {kk' : (Nat → Int32) × (Nat → Int32) × (Nat → Int32)} (fx : q_Fx p s m args meth c cX5_against 8 RX5 (some .int) D cI cJ cZ cS tb A) {ag43 : (Nat → Int32) → (Nat → Int32) → (Nat → Int32) → Int32 → Int32 → Int32 → Int32 → Int32 → Int32 → Option (Int32 × (Nat → Int32) × (Nat → Int32) × (Nat → Int32))} (hag43 : ∀ {v_statuses : Nat → Int32} {v_pile : Nat → Int32} {v_wish : Nat → Int32} {y1 : Int32} {y2 : Int32} {y3 : Int32} {y4 : Int32} {y5 : Int32} {y6 : Int32} {H : Heap} {locs : List Loc} {ls : Array Slot}, q_H D A s (wX5_against cI cJ cZ cS a_t a_s a_keptS a_statuses a_pile a_tape a_steps a_wish a_mark a_bitsOf a_sizeOf a_number a_moved v_isKept v_taped v_at v_fault v_laid v_open v_s v_statuses v_pile v_wish) H locs → lv_has ls 8 [(0, .ref a_t), (1, .int y1), (2, .int y2), (3, .int y3), (4, .int y4), (5, .int y5), (6, .int y6)] → ag43 v_statuses v_pile v_wish y1 y2 y3 y4 y5 y6 = some (rr, kk') → W p l e rX5_against s m args below meth c H locs 0 0 (MQ below (q_Ri D rr A ((fun k : (Nat → Int32) × (Nat → Int32) × (Nat → Int32) => (wX5_against cI cJ cZ cS a_t a_s a_keptS a_statuses a_pile a_tape a_steps a_wish a_mark a_bitsOf a_sizeOf a_number a_moved v_isKept v_taped v_at v_fault v_laid v_open v_s k.1 k.2.1 k.2.2)) kk')) args s 0 0 A) (F0 m 43 ls [])) : ∀ {v_statuses : Nat → Int32} {v_pile : Nat → Int32} {v_wish : Nat → Int32} {s0 : Int32} {y1 : Int32} {y2 : Int32} {y4 : Int32} {y5 : Int32} {y6 : Int32} {y7 : Int32} {H : Heap} {locs : List Loc} {ls : Array Slot}, q_H D A s (wX5_against cI cJ cZ cS a_t a_s a_keptS a_statuses a_pile a_tape a_steps a_wish a_mark a_bitsOf a_sizeOf a_number a_moved v_isKept v_taped v_at v_fault v_laid v_open v_s v_statuses v_pile v_wish) H locs → lv_has ls 8 [(0, .ref a_t), (1, .int y1), (2, .int y2), (4, .int y4), (5, .int y5), (6, .int y6), (7, .int y7)] → fX5_against_94 v_s ag43 v_statuses v_pile v_wish s0 y1 y2 y4 y5 y6 y7 = some (rr, kk') → W p l e rX5_against s m args below meth c H locs 0 0 (MQ below (q_Ri D rr A ((fun k : (Nat → Int32) × (Nat → Int32) × (Nat → Int32) => (wX5_against cI cJ cZ cS a_t a_s a_keptS a_statuses a_pile a_tape a_steps a_wish a_mark a_bitsOf a_sizeOf a_number a_moved v_isKept v_taped v_at v_fault v_laid v_open v_s k.1 k.2.1 k.2.2)) kk')) args s 0 0 A) (F0 m 94 ls [.int s0]) := by
  intro v_statuses v_pile v_wish s0 y1 y2 y4 y5 y6 y7 H locs ls h hl hf
  have hx := fx.1
  have hb := fx.2.1
  unfold fX5_against_94 at hf
  refine lv_istore_n (lv' := [(3, .int s0), (0, .ref a_t), (1, .int y1), (2, .int y2), (4, .int y4), (5, .int y5), (6, .int y6), (7, .int y7)]) hx hb dX5_against_94 rfl hl (by decide) rfl (fun ls hl => ?_)
  refine lv_iload hx hb dX5_against_95 (lv_at hl 4 rfl) ?_
  refine lv_if_ne (tgt := 114) hx hb dX5_against_97 (by decide) (fun c8 => ?_) (fun c8 => ?_)
  · have hf := it_f c8 hf
    exact LX5_against_114 fx hag43 h (lv_sub hl [1, 2, 3, 0, 5, 6, 7] rfl) hf
  have hf := it_t c8 hf
  refine lv_iload hx hb dX5_against_100 (lv_at hl 7 rfl) ?_
  refine lv_if_eq (tgt := 118) hx hb dX5_against_102 (by decide) (fun c9 => ?_) (fun c9 => ?_)
  · have hf := it_t c9 hf
    exact LX5_against_118 fx hag43 h (lv_sub hl [1, 2, 3, 0, 5, 6, 7] rfl) hf
  have hf := it_f c9 hf
  refine lv_iload hx hb dX5_against_105 (lv_at hl 6 rfl) ?_
  refine lv_iload_n hx hb dX5_against_107 rfl (lv_at hl 3 rfl) ?_
  obtain ⟨r10, k10, hg, hf⟩ := bR_inv hf
  refine q_ci (rest := []) (ws' := (wX5_against cI cJ cZ cS a_t a_s a_keptS a_statuses a_pile a_tape a_steps a_wish a_mark a_bitsOf a_sizeOf a_number a_moved v_isKept v_taped v_at v_fault v_laid v_open v_s v_statuses v_pile v_wish)) (w1 := (wX5_has cI cJ cZ cS)) fx h [] rfl rfl rfl rfl (q_runS fx h hl.1 [] rfl rfl (tX5_has l D cI cJ cZ cS tb H.size y6 y2 r10 k10 hg) msX5_has k_733 ⟨rfl, rfl⟩ ⟨Nat.le_of_ble_eq_true rfl, Nat.le_of_ble_eq_true rfl⟩ rfl rfl (Nat.le_of_ble_eq_true rfl) dX5_against_108 ⟨Nat.le_of_ble_eq_true rfl, Nat.le_of_ble_eq_true rfl⟩) (fun H locs h => ?_)
  refine lv_if_eq (tgt := 118) hx hb dX5_against_111 (by decide) (fun c11 => ?_) (fun c11 => ?_)
  · have hf := it_t c11 hf
    exact LX5_against_118 fx hag43 h (lv_sub hl [1, 2, 3, 0, 5, 6, 7] rfl) hf
  have hf := it_f c11 hf
  exact LX5_against_114 fx hag43 h (lv_sub hl [1, 2, 3, 0, 5, 6, 7] rfl) hf
def fX5_against_93 (v_s : Nat → Int32) (ag43 : (Nat → Int32) → (Nat → Int32) → (Nat → Int32) → Int32 → Int32 → Int32 → Int32 → Int32 → Int32 → Option (Int32 × (Nat → Int32) × (Nat → Int32) × (Nat → Int32))) (v_statuses : Nat → Int32) (v_pile : Nat → Int32) (v_wish : Nat → Int32) (y1 : Int32) (y2 : Int32) (y4 : Int32) (y5 : Int32) (y6 : Int32) (y7 : Int32) : Option (Int32 × (Nat → Int32) × (Nat → Int32) × (Nat → Int32)) :=
  fX5_against_94 v_s ag43 v_statuses v_pile v_wish 0 y1 y2 y4 y5 y6 y7
set_option maxRecDepth 100000 in
set_option maxHeartbeats 4000000 in
theorem LX5_against_93 {p : Program} {l : Launch} {e : Env} {s : State} {m : MethodId} {args : Array Value} {below : List Frame} {meth : Method} {c : Code} {D : va_G} {cI cJ cZ cS : ClassId} {tb : Nat} {A : Nat → Prop} {a_t a_s a_keptS a_statuses a_pile a_tape a_steps a_wish a_mark a_bitsOf a_sizeOf a_number a_moved : Nat} {v_isKept : Int32} {v_taped : Int32} {v_at : Int32} {v_fault : Int32} {v_laid : Int32} {v_open : Int32} {v_s : Nat → Int32} {rr : Int32} {kk' : (Nat → Int32) × (Nat → Int32) × (Nat → Int32)} (fx : q_Fx p s m args meth c cX5_against 8 RX5 (some .int) D cI cJ cZ cS tb A) {ag43 : (Nat → Int32) → (Nat → Int32) → (Nat → Int32) → Int32 → Int32 → Int32 → Int32 → Int32 → Int32 → Option (Int32 × (Nat → Int32) × (Nat → Int32) × (Nat → Int32))} (hag43 : ∀ {v_statuses : Nat → Int32} {v_pile : Nat → Int32} {v_wish : Nat → Int32} {y1 : Int32} {y2 : Int32} {y3 : Int32} {y4 : Int32} {y5 : Int32} {y6 : Int32} {H : Heap} {locs : List Loc} {ls : Array Slot}, q_H D A s (wX5_against cI cJ cZ cS a_t a_s a_keptS a_statuses a_pile a_tape a_steps a_wish a_mark a_bitsOf a_sizeOf a_number a_moved v_isKept v_taped v_at v_fault v_laid v_open v_s v_statuses v_pile v_wish) H locs → lv_has ls 8 [(0, .ref a_t), (1, .int y1), (2, .int y2), (3, .int y3), (4, .int y4), (5, .int y5), (6, .int y6)] → ag43 v_statuses v_pile v_wish y1 y2 y3 y4 y5 y6 = some (rr, kk') → W p l e rX5_against s m args below meth c H locs 0 0 (MQ below (q_Ri D rr A ((fun k : (Nat → Int32) × (Nat → Int32) × (Nat → Int32) => (wX5_against cI cJ cZ cS a_t a_s a_keptS a_statuses a_pile a_tape a_steps a_wish a_mark a_bitsOf a_sizeOf a_number a_moved v_isKept v_taped v_at v_fault v_laid v_open v_s k.1 k.2.1 k.2.2)) kk')) args s 0 0 A) (F0 m 43 ls [])) : ∀ {v_statuses : Nat → Int32} {v_pile : Nat → Int32} {v_wish : Nat → Int32} {y1 : Int32} {y2 : Int32} {y4 : Int32} {y5 : Int32} {y6 : Int32} {y7 : Int32} {H : Heap} {locs : List Loc} {ls : Array Slot}, q_H D A s (wX5_against cI cJ cZ cS a_t a_s a_keptS a_statuses a_pile a_tape a_steps a_wish a_mark a_bitsOf a_sizeOf a_number a_moved v_isKept v_taped v_at v_fault v_laid v_open v_s v_statuses v_pile v_wish) H locs → lv_has ls 8 [(0, .ref a_t), (1, .int y1), (2, .int y2), (4, .int y4), (5, .int y5), (6, .int y6), (7, .int y7)] → fX5_against_93 v_s ag43 v_statuses v_pile v_wish y1 y2 y4 y5 y6 y7 = some (rr, kk') → W p l e rX5_against s m args below meth c H locs 0 0 (MQ below (q_Ri D rr A ((fun k : (Nat → Int32) × (Nat → Int32) × (Nat → Int32) => (wX5_against cI cJ cZ cS a_t a_s a_keptS a_statuses a_pile a_tape a_steps a_wish a_mark a_bitsOf a_sizeOf a_number a_moved v_isKept v_taped v_at v_fault v_laid v_open v_s k.1 k.2.1 k.2.2)) kk')) args s 0 0 A) (F0 m 93 ls []) := by
  intro v_statuses v_pile v_wish y1 y2 y4 y5 y6 y7 H locs ls h hl hf
  have hx := fx.1
  have hb := fx.2.1
  unfold fX5_against_93 at hf
  refine lv_iconst (v := 0) hx hb dX5_against_93 (by decide) ?_
  exact LX5_against_94 fx hag43 h (lv_sub hl [0, 1, 2, 3, 4, 5, 6] rfl) hf
def fX5_against_89 (v_s : Nat → Int32) (ag43 : (Nat → Int32) → (Nat → Int32) → (Nat → Int32) → Int32 → Int32 → Int32 → Int32 → Int32 → Int32 → Option (Int32 × (Nat → Int32) × (Nat → Int32) × (Nat → Int32))) (v_statuses : Nat → Int32) (v_pile : Nat → Int32) (v_wish : Nat → Int32) (y1 : Int32) (y2 : Int32) (y4 : Int32) (y5 : Int32) (y6 : Int32) (y7 : Int32) : Option (Int32 × (Nat → Int32) × (Nat → Int32) × (Nat → Int32)) :=
  fX5_against_94 v_s ag43 v_statuses v_pile v_wish 1 y1 y2 y4 y5 y6 y7
set_option maxRecDepth 100000 in
set_option maxHeartbeats 4000000 in
theorem LX5_against_89 {p : Program} {l : Launch} {e : Env} {s : State} {m : MethodId} {args : Array Value} {below : List Frame} {meth : Method} {c : Code} {D : va_G} {cI cJ cZ cS : ClassId} {tb : Nat} {A : Nat → Prop} {a_t a_s a_keptS a_statuses a_pile a_tape a_steps a_wish a_mark a_bitsOf a_sizeOf a_number a_moved : Nat} {v_isKept : Int32} {v_taped : Int32} {v_at : Int32} {v_fault : Int32} {v_laid : Int32} {v_open : Int32} {v_s : Nat → Int32} {rr : Int32} {kk' : (Nat → Int32) × (Nat → Int32) × (Nat → Int32)} (fx : q_Fx p s m args meth c cX5_against 8 RX5 (some .int) D cI cJ cZ cS tb A) {ag43 : (Nat → Int32) → (Nat → Int32) → (Nat → Int32) → Int32 → Int32 → Int32 → Int32 → Int32 → Int32 → Option (Int32 × (Nat → Int32) × (Nat → Int32) × (Nat → Int32))} (hag43 : ∀ {v_statuses : Nat → Int32} {v_pile : Nat → Int32} {v_wish : Nat → Int32} {y1 : Int32} {y2 : Int32} {y3 : Int32} {y4 : Int32} {y5 : Int32} {y6 : Int32} {H : Heap} {locs : List Loc} {ls : Array Slot}, q_H D A s (wX5_against cI cJ cZ cS a_t a_s a_keptS a_statuses a_pile a_tape a_steps a_wish a_mark a_bitsOf a_sizeOf a_number a_moved v_isKept v_taped v_at v_fault v_laid v_open v_s v_statuses v_pile v_wish) H locs → lv_has ls 8 [(0, .ref a_t), (1, .int y1), (2, .int y2), (3, .int y3), (4, .int y4), (5, .int y5), (6, .int y6)] → ag43 v_statuses v_pile v_wish y1 y2 y3 y4 y5 y6 = some (rr, kk') → W p l e rX5_against s m args below meth c H locs 0 0 (MQ below (q_Ri D rr A ((fun k : (Nat → Int32) × (Nat → Int32) × (Nat → Int32) => (wX5_against cI cJ cZ cS a_t a_s a_keptS a_statuses a_pile a_tape a_steps a_wish a_mark a_bitsOf a_sizeOf a_number a_moved v_isKept v_taped v_at v_fault v_laid v_open v_s k.1 k.2.1 k.2.2)) kk')) args s 0 0 A) (F0 m 43 ls [])) : ∀ {v_statuses : Nat → Int32} {v_pile : Nat → Int32} {v_wish : Nat → Int32} {y1 : Int32} {y2 : Int32} {y4 : Int32} {y5 : Int32} {y6 : Int32} {y7 : Int32} {H : Heap} {locs : List Loc} {ls : Array Slot}, q_H D A s (wX5_against cI cJ cZ cS a_t a_s a_keptS a_statuses a_pile a_tape a_steps a_wish a_mark a_bitsOf a_sizeOf a_number a_moved v_isKept v_taped v_at v_fault v_laid v_open v_s v_statuses v_pile v_wish) H locs → lv_has ls 8 [(0, .ref a_t), (1, .int y1), (2, .int y2), (4, .int y4), (5, .int y5), (6, .int y6), (7, .int y7)] → fX5_against_89 v_s ag43 v_statuses v_pile v_wish y1 y2 y4 y5 y6 y7 = some (rr, kk') → W p l e rX5_against s m args below meth c H locs 0 0 (MQ below (q_Ri D rr A ((fun k : (Nat → Int32) × (Nat → Int32) × (Nat → Int32) => (wX5_against cI cJ cZ cS a_t a_s a_keptS a_statuses a_pile a_tape a_steps a_wish a_mark a_bitsOf a_sizeOf a_number a_moved v_isKept v_taped v_at v_fault v_laid v_open v_s k.1 k.2.1 k.2.2)) kk')) args s 0 0 A) (F0 m 89 ls []) := by
  intro v_statuses v_pile v_wish y1 y2 y4 y5 y6 y7 H locs ls h hl hf
  have hx := fx.1
  have hb := fx.2.1
  unfold fX5_against_89 at hf
  refine lv_iconst (v := 1) hx hb dX5_against_89 (by decide) ?_
  refine lv_goto (tgt := 94) hx hb dX5_against_90 (by decide) ?_
  exact LX5_against_94 fx hag43 h (lv_sub hl [0, 1, 2, 3, 4, 5, 6] rfl) hf
def fX5_against_69 (v_s : Nat → Int32) (ag43 : (Nat → Int32) → (Nat → Int32) → (Nat → Int32) → Int32 → Int32 → Int32 → Int32 → Int32 → Int32 → Option (Int32 × (Nat → Int32) × (Nat → Int32) × (Nat → Int32))) (v_statuses : Nat → Int32) (v_pile : Nat → Int32) (v_wish : Nat → Int32) (s0 : Int32) (y1 : Int32) (y2 : Int32) (y3 : Int32) (y4 : Int32) (y5 : Int32) (y6 : Int32) : Option (Int32 × (Nat → Int32) × (Nat → Int32) × (Nat → Int32)) :=
  (if y3 = 0 then (
  (if s0 = 0 then (
  fX5_against_93 v_s ag43 v_statuses v_pile v_wish y1 y2 y4 y5 y6 s0)
  else (
  bR (fX5_has y6 y1) (fun r14 k14 =>
  (if r14 = 0 then (
  fX5_against_93 v_s ag43 v_statuses v_pile v_wish y1 y2 y4 y5 y6 s0)
  else (
  fX5_against_89 v_s ag43 v_statuses v_pile v_wish y1 y2 y4 y5 y6 s0))))))
  else (
  fX5_against_89 v_s ag43 v_statuses v_pile v_wish y1 y2 y4 y5 y6 s0))
set_option maxRecDepth 100000 in
set_option maxHeartbeats 4000000 in
theorem LX5_against_69 {p : Program} {l : Launch} {e : Env} {s : State} {m : MethodId} {args : Array Value} {below : List Frame} {meth : Method} {c : Code} {D : va_G} {cI cJ cZ cS : ClassId} {tb : Nat} {A : Nat → Prop} {a_t a_s a_keptS a_statuses a_pile a_tape a_steps a_wish a_mark a_bitsOf a_sizeOf a_number a_moved : Nat} {v_isKept : Int32} {v_taped : Int32} {v_at : Int32} {v_fault : Int32} {v_laid : Int32} {v_open : Int32} {v_s : Nat → Int32} {rr : Int32} {kk' : (Nat → Int32) × (Nat → Int32) × (Nat → Int32)} (fx : q_Fx p s m args meth c cX5_against 8 RX5 (some .int) D cI cJ cZ cS tb A) {ag43 : (Nat → Int32) → (Nat → Int32) → (Nat → Int32) → Int32 → Int32 → Int32 → Int32 → Int32 → Int32 → Option (Int32 × (Nat → Int32) × (Nat → Int32) × (Nat → Int32))} (hag43 : ∀ {v_statuses : Nat → Int32} {v_pile : Nat → Int32} {v_wish : Nat → Int32} {y1 : Int32} {y2 : Int32} {y3 : Int32} {y4 : Int32} {y5 : Int32} {y6 : Int32} {H : Heap} {locs : List Loc} {ls : Array Slot}, q_H D A s (wX5_against cI cJ cZ cS a_t a_s a_keptS a_statuses a_pile a_tape a_steps a_wish a_mark a_bitsOf a_sizeOf a_number a_moved v_isKept v_taped v_at v_fault v_laid v_open v_s v_statuses v_pile v_wish) H locs → lv_has ls 8 [(0, .ref a_t), (1, .int y1), (2, .int y2), (3, .int y3), (4, .int y4), (5, .int y5), (6, .int y6)] → ag43 v_statuses v_pile v_wish y1 y2 y3 y4 y5 y6 = some (rr, kk') → W p l e rX5_against s m args below meth c H locs 0 0 (MQ below (q_Ri D rr A ((fun k : (Nat → Int32) × (Nat → Int32) × (Nat → Int32) => (wX5_against cI cJ cZ cS a_t a_s a_keptS a_statuses a_pile a_tape a_steps a_wish a_mark a_bitsOf a_sizeOf a_number a_moved v_isKept v_taped v_at v_fault v_laid v_open v_s k.1 k.2.1 k.2.2)) kk')) args s 0 0 A) (F0 m 43 ls [])) : ∀ {v_statuses : Nat → Int32} {v_pile : Nat → Int32} {v_wish : Nat → Int32} {s0 : Int32} {y1 : Int32} {y2 : Int32} {y3 : Int32} {y4 : Int32} {y5 : Int32} {y6 : Int32} {H : Heap} {locs : List Loc} {ls : Array Slot}, q_H D A s (wX5_against cI cJ cZ cS a_t a_s a_keptS a_statuses a_pile a_tape a_steps a_wish a_mark a_bitsOf a_sizeOf a_number a_moved v_isKept v_taped v_at v_fault v_laid v_open v_s v_statuses v_pile v_wish) H locs → lv_has ls 8 [(0, .ref a_t), (1, .int y1), (2, .int y2), (3, .int y3), (4, .int y4), (5, .int y5), (6, .int y6)] → fX5_against_69 v_s ag43 v_statuses v_pile v_wish s0 y1 y2 y3 y4 y5 y6 = some (rr, kk') → W p l e rX5_against s m args below meth c H locs 0 0 (MQ below (q_Ri D rr A ((fun k : (Nat → Int32) × (Nat → Int32) × (Nat → Int32) => (wX5_against cI cJ cZ cS a_t a_s a_keptS a_statuses a_pile a_tape a_steps a_wish a_mark a_bitsOf a_sizeOf a_number a_moved v_isKept v_taped v_at v_fault v_laid v_open v_s k.1 k.2.1 k.2.2)) kk')) args s 0 0 A) (F0 m 69 ls [.int s0]) := by
  intro v_statuses v_pile v_wish s0 y1 y2 y3 y4 y5 y6 H locs ls h hl hf
  have hx := fx.1
  have hb := fx.2.1
  unfold fX5_against_69 at hf
  refine lv_istore (lv' := [(7, .int s0), (0, .ref a_t), (1, .int y1), (2, .int y2), (3, .int y3), (4, .int y4), (5, .int y5), (6, .int y6)]) hx hb dX5_against_69 hl (by decide) rfl (fun ls hl => ?_)
  refine lv_iload_n hx hb dX5_against_71 rfl (lv_at hl 4 rfl) ?_
  refine lv_if_ne (tgt := 89) hx hb dX5_against_72 (by decide) (fun c12 => ?_) (fun c12 => ?_)
  · have hf := it_f c12 hf
    exact LX5_against_89 fx hag43 h (lv_sub hl [1, 2, 3, 5, 6, 7, 0] rfl) hf
  have hf := it_t c12 hf
  refine lv_iload hx hb dX5_against_75 (lv_at hl 0 rfl) ?_
  refine lv_if_eq (tgt := 93) hx hb dX5_against_77 (by decide) (fun c13 => ?_) (fun c13 => ?_)
  · have hf := it_t c13 hf
    exact LX5_against_93 fx hag43 h (lv_sub hl [1, 2, 3, 5, 6, 7, 0] rfl) hf
  have hf := it_f c13 hf
  refine lv_iload hx hb dX5_against_80 (lv_at hl 7 rfl) ?_
  refine lv_iload_n hx hb dX5_against_82 rfl (lv_at hl 2 rfl) ?_
  obtain ⟨r14, k14, hg, hf⟩ := bR_inv hf
  refine q_ci (rest := []) (ws' := (wX5_against cI cJ cZ cS a_t a_s a_keptS a_statuses a_pile a_tape a_steps a_wish a_mark a_bitsOf a_sizeOf a_number a_moved v_isKept v_taped v_at v_fault v_laid v_open v_s v_statuses v_pile v_wish)) (w1 := (wX5_has cI cJ cZ cS)) fx h [] rfl rfl rfl rfl (q_runS fx h hl.1 [] rfl rfl (tX5_has l D cI cJ cZ cS tb H.size y6 y1 r14 k14 hg) msX5_has k_733 ⟨rfl, rfl⟩ ⟨Nat.le_of_ble_eq_true rfl, Nat.le_of_ble_eq_true rfl⟩ rfl rfl (Nat.le_of_ble_eq_true rfl) dX5_against_83 ⟨Nat.le_of_ble_eq_true rfl, Nat.le_of_ble_eq_true rfl⟩) (fun H locs h => ?_)
  refine lv_if_eq (tgt := 93) hx hb dX5_against_86 (by decide) (fun c15 => ?_) (fun c15 => ?_)
  · have hf := it_t c15 hf
    exact LX5_against_93 fx hag43 h (lv_sub hl [1, 2, 3, 5, 6, 7, 0] rfl) hf
  have hf := it_f c15 hf
  exact LX5_against_89 fx hag43 h (lv_sub hl [1, 2, 3, 5, 6, 7, 0] rfl) hf
def fX5_against_43 (v_s : Nat → Int32) (ag43 : (Nat → Int32) → (Nat → Int32) → (Nat → Int32) → Int32 → Int32 → Int32 → Int32 → Int32 → Int32 → Option (Int32 × (Nat → Int32) × (Nat → Int32) × (Nat → Int32))) (v_statuses : Nat → Int32) (v_pile : Nat → Int32) (v_wish : Nat → Int32) (y1 : Int32) (y2 : Int32) (y3 : Int32) (y4 : Int32) (y5 : Int32) (y6 : Int32) : Option (Int32 × (Nat → Int32) × (Nat → Int32) × (Nat → Int32)) :=
  bR (fX5_lists v_s) (fun r16 k16 =>
  (if r16 ≤ y6 then (
  (if y3 = 0 then (
  some (0, (v_statuses, v_pile, v_wish)))
  else (
  (if y4 = 0 then (
  some (0, (v_statuses, v_pile, v_wish)))
  else (
  (if y5 = 0 then (
  some (1, (v_statuses, v_pile, v_wish)))
  else (
  some (0, (v_statuses, v_pile, v_wish)))))))))
  else (
  gIn y6 256 (
  (if (v_wish y6.toNatClampNeg) = y6 then (
  fX5_against_69 v_s ag43 v_statuses v_pile v_wish 1 y1 y2 y3 y4 y5 y6)
  else (
  fX5_against_69 v_s ag43 v_statuses v_pile v_wish 0 y1 y2 y3 y4 y5 y6))))))
set_option maxRecDepth 100000 in
set_option maxHeartbeats 4000000 in
theorem LX5_against_43 {p : Program} {l : Launch} {e : Env} {s : State} {m : MethodId} {args : Array Value} {below : List Frame} {meth : Method} {c : Code} {D : va_G} {cI cJ cZ cS : ClassId} {tb : Nat} {A : Nat → Prop} {a_t a_s a_keptS a_statuses a_pile a_tape a_steps a_wish a_mark a_bitsOf a_sizeOf a_number a_moved : Nat} {v_isKept : Int32} {v_taped : Int32} {v_at : Int32} {v_fault : Int32} {v_laid : Int32} {v_open : Int32} {v_s : Nat → Int32} {rr : Int32} {kk' : (Nat → Int32) × (Nat → Int32) × (Nat → Int32)} (fx : q_Fx p s m args meth c cX5_against 8 RX5 (some .int) D cI cJ cZ cS tb A) {ag43 : (Nat → Int32) → (Nat → Int32) → (Nat → Int32) → Int32 → Int32 → Int32 → Int32 → Int32 → Int32 → Option (Int32 × (Nat → Int32) × (Nat → Int32) × (Nat → Int32))} (hag43 : ∀ {v_statuses : Nat → Int32} {v_pile : Nat → Int32} {v_wish : Nat → Int32} {y1 : Int32} {y2 : Int32} {y3 : Int32} {y4 : Int32} {y5 : Int32} {y6 : Int32} {H : Heap} {locs : List Loc} {ls : Array Slot}, q_H D A s (wX5_against cI cJ cZ cS a_t a_s a_keptS a_statuses a_pile a_tape a_steps a_wish a_mark a_bitsOf a_sizeOf a_number a_moved v_isKept v_taped v_at v_fault v_laid v_open v_s v_statuses v_pile v_wish) H locs → lv_has ls 8 [(0, .ref a_t), (1, .int y1), (2, .int y2), (3, .int y3), (4, .int y4), (5, .int y5), (6, .int y6)] → ag43 v_statuses v_pile v_wish y1 y2 y3 y4 y5 y6 = some (rr, kk') → W p l e rX5_against s m args below meth c H locs 0 0 (MQ below (q_Ri D rr A ((fun k : (Nat → Int32) × (Nat → Int32) × (Nat → Int32) => (wX5_against cI cJ cZ cS a_t a_s a_keptS a_statuses a_pile a_tape a_steps a_wish a_mark a_bitsOf a_sizeOf a_number a_moved v_isKept v_taped v_at v_fault v_laid v_open v_s k.1 k.2.1 k.2.2)) kk')) args s 0 0 A) (F0 m 43 ls [])) : ∀ {v_statuses : Nat → Int32} {v_pile : Nat → Int32} {v_wish : Nat → Int32} {y1 : Int32} {y2 : Int32} {y3 : Int32} {y4 : Int32} {y5 : Int32} {y6 : Int32} {H : Heap} {locs : List Loc} {ls : Array Slot}, q_H D A s (wX5_against cI cJ cZ cS a_t a_s a_keptS a_statuses a_pile a_tape a_steps a_wish a_mark a_bitsOf a_sizeOf a_number a_moved v_isKept v_taped v_at v_fault v_laid v_open v_s v_statuses v_pile v_wish) H locs → lv_has ls 8 [(0, .ref a_t), (1, .int y1), (2, .int y2), (3, .int y3), (4, .int y4), (5, .int y5), (6, .int y6)] → fX5_against_43 v_s ag43 v_statuses v_pile v_wish y1 y2 y3 y4 y5 y6 = some (rr, kk') → W p l e rX5_against s m args below meth c H locs 0 0 (MQ below (q_Ri D rr A ((fun k : (Nat → Int32) × (Nat → Int32) × (Nat → Int32) => (wX5_against cI cJ cZ cS a_t a_s a_keptS a_statuses a_pile a_tape a_steps a_wish a_mark a_bitsOf a_sizeOf a_number a_moved v_isKept v_taped v_at v_fault v_laid v_open v_s k.1 k.2.1 k.2.2)) kk')) args s 0 0 A) (F0 m 43 ls []) := by
  intro v_statuses v_pile v_wish y1 y2 y3 y4 y5 y6 H locs ls h hl hf
  have hx := fx.1
  have hb := fx.2.1
  unfold fX5_against_43 at hf
  refine lv_iload hx hb dX5_against_43 (lv_at hl 6 rfl) ?_
  refine lv_aload_n hx hb dX5_against_45 rfl (lv_at hl 0 rfl) ?_
  obtain ⟨r16, k16, hg, hf⟩ := bR_inv hf
  refine q_ci (rest := [.int y6]) (ws' := (wX5_against cI cJ cZ cS a_t a_s a_keptS a_statuses a_pile a_tape a_steps a_wish a_mark a_bitsOf a_sizeOf a_number a_moved v_isKept v_taped v_at v_fault v_laid v_open v_s v_statuses v_pile v_wish)) (w1 := (wX5_lists cI cJ cZ cS a_t a_s a_keptS a_statuses a_pile a_tape a_steps a_wish a_mark a_bitsOf a_sizeOf a_number a_moved v_isKept v_taped v_at v_fault v_laid v_open v_s)) fx h [0, 1] rfl rfl rfl rfl (q_runV fx h hl.1 [0, 1] rfl rfl (tX5_lists l D cI cJ cZ cS tb a_t a_s a_keptS a_statuses a_pile a_tape a_steps a_wish a_mark a_bitsOf a_sizeOf a_number a_moved H.size v_isKept v_taped v_at v_fault v_laid v_open v_s r16 k16 hg) mvX5_lists k_810 ⟨rfl, rfl⟩ ⟨Nat.le_of_ble_eq_true rfl, Nat.le_of_ble_eq_true rfl⟩ rfl rfl rfl rfl (Nat.le_of_ble_eq_true rfl) dX5_against_46 ⟨Nat.le_of_ble_eq_true rfl, Nat.le_of_ble_eq_true rfl⟩) (fun H locs h => ?_)
  refine lv_icmp_ge (tgt := 162) hx hb dX5_against_49 (by decide) (fun c17 => ?_) (fun c17 => ?_)
  · have hf := it_t c17 hf
    refine lv_iload_n hx hb dX5_against_162 rfl (lv_at hl 3 rfl) ?_
    refine lv_if_eq (tgt := 180) hx hb dX5_against_163 (by decide) (fun c18 => ?_) (fun c18 => ?_)
    · have hf := it_t c18 hf
      refine lv_iconst (v := 0) hx hb dX5_against_180 (by decide) ?_
      exact q_reti (fun k : (Nat → Int32) × (Nat → Int32) × (Nat → Int32) => (wX5_against cI cJ cZ cS a_t a_s a_keptS a_statuses a_pile a_tape a_steps a_wish a_mark a_bitsOf a_sizeOf a_number a_moved v_isKept v_taped v_at v_fault v_laid v_open v_s k.1 k.2.1 k.2.2)) fx hf h dX5_against_181
    have hf := it_f c18 hf
    refine lv_iload hx hb dX5_against_166 (lv_at hl 4 rfl) ?_
    refine lv_if_eq (tgt := 180) hx hb dX5_against_168 (by decide) (fun c19 => ?_) (fun c19 => ?_)
    · have hf := it_t c19 hf
      refine lv_iconst (v := 0) hx hb dX5_against_180 (by decide) ?_
      exact q_reti (fun k : (Nat → Int32) × (Nat → Int32) × (Nat → Int32) => (wX5_against cI cJ cZ cS a_t a_s a_keptS a_statuses a_pile a_tape a_steps a_wish a_mark a_bitsOf a_sizeOf a_number a_moved v_isKept v_taped v_at v_fault v_laid v_open v_s k.1 k.2.1 k.2.2)) fx hf h dX5_against_181
    have hf := it_f c19 hf
    refine lv_iload hx hb dX5_against_171 (lv_at hl 5 rfl) ?_
    refine lv_if_ne (tgt := 180) hx hb dX5_against_173 (by decide) (fun c20 => ?_) (fun c20 => ?_)
    · have hf := it_f c20 hf
      refine lv_iconst (v := 0) hx hb dX5_against_180 (by decide) ?_
      exact q_reti (fun k : (Nat → Int32) × (Nat → Int32) × (Nat → Int32) => (wX5_against cI cJ cZ cS a_t a_s a_keptS a_statuses a_pile a_tape a_steps a_wish a_mark a_bitsOf a_sizeOf a_number a_moved v_isKept v_taped v_at v_fault v_laid v_open v_s k.1 k.2.1 k.2.2)) fx hf h dX5_against_181
    have hf := it_t c20 hf
    refine lv_iconst (v := 1) hx hb dX5_against_176 (by decide) ?_
    refine lv_goto (tgt := 181) hx hb dX5_against_177 (by decide) ?_
    exact q_reti (fun k : (Nat → Int32) × (Nat → Int32) × (Nat → Int32) => (wX5_against cI cJ cZ cS a_t a_s a_keptS a_statuses a_pile a_tape a_steps a_wish a_mark a_bitsOf a_sizeOf a_number a_moved v_isKept v_taped v_at v_fault v_laid v_open v_s k.1 k.2.1 k.2.2)) fx hf h dX5_against_181
  have hf := it_f c17 hf
  refine lv_aload_n hx hb dX5_against_52 rfl (lv_at hl 0 rfl) ?_
  refine q_get (v := .ref a_wish) fx inX5 h 0 rfl rfl 12 (by decide) k_648 rfl dX5_against_53 ?_
  refine lv_iload hx hb dX5_against_56 (lv_at hl 6 rfl) ?_
  obtain ⟨i21, hf⟩ := gIn_inv hf
  refine q_iald fx h 4 rfl i21 dX5_against_58 ?_
  refine lv_iload hx hb dX5_against_59 (lv_at hl 6 rfl) ?_
  refine lv_icmp_ne (tgt := 68) hx hb dX5_against_61 (by decide) (fun c22 => ?_) (fun c22 => ?_)
  · have hf := it_f c22 hf
    refine lv_iconst (v := 0) hx hb dX5_against_68 (by decide) ?_
    exact LX5_against_69 fx hag43 h (lv_sub hl [0, 1, 2, 3, 4, 5, 6] rfl) hf
  have hf := it_t c22 hf
  refine lv_iconst (v := 1) hx hb dX5_against_64 (by decide) ?_
  refine lv_goto (tgt := 69) hx hb dX5_against_65 (by decide) ?_
  exact LX5_against_69 fx hag43 h (lv_sub hl [0, 1, 2, 3, 4, 5, 6] rfl) hf
set_option maxRecDepth 100000 in
theorem EX5_against_43 {p : Program} {l : Launch} {e : Env} {s : State} {m : MethodId} {args : Array Value} {below : List Frame} {meth : Method} {c : Code} {D : va_G} {cI cJ cZ cS : ClassId} {tb : Nat} {A : Nat → Prop} {a_t a_s a_keptS a_statuses a_pile a_tape a_steps a_wish a_mark a_bitsOf a_sizeOf a_number a_moved : Nat} {v_isKept : Int32} {v_taped : Int32} {v_at : Int32} {v_fault : Int32} {v_laid : Int32} {v_open : Int32} {v_s : Nat → Int32} {rr : Int32} {kk' : (Nat → Int32) × (Nat → Int32) × (Nat → Int32)} (fx : q_Fx p s m args meth c cX5_against 8 RX5 (some .int) D cI cJ cZ cS tb A) : ∀ (n : Nat), ∀ {v_statuses : Nat → Int32} {v_pile : Nat → Int32} {v_wish : Nat → Int32} {y1 : Int32} {y2 : Int32} {y3 : Int32} {y4 : Int32} {y5 : Int32} {y6 : Int32} {H : Heap} {locs : List Loc} {ls : Array Slot}, q_H D A s (wX5_against cI cJ cZ cS a_t a_s a_keptS a_statuses a_pile a_tape a_steps a_wish a_mark a_bitsOf a_sizeOf a_number a_moved v_isKept v_taped v_at v_fault v_laid v_open v_s v_statuses v_pile v_wish) H locs → lv_has ls 8 [(0, .ref a_t), (1, .int y1), (2, .int y2), (3, .int y3), (4, .int y4), (5, .int y5), (6, .int y6)] → ll9 (fX5_against_43 v_s) n v_statuses v_pile v_wish y1 y2 y3 y4 y5 y6 = some (rr, kk') → W p l e rX5_against s m args below meth c H locs 0 0 (MQ below (q_Ri D rr A ((fun k : (Nat → Int32) × (Nat → Int32) × (Nat → Int32) => (wX5_against cI cJ cZ cS a_t a_s a_keptS a_statuses a_pile a_tape a_steps a_wish a_mark a_bitsOf a_sizeOf a_number a_moved v_isKept v_taped v_at v_fault v_laid v_open v_s k.1 k.2.1 k.2.2)) kk')) args s 0 0 A) (F0 m 43 ls []) := by
  intro n
  induction n with
  | zero => intro v_statuses v_pile v_wish y1 y2 y3 y4 y5 y6 H locs ls h hl hf; exact (ll9_z hf).elim
  | succ n ih => intro v_statuses v_pile v_wish y1 y2 y3 y4 y5 y6 H locs ls h hl hf; exact LX5_against_43 fx ih h hl (ll9_s hf)
def fX5_against_21 (v_s : Nat → Int32) (v_statuses : Nat → Int32) (v_pile : Nat → Int32) (v_wish : Nat → Int32) : Option (Int32 × (Nat → Int32) × (Nat → Int32) × (Nat → Int32)) :=
  bR (fX5_finds v_statuses (-1000000001)) (fun r23 k23 =>
  some (r23, (k23, v_pile, v_wish)))
set_option maxRecDepth 100000 in
set_option maxHeartbeats 4000000 in
theorem LX5_against_21 {p : Program} {l : Launch} {e : Env} {s : State} {m : MethodId} {args : Array Value} {below : List Frame} {meth : Method} {c : Code} {D : va_G} {cI cJ cZ cS : ClassId} {tb : Nat} {A : Nat → Prop} {a_t a_s a_keptS a_statuses a_pile a_tape a_steps a_wish a_mark a_bitsOf a_sizeOf a_number a_moved : Nat} {v_isKept : Int32} {v_taped : Int32} {v_at : Int32} {v_fault : Int32} {v_laid : Int32} {v_open : Int32} {v_s : Nat → Int32} {rr : Int32} {kk' : (Nat → Int32) × (Nat → Int32) × (Nat → Int32)} (fx : q_Fx p s m args meth c cX5_against 8 RX5 (some .int) D cI cJ cZ cS tb A) : ∀ {v_statuses : Nat → Int32} {v_pile : Nat → Int32} {v_wish : Nat → Int32} {H : Heap} {locs : List Loc} {ls : Array Slot}, q_H D A s (wX5_against cI cJ cZ cS a_t a_s a_keptS a_statuses a_pile a_tape a_steps a_wish a_mark a_bitsOf a_sizeOf a_number a_moved v_isKept v_taped v_at v_fault v_laid v_open v_s v_statuses v_pile v_wish) H locs → lv_has ls 8 [(0, .ref a_t)] → fX5_against_21 v_s v_statuses v_pile v_wish = some (rr, kk') → W p l e rX5_against s m args below meth c H locs 0 0 (MQ below (q_Ri D rr A ((fun k : (Nat → Int32) × (Nat → Int32) × (Nat → Int32) => (wX5_against cI cJ cZ cS a_t a_s a_keptS a_statuses a_pile a_tape a_steps a_wish a_mark a_bitsOf a_sizeOf a_number a_moved v_isKept v_taped v_at v_fault v_laid v_open v_s k.1 k.2.1 k.2.2)) kk')) args s 0 0 A) (F0 m 21 ls []) := by
  intro v_statuses v_pile v_wish H locs ls h hl hf
  have hx := fx.1
  have hb := fx.2.1
  unfold fX5_against_21 at hf
  refine lv_aload_n hx hb dX5_against_21 rfl (lv_at hl 0 rfl) ?_
  refine q_ldc fx k_701 dX5_against_22 ?_
  obtain ⟨r23, k23, hg, hf⟩ := bR_inv hf
  refine q_ci (rest := []) (ws' := (wX5_against cI cJ cZ cS a_t a_s a_keptS a_statuses a_pile a_tape a_steps a_wish a_mark a_bitsOf a_sizeOf a_number a_moved v_isKept v_taped v_at v_fault v_laid v_open v_s k23 v_pile v_wish)) (w1 := (wX5_finds cI cJ cZ cS a_t a_s a_keptS a_statuses a_pile a_tape a_steps a_wish a_mark a_bitsOf a_sizeOf a_number a_moved v_isKept v_taped v_at v_fault v_laid v_open k23)) fx h [0, 2] rfl rfl rfl rfl (q_runV fx h hl.1 [0, 2] rfl rfl (tX5_finds l D cI cJ cZ cS tb a_t a_s a_keptS a_statuses a_pile a_tape a_steps a_wish a_mark a_bitsOf a_sizeOf a_number a_moved H.size v_isKept v_taped v_at v_fault v_laid v_open v_statuses (-1000000001) r23 k23 hg) mvX5_finds k_702 ⟨rfl, rfl⟩ ⟨Nat.le_of_ble_eq_true rfl, Nat.le_of_ble_eq_true rfl⟩ rfl rfl rfl rfl (Nat.le_of_ble_eq_true rfl) dX5_against_24 ⟨Nat.le_of_ble_eq_true rfl, Nat.le_of_ble_eq_true rfl⟩) (fun H locs h => ?_)
  exact q_reti (fun k : (Nat → Int32) × (Nat → Int32) × (Nat → Int32) => (wX5_against cI cJ cZ cS a_t a_s a_keptS a_statuses a_pile a_tape a_steps a_wish a_mark a_bitsOf a_sizeOf a_number a_moved v_isKept v_taped v_at v_fault v_laid v_open v_s k.1 k.2.1 k.2.2)) fx hf h dX5_against_27
def fX5_against (v_s : Nat → Int32) (v_statuses : Nat → Int32) (v_pile : Nat → Int32) (v_wish : Nat → Int32) (x1 : Int32) (x2 : Int32) : Option (Int32 × (Nat → Int32) × (Nat → Int32) × (Nat → Int32)) :=
  bR (fX5_isGuest v_s x1) (fun r24 k24 =>
  (if r24 = 0 then (
  fX5_against_21 v_s v_statuses v_pile v_wish)
  else (
  bR (fX5_isGuest v_s x2) (fun r26 k26 =>
  (if r26 = 0 then (
  fX5_against_21 v_s v_statuses v_pile v_wish)
  else (
  (if x1 = x2 then (
  fX5_against_21 v_s v_statuses v_pile v_wish)
  else (
  bV (fX5_looksAll v_s v_pile v_wish) (fun k29 =>
  ll9 (fX5_against_43 v_s) qF v_statuses k29.1 k29.2 x1 x2 0 0 0 0)))))))))
set_option maxRecDepth 100000 in
set_option maxHeartbeats 4000000 in
theorem tX5_against (l : Launch) (D : va_G) (cI cJ cZ cS : ClassId) (tb : Nat) (a_t a_s a_keptS a_statuses a_pile a_tape a_steps a_wish a_mark a_bitsOf a_sizeOf a_number a_moved : Nat) (sz : Nat) (v_isKept : Int32) (v_taped : Int32) (v_at : Int32) (v_fault : Int32) (v_laid : Int32) (v_open : Int32) (v_s : Nat → Int32) (v_statuses : Nat → Int32) (v_pile : Nat → Int32) (v_wish : Nat → Int32) (x1 : Int32) (x2 : Int32) (rr : Int32) (kk' : (Nat → Int32) × (Nat → Int32) × (Nat → Int32)) (hf : fX5_against v_s v_statuses v_pile v_wish x1 x2 = some (rr, kk')) : Met l yX5_against (Cond.code yX5_against cX5_against 8 (some .int) :: wA) rX5_against (q_Pre D cI cJ cZ cS tb [.ref a_t, .int x1, .int x2] sz (wX5_against cI cJ cZ cS a_t a_s a_keptS a_statuses a_pile a_tape a_steps a_wish a_mark a_bitsOf a_sizeOf a_number a_moved v_isKept v_taped v_at v_fault v_laid v_open v_s v_statuses v_pile v_wish)) (q_Ri D rr (va_A (wX5_against cI cJ cZ cS a_t a_s a_keptS a_statuses a_pile a_tape a_steps a_wish a_mark a_bitsOf a_sizeOf a_number a_moved v_isKept v_taped v_at v_fault v_laid v_open v_s v_statuses v_pile v_wish) sz) ((fun k : (Nat → Int32) × (Nat → Int32) × (Nat → Int32) => (wX5_against cI cJ cZ cS a_t a_s a_keptS a_statuses a_pile a_tape a_steps a_wish a_mark a_bitsOf a_sizeOf a_number a_moved v_isKept v_taped v_at v_fault v_laid v_open v_s k.1 k.2.1 k.2.2)) kk')) 0 0 (va_A (wX5_against cI cJ cZ cS a_t a_s a_keptS a_statuses a_pile a_tape a_steps a_wish a_mark a_bitsOf a_sizeOf a_number a_moved v_isKept v_taped v_at v_fault v_laid v_open v_s v_statuses v_pile v_wish) sz) := by
  refine q_enter (Qf := fun A => (q_Ri D rr A ((fun k : (Nat → Int32) × (Nat → Int32) × (Nat → Int32) => (wX5_against cI cJ cZ cS a_t a_s a_keptS a_statuses a_pile a_tape a_steps a_wish a_mark a_bitsOf a_sizeOf a_number a_moved v_isKept v_taped v_at v_fault v_laid v_open v_s k.1 k.2.1 k.2.2)) kk'))) (by decide) rfl (Nat.le_of_ble_eq_true rfl) ?_
  intro p e s m below meth c A ls fx hname h hl
  have hx := fx.1
  have hb := fx.2.1
  have hl : lv_has ls 8 [(0, .ref a_t), (1, .int x1), (2, .int x2)] := hl
  generalize h9 : s.heap = H at h ⊢
  clear h9
  generalize h9 : ([] : List Loc) = locs at h ⊢
  clear h9
  unfold fX5_against at hf
  refine lv_aload_n hx hb dX5_against_0 rfl (lv_at hl 0 rfl) ?_
  refine lv_iload_n hx hb dX5_against_1 rfl (lv_at hl 1 rfl) ?_
  obtain ⟨r24, k24, hg, hf⟩ := bR_inv hf
  refine q_ci (rest := []) (ws' := (wX5_against cI cJ cZ cS a_t a_s a_keptS a_statuses a_pile a_tape a_steps a_wish a_mark a_bitsOf a_sizeOf a_number a_moved v_isKept v_taped v_at v_fault v_laid v_open v_s v_statuses v_pile v_wish)) (w1 := (wX5_isGuest cI cJ cZ cS a_t a_s a_keptS a_statuses a_pile a_tape a_steps a_wish a_mark a_bitsOf a_sizeOf a_number a_moved v_isKept v_taped v_at v_fault v_laid v_open v_s)) fx h [0, 1] rfl rfl rfl rfl (q_runV fx h hl.1 [0, 1] rfl rfl (tX5_isGuest l D cI cJ cZ cS tb a_t a_s a_keptS a_statuses a_pile a_tape a_steps a_wish a_mark a_bitsOf a_sizeOf a_number a_moved H.size v_isKept v_taped v_at v_fault v_laid v_open v_s x1 r24 k24 hg) mvX5_isGuest k_711 ⟨rfl, rfl⟩ ⟨Nat.le_of_ble_eq_true rfl, Nat.le_of_ble_eq_true rfl⟩ rfl rfl rfl rfl (Nat.le_of_ble_eq_true rfl) dX5_against_2 ⟨Nat.le_of_ble_eq_true rfl, Nat.le_of_ble_eq_true rfl⟩) (fun H locs h => ?_)
  refine lv_if_eq (tgt := 21) hx hb dX5_against_5 (by decide) (fun c25 => ?_) (fun c25 => ?_)
  · have hf := it_t c25 hf
    exact LX5_against_21 fx h (lv_sub hl [0] rfl) hf
  have hf := it_f c25 hf
  refine lv_aload_n hx hb dX5_against_8 rfl (lv_at hl 0 rfl) ?_
  refine lv_iload_n hx hb dX5_against_9 rfl (lv_at hl 2 rfl) ?_
  obtain ⟨r26, k26, hg, hf⟩ := bR_inv hf
  refine q_ci (rest := []) (ws' := (wX5_against cI cJ cZ cS a_t a_s a_keptS a_statuses a_pile a_tape a_steps a_wish a_mark a_bitsOf a_sizeOf a_number a_moved v_isKept v_taped v_at v_fault v_laid v_open v_s v_statuses v_pile v_wish)) (w1 := (wX5_isGuest cI cJ cZ cS a_t a_s a_keptS a_statuses a_pile a_tape a_steps a_wish a_mark a_bitsOf a_sizeOf a_number a_moved v_isKept v_taped v_at v_fault v_laid v_open v_s)) fx h [0, 1] rfl rfl rfl rfl (q_runV fx h hl.1 [0, 1] rfl rfl (tX5_isGuest l D cI cJ cZ cS tb a_t a_s a_keptS a_statuses a_pile a_tape a_steps a_wish a_mark a_bitsOf a_sizeOf a_number a_moved H.size v_isKept v_taped v_at v_fault v_laid v_open v_s x2 r26 k26 hg) mvX5_isGuest k_711 ⟨rfl, rfl⟩ ⟨Nat.le_of_ble_eq_true rfl, Nat.le_of_ble_eq_true rfl⟩ rfl rfl rfl rfl (Nat.le_of_ble_eq_true rfl) dX5_against_10 ⟨Nat.le_of_ble_eq_true rfl, Nat.le_of_ble_eq_true rfl⟩) (fun H locs h => ?_)
  refine lv_if_eq (tgt := 21) hx hb dX5_against_13 (by decide) (fun c27 => ?_) (fun c27 => ?_)
  · have hf := it_t c27 hf
    exact LX5_against_21 fx h (lv_sub hl [0] rfl) hf
  have hf := it_f c27 hf
  refine lv_iload_n hx hb dX5_against_16 rfl (lv_at hl 1 rfl) ?_
  refine lv_iload_n hx hb dX5_against_17 rfl (lv_at hl 2 rfl) ?_
  refine lv_icmp_ne (tgt := 28) hx hb dX5_against_18 (by decide) (fun c28 => ?_) (fun c28 => ?_)
  · have hf := it_f c28 hf
    refine lv_aload_n hx hb dX5_against_28 rfl (lv_at hl 0 rfl) ?_
    obtain ⟨k29, hg, hf⟩ := bV_inv hf
    refine q_cv (rest := []) (ws' := (wX5_against cI cJ cZ cS a_t a_s a_keptS a_statuses a_pile a_tape a_steps a_wish a_mark a_bitsOf a_sizeOf a_number a_moved v_isKept v_taped v_at v_fault v_laid v_open v_s v_statuses k29.1 k29.2)) (w1 := (wX5_looksAll cI cJ cZ cS a_t a_s a_keptS a_statuses a_pile a_tape a_steps a_wish a_mark a_bitsOf a_sizeOf a_number a_moved v_isKept v_taped v_at v_fault v_laid v_open v_s k29.1 k29.2)) fx h [0, 1, 3, 4] rfl rfl rfl rfl (q_runV fx h hl.1 [0, 1, 3, 4] rfl rfl (tX5_looksAll l D cI cJ cZ cS tb a_t a_s a_keptS a_statuses a_pile a_tape a_steps a_wish a_mark a_bitsOf a_sizeOf a_number a_moved H.size v_isKept v_taped v_at v_fault v_laid v_open v_s v_pile v_wish k29 hg) mvX5_looksAll k_860 ⟨rfl, rfl⟩ ⟨Nat.le_of_ble_eq_true rfl, Nat.le_of_ble_eq_true rfl⟩ rfl rfl rfl rfl (Nat.le_of_ble_eq_true rfl) dX5_against_29 ⟨Nat.le_of_ble_eq_true rfl, Nat.le_of_ble_eq_true rfl⟩) (fun H locs h => ?_)
    refine lv_iconst (v := 0) hx hb dX5_against_32 (by decide) ?_
    refine lv_istore_n (lv' := [(3, .int 0), (0, .ref a_t), (1, .int x1), (2, .int x2)]) hx hb dX5_against_33 rfl hl (by decide) rfl (fun ls hl => ?_)
    refine lv_iconst (v := 0) hx hb dX5_against_34 (by decide) ?_
    refine lv_istore (lv' := [(4, .int 0), (3, .int 0), (0, .ref a_t), (1, .int x1), (2, .int x2)]) hx hb dX5_against_35 hl (by decide) rfl (fun ls hl => ?_)
    refine lv_iconst (v := 0) hx hb dX5_against_37 (by decide) ?_
    refine lv_istore (lv' := [(5, .int 0), (4, .int 0), (3, .int 0), (0, .ref a_t), (1, .int x1), (2, .int x2)]) hx hb dX5_against_38 hl (by decide) rfl (fun ls hl => ?_)
    refine lv_iconst (v := 0) hx hb dX5_against_40 (by decide) ?_
    refine lv_istore (lv' := [(6, .int 0), (5, .int 0), (4, .int 0), (3, .int 0), (0, .ref a_t), (1, .int x1), (2, .int x2)]) hx hb dX5_against_41 hl (by decide) rfl (fun ls hl => ?_)
    exact EX5_against_43 fx qF h (lv_sub hl [4, 5, 6, 3, 2, 1, 0] rfl) hf
  have hf := it_t c28 hf
  exact LX5_against_21 fx h (lv_sub hl [0] rfl) hf
/-! X5_minds -/
abbrev wX5_minds (cI cJ cZ cS : ClassId) (a_t a_s a_keptS a_statuses a_pile a_tape a_steps a_wish a_mark a_bitsOf a_sizeOf a_number a_moved : Nat) (v_isKept : Int32) (v_taped : Int32) (v_at : Int32) (v_fault : Int32) (v_laid : Int32) (v_open : Int32) (v_s : Nat → Int32) (v_statuses : Nat → Int32) (v_pile : Nat → Int32) (v_wish : Nat → Int32) : va_W := [(a_t, .inr (5, [.ref a_s, .ref a_keptS, .ref a_statuses, .int v_isKept, .ref a_pile, .ref a_tape, .ref a_steps, .int v_taped, .int v_at, .int v_fault, .int v_laid, .int v_open, .ref a_wish, .ref a_mark, .ref a_bitsOf, .ref a_sizeOf, .ref a_number, .ref a_moved])), (a_s, .inl (cI, 538, .inl v_s)), (a_statuses, .inl (cI, 7, .inl v_statuses)), (a_pile, .inl (cZ, 64, .inl v_pile)), (a_wish, .inl (cI, 256, .inl v_wish))]
abbrev rX5_minds : Room := { frames := 6, cells := 0, slots := 0, locals := 137 }
def fX5_minds_23 (v_s : Nat → Int32) (ag23 : (Nat → Int32) → (Nat → Int32) → (Nat → Int32) → Int32 → Int32 → Int32 → Option (Int32 × (Nat → Int32) × (Nat → Int32) × (Nat → Int32))) (v_statuses : Nat → Int32) (v_pile : Nat → Int32) (v_wish : Nat → Int32) (y1 : Int32) (y2 : Int32) (y3 : Int32) : Option (Int32 × (Nat → Int32) × (Nat → Int32) × (Nat → Int32)) :=
  bR (fX5_lists v_s) (fun r1 k1 =>
  (if r1 ≤ y3 then (
  some (y2 &&& ((jshl 1 y1) ^^^ (-1)), (v_statuses, v_pile, v_wish)))
  else (
  gIn y3 256 (
  gIn (y3 ||| (jshl 1 y1)) 256 (
  nm (y2 ||| ((v_wish y3.toNatClampNeg) ^^^ (v_wish (y3 ||| (jshl 1 y1)).toNatClampNeg))) (fun u5 =>
  nm (y3 + 1) (fun u6 =>
  ag23 v_statuses v_pile v_wish y1 u5 u6)))))))
set_option maxRecDepth 100000 in
set_option maxHeartbeats 4000000 in
theorem LX5_minds_23 {p : Program} {l : Launch} {e : Env} {s : State} {m : MethodId} {args : Array Value} {below : List Frame} {meth : Method} {c : Code} {D : va_G} {cI cJ cZ cS : ClassId} {tb : Nat} {A : Nat → Prop} {a_t a_s a_keptS a_statuses a_pile a_tape a_steps a_wish a_mark a_bitsOf a_sizeOf a_number a_moved : Nat} {v_isKept : Int32} {v_taped : Int32} {v_at : Int32} {v_fault : Int32} {v_laid : Int32} {v_open : Int32} {v_s : Nat → Int32} {rr : Int32} {kk' : (Nat → Int32) × (Nat → Int32) × (Nat → Int32)} (fx : q_Fx p s m args meth c cX5_minds 4 RX5 (some .int) D cI cJ cZ cS tb A) {ag23 : (Nat → Int32) → (Nat → Int32) → (Nat → Int32) → Int32 → Int32 → Int32 → Option (Int32 × (Nat → Int32) × (Nat → Int32) × (Nat → Int32))} (hag23 : ∀ {v_statuses : Nat → Int32} {v_pile : Nat → Int32} {v_wish : Nat → Int32} {y1 : Int32} {y2 : Int32} {y3 : Int32} {H : Heap} {locs : List Loc} {ls : Array Slot}, q_H D A s (wX5_minds cI cJ cZ cS a_t a_s a_keptS a_statuses a_pile a_tape a_steps a_wish a_mark a_bitsOf a_sizeOf a_number a_moved v_isKept v_taped v_at v_fault v_laid v_open v_s v_statuses v_pile v_wish) H locs → lv_has ls 4 [(0, .ref a_t), (1, .int y1), (2, .int y2), (3, .int y3)] → ag23 v_statuses v_pile v_wish y1 y2 y3 = some (rr, kk') → W p l e rX5_minds s m args below meth c H locs 0 0 (MQ below (q_Ri D rr A ((fun k : (Nat → Int32) × (Nat → Int32) × (Nat → Int32) => (wX5_minds cI cJ cZ cS a_t a_s a_keptS a_statuses a_pile a_tape a_steps a_wish a_mark a_bitsOf a_sizeOf a_number a_moved v_isKept v_taped v_at v_fault v_laid v_open v_s k.1 k.2.1 k.2.2)) kk')) args s 0 0 A) (F0 m 23 ls [])) : ∀ {v_statuses : Nat → Int32} {v_pile : Nat → Int32} {v_wish : Nat → Int32} {y1 : Int32} {y2 : Int32} {y3 : Int32} {H : Heap} {locs : List Loc} {ls : Array Slot}, q_H D A s (wX5_minds cI cJ cZ cS a_t a_s a_keptS a_statuses a_pile a_tape a_steps a_wish a_mark a_bitsOf a_sizeOf a_number a_moved v_isKept v_taped v_at v_fault v_laid v_open v_s v_statuses v_pile v_wish) H locs → lv_has ls 4 [(0, .ref a_t), (1, .int y1), (2, .int y2), (3, .int y3)] → fX5_minds_23 v_s ag23 v_statuses v_pile v_wish y1 y2 y3 = some (rr, kk') → W p l e rX5_minds s m args below meth c H locs 0 0 (MQ below (q_Ri D rr A ((fun k : (Nat → Int32) × (Nat → Int32) × (Nat → Int32) => (wX5_minds cI cJ cZ cS a_t a_s a_keptS a_statuses a_pile a_tape a_steps a_wish a_mark a_bitsOf a_sizeOf a_number a_moved v_isKept v_taped v_at v_fault v_laid v_open v_s k.1 k.2.1 k.2.2)) kk')) args s 0 0 A) (F0 m 23 ls []) := by
  intro v_statuses v_pile v_wish y1 y2 y3 H locs ls h hl hf
  have hx := fx.1
  have hb := fx.2.1
  unfold fX5_minds_23 at hf
  refine lv_iload_n hx hb dX5_minds_23 rfl (lv_at hl 3 rfl) ?_
  refine lv_aload_n hx hb dX5_minds_24 rfl (lv_at hl 0 rfl) ?_
  obtain ⟨r1, k1, hg, hf⟩ := bR_inv hf
  refine q_ci (rest := [.int y3]) (ws' := (wX5_minds cI cJ cZ cS a_t a_s a_keptS a_statuses a_pile a_tape a_steps a_wish a_mark a_bitsOf a_sizeOf a_number a_moved v_isKept v_taped v_at v_fault v_laid v_open v_s v_statuses v_pile v_wish)) (w1 := (wX5_lists cI cJ cZ cS a_t a_s a_keptS a_statuses a_pile a_tape a_steps a_wish a_mark a_bitsOf a_sizeOf a_number a_moved v_isKept v_taped v_at v_fault v_laid v_open v_s)) fx h [0, 1] rfl rfl rfl rfl (q_runV fx h hl.1 [0, 1] rfl rfl (tX5_lists l D cI cJ cZ cS tb a_t a_s a_keptS a_statuses a_pile a_tape a_steps a_wish a_mark a_bitsOf a_sizeOf a_number a_moved H.size v_isKept v_taped v_at v_fault v_laid v_open v_s r1 k1 hg) mvX5_lists k_810 ⟨rfl, rfl⟩ ⟨Nat.le_of_ble_eq_true rfl, Nat.le_of_ble_eq_true rfl⟩ rfl rfl rfl rfl (Nat.le_of_ble_eq_true rfl) dX5_minds_25 ⟨Nat.le_of_ble_eq_true rfl, Nat.le_of_ble_eq_true rfl⟩) (fun H locs h => ?_)
  refine lv_icmp_ge (tgt := 57) hx hb dX5_minds_28 (by decide) (fun c2 => ?_) (fun c2 => ?_)
  · have hf := it_t c2 hf
    refine lv_iload_n hx hb dX5_minds_57 rfl (lv_at hl 2 rfl) ?_
    refine lv_iconst (v := 1) hx hb dX5_minds_58 (by decide) ?_
    refine lv_iload_n hx hb dX5_minds_59 rfl (lv_at hl 1 rfl) ?_
    refine lv_ishl hx hb dX5_minds_60 ?_
    refine lv_iconst (v := -1) hx hb dX5_minds_61 (by decide) ?_
    refine lv_ixor hx hb dX5_minds_62 ?_
    refine lv_iand hx hb dX5_minds_63 ?_
    exact q_reti (fun k : (Nat → Int32) × (Nat → Int32) × (Nat → Int32) => (wX5_minds cI cJ cZ cS a_t a_s a_keptS a_statuses a_pile a_tape a_steps a_wish a_mark a_bitsOf a_sizeOf a_number a_moved v_isKept v_taped v_at v_fault v_laid v_open v_s k.1 k.2.1 k.2.2)) fx hf h dX5_minds_64
  have hf := it_f c2 hf
  refine lv_iload_n hx hb dX5_minds_31 rfl (lv_at hl 2 rfl) ?_
  refine lv_aload_n hx hb dX5_minds_32 rfl (lv_at hl 0 rfl) ?_
  refine q_get (v := .ref a_wish) fx inX5 h 0 rfl rfl 12 (by decide) k_648 rfl dX5_minds_33 ?_
  refine lv_iload_n hx hb dX5_minds_36 rfl (lv_at hl 3 rfl) ?_
  obtain ⟨i3, hf⟩ := gIn_inv hf
  refine q_iald fx h 4 rfl i3 dX5_minds_37 ?_
  refine lv_aload_n hx hb dX5_minds_38 rfl (lv_at hl 0 rfl) ?_
  refine q_get (v := .ref a_wish) fx inX5 h 0 rfl rfl 12 (by decide) k_648 rfl dX5_minds_39 ?_
  refine lv_iload_n hx hb dX5_minds_42 rfl (lv_at hl 3 rfl) ?_
  refine lv_iconst (v := 1) hx hb dX5_minds_43 (by decide) ?_
  refine lv_iload_n hx hb dX5_minds_44 rfl (lv_at hl 1 rfl) ?_
  refine lv_ishl hx hb dX5_minds_45 ?_
  refine lv_ior hx hb dX5_minds_46 ?_
  obtain ⟨i4, hf⟩ := gIn_inv hf
  refine q_iald fx h 4 rfl i4 dX5_minds_47 ?_
  refine lv_ixor hx hb dX5_minds_48 ?_
  refine lv_ior hx hb dX5_minds_49 ?_
  obtain ⟨u5, eu5, hf⟩ := nm_inv hf
  refine lv_eqi eu5 ?_
  refine lv_istore_n (lv' := [(2, .int u5), (0, .ref a_t), (1, .int y1), (3, .int y3)]) hx hb dX5_minds_50 rfl hl (by decide) rfl (fun ls hl => ?_)
  obtain ⟨u6, eu6, hf⟩ := nm_inv hf
  refine lv_iinc (v := u6) (lv' := [(3, .int u6), (2, .int u5), (0, .ref a_t), (1, .int y1)]) hx hb dX5_minds_51 hl (k := 3) rfl (by rw [eu6]; rfl) (by decide) rfl (fun ls hl => ?_)
  refine lv_goto (tgt := 23) hx hb dX5_minds_54 (by decide) ?_
  exact hag23 h (lv_sub hl [2, 3, 1, 0] rfl) hf
set_option maxRecDepth 100000 in
theorem EX5_minds_23 {p : Program} {l : Launch} {e : Env} {s : State} {m : MethodId} {args : Array Value} {below : List Frame} {meth : Method} {c : Code} {D : va_G} {cI cJ cZ cS : ClassId} {tb : Nat} {A : Nat → Prop} {a_t a_s a_keptS a_statuses a_pile a_tape a_steps a_wish a_mark a_bitsOf a_sizeOf a_number a_moved : Nat} {v_isKept : Int32} {v_taped : Int32} {v_at : Int32} {v_fault : Int32} {v_laid : Int32} {v_open : Int32} {v_s : Nat → Int32} {rr : Int32} {kk' : (Nat → Int32) × (Nat → Int32) × (Nat → Int32)} (fx : q_Fx p s m args meth c cX5_minds 4 RX5 (some .int) D cI cJ cZ cS tb A) : ∀ (n : Nat), ∀ {v_statuses : Nat → Int32} {v_pile : Nat → Int32} {v_wish : Nat → Int32} {y1 : Int32} {y2 : Int32} {y3 : Int32} {H : Heap} {locs : List Loc} {ls : Array Slot}, q_H D A s (wX5_minds cI cJ cZ cS a_t a_s a_keptS a_statuses a_pile a_tape a_steps a_wish a_mark a_bitsOf a_sizeOf a_number a_moved v_isKept v_taped v_at v_fault v_laid v_open v_s v_statuses v_pile v_wish) H locs → lv_has ls 4 [(0, .ref a_t), (1, .int y1), (2, .int y2), (3, .int y3)] → ll6 (fX5_minds_23 v_s) n v_statuses v_pile v_wish y1 y2 y3 = some (rr, kk') → W p l e rX5_minds s m args below meth c H locs 0 0 (MQ below (q_Ri D rr A ((fun k : (Nat → Int32) × (Nat → Int32) × (Nat → Int32) => (wX5_minds cI cJ cZ cS a_t a_s a_keptS a_statuses a_pile a_tape a_steps a_wish a_mark a_bitsOf a_sizeOf a_number a_moved v_isKept v_taped v_at v_fault v_laid v_open v_s k.1 k.2.1 k.2.2)) kk')) args s 0 0 A) (F0 m 23 ls []) := by
  intro n
  induction n with
  | zero => intro v_statuses v_pile v_wish y1 y2 y3 H locs ls h hl hf; exact (ll6_z hf).elim
  | succ n ih => intro v_statuses v_pile v_wish y1 y2 y3 H locs ls h hl hf; exact LX5_minds_23 fx ih h hl (ll6_s hf)
def fX5_minds (v_s : Nat → Int32) (v_statuses : Nat → Int32) (v_pile : Nat → Int32) (v_wish : Nat → Int32) (x1 : Int32) : Option (Int32 × (Nat → Int32) × (Nat → Int32) × (Nat → Int32)) :=
  bR (fX5_isGuest v_s x1) (fun r7 k7 =>
  (if r7 = 0 then (
  bR (fX5_finds v_statuses (-1000000001)) (fun r10 k10 =>
  some (r10, (k10, v_pile, v_wish))))
  else (
  bV (fX5_looksAll v_s v_pile v_wish) (fun k9 =>
  ll6 (fX5_minds_23 v_s) qF v_statuses k9.1 k9.2 x1 0 0))))
set_option maxRecDepth 100000 in
set_option maxHeartbeats 4000000 in
theorem tX5_minds (l : Launch) (D : va_G) (cI cJ cZ cS : ClassId) (tb : Nat) (a_t a_s a_keptS a_statuses a_pile a_tape a_steps a_wish a_mark a_bitsOf a_sizeOf a_number a_moved : Nat) (sz : Nat) (v_isKept : Int32) (v_taped : Int32) (v_at : Int32) (v_fault : Int32) (v_laid : Int32) (v_open : Int32) (v_s : Nat → Int32) (v_statuses : Nat → Int32) (v_pile : Nat → Int32) (v_wish : Nat → Int32) (x1 : Int32) (rr : Int32) (kk' : (Nat → Int32) × (Nat → Int32) × (Nat → Int32)) (hf : fX5_minds v_s v_statuses v_pile v_wish x1 = some (rr, kk')) : Met l yX5_minds (Cond.code yX5_minds cX5_minds 4 (some .int) :: wA) rX5_minds (q_Pre D cI cJ cZ cS tb [.ref a_t, .int x1] sz (wX5_minds cI cJ cZ cS a_t a_s a_keptS a_statuses a_pile a_tape a_steps a_wish a_mark a_bitsOf a_sizeOf a_number a_moved v_isKept v_taped v_at v_fault v_laid v_open v_s v_statuses v_pile v_wish)) (q_Ri D rr (va_A (wX5_minds cI cJ cZ cS a_t a_s a_keptS a_statuses a_pile a_tape a_steps a_wish a_mark a_bitsOf a_sizeOf a_number a_moved v_isKept v_taped v_at v_fault v_laid v_open v_s v_statuses v_pile v_wish) sz) ((fun k : (Nat → Int32) × (Nat → Int32) × (Nat → Int32) => (wX5_minds cI cJ cZ cS a_t a_s a_keptS a_statuses a_pile a_tape a_steps a_wish a_mark a_bitsOf a_sizeOf a_number a_moved v_isKept v_taped v_at v_fault v_laid v_open v_s k.1 k.2.1 k.2.2)) kk')) 0 0 (va_A (wX5_minds cI cJ cZ cS a_t a_s a_keptS a_statuses a_pile a_tape a_steps a_wish a_mark a_bitsOf a_sizeOf a_number a_moved v_isKept v_taped v_at v_fault v_laid v_open v_s v_statuses v_pile v_wish) sz) := by
  refine q_enter (Qf := fun A => (q_Ri D rr A ((fun k : (Nat → Int32) × (Nat → Int32) × (Nat → Int32) => (wX5_minds cI cJ cZ cS a_t a_s a_keptS a_statuses a_pile a_tape a_steps a_wish a_mark a_bitsOf a_sizeOf a_number a_moved v_isKept v_taped v_at v_fault v_laid v_open v_s k.1 k.2.1 k.2.2)) kk'))) (by decide) rfl (Nat.le_of_ble_eq_true rfl) ?_
  intro p e s m below meth c A ls fx hname h hl
  have hx := fx.1
  have hb := fx.2.1
  have hl : lv_has ls 4 [(0, .ref a_t), (1, .int x1)] := hl
  generalize h9 : s.heap = H at h ⊢
  clear h9
  generalize h9 : ([] : List Loc) = locs at h ⊢
  clear h9
  unfold fX5_minds at hf
  refine lv_aload_n hx hb dX5_minds_0 rfl (lv_at hl 0 rfl) ?_
  refine lv_iload_n hx hb dX5_minds_1 rfl (lv_at hl 1 rfl) ?_
  obtain ⟨r7, k7, hg, hf⟩ := bR_inv hf
  refine q_ci (rest := []) (ws' := (wX5_minds cI cJ cZ cS a_t a_s a_keptS a_statuses a_pile a_tape a_steps a_wish a_mark a_bitsOf a_sizeOf a_number a_moved v_isKept v_taped v_at v_fault v_laid v_open v_s v_statuses v_pile v_wish)) (w1 := (wX5_isGuest cI cJ cZ cS a_t a_s a_keptS a_statuses a_pile a_tape a_steps a_wish a_mark a_bitsOf a_sizeOf a_number a_moved v_isKept v_taped v_at v_fault v_laid v_open v_s)) fx h [0, 1] rfl rfl rfl rfl (q_runV fx h hl.1 [0, 1] rfl rfl (tX5_isGuest l D cI cJ cZ cS tb a_t a_s a_keptS a_statuses a_pile a_tape a_steps a_wish a_mark a_bitsOf a_sizeOf a_number a_moved H.size v_isKept v_taped v_at v_fault v_laid v_open v_s x1 r7 k7 hg) mvX5_isGuest k_711 ⟨rfl, rfl⟩ ⟨Nat.le_of_ble_eq_true rfl, Nat.le_of_ble_eq_true rfl⟩ rfl rfl rfl rfl (Nat.le_of_ble_eq_true rfl) dX5_minds_2 ⟨Nat.le_of_ble_eq_true rfl, Nat.le_of_ble_eq_true rfl⟩) (fun H locs h => ?_)
  refine lv_if_ne (tgt := 15) hx hb dX5_minds_5 (by decide) (fun c8 => ?_) (fun c8 => ?_)
  · have hf := it_f c8 hf
    refine lv_aload_n hx hb dX5_minds_15 rfl (lv_at hl 0 rfl) ?_
    obtain ⟨k9, hg, hf⟩ := bV_inv hf
    refine q_cv (rest := []) (ws' := (wX5_minds cI cJ cZ cS a_t a_s a_keptS a_statuses a_pile a_tape a_steps a_wish a_mark a_bitsOf a_sizeOf a_number a_moved v_isKept v_taped v_at v_fault v_laid v_open v_s v_statuses k9.1 k9.2)) (w1 := (wX5_looksAll cI cJ cZ cS a_t a_s a_keptS a_statuses a_pile a_tape a_steps a_wish a_mark a_bitsOf a_sizeOf a_number a_moved v_isKept v_taped v_at v_fault v_laid v_open v_s k9.1 k9.2)) fx h [0, 1, 3, 4] rfl rfl rfl rfl (q_runV fx h hl.1 [0, 1, 3, 4] rfl rfl (tX5_looksAll l D cI cJ cZ cS tb a_t a_s a_keptS a_statuses a_pile a_tape a_steps a_wish a_mark a_bitsOf a_sizeOf a_number a_moved H.size v_isKept v_taped v_at v_fault v_laid v_open v_s v_pile v_wish k9 hg) mvX5_looksAll k_860 ⟨rfl, rfl⟩ ⟨Nat.le_of_ble_eq_true rfl, Nat.le_of_ble_eq_true rfl⟩ rfl rfl rfl rfl (Nat.le_of_ble_eq_true rfl) dX5_minds_16 ⟨Nat.le_of_ble_eq_true rfl, Nat.le_of_ble_eq_true rfl⟩) (fun H locs h => ?_)
    refine lv_iconst (v := 0) hx hb dX5_minds_19 (by decide) ?_
    refine lv_istore_n (lv' := [(2, .int 0), (0, .ref a_t), (1, .int x1)]) hx hb dX5_minds_20 rfl hl (by decide) rfl (fun ls hl => ?_)
    refine lv_iconst (v := 0) hx hb dX5_minds_21 (by decide) ?_
    refine lv_istore_n (lv' := [(3, .int 0), (2, .int 0), (0, .ref a_t), (1, .int x1)]) hx hb dX5_minds_22 rfl hl (by decide) rfl (fun ls hl => ?_)
    exact EX5_minds_23 fx qF h (lv_sub hl [2, 3, 1, 0] rfl) hf
  have hf := it_t c8 hf
  refine lv_aload_n hx hb dX5_minds_8 rfl (lv_at hl 0 rfl) ?_
  refine q_ldc fx k_701 dX5_minds_9 ?_
  obtain ⟨r10, k10, hg, hf⟩ := bR_inv hf
  refine q_ci (rest := []) (ws' := (wX5_minds cI cJ cZ cS a_t a_s a_keptS a_statuses a_pile a_tape a_steps a_wish a_mark a_bitsOf a_sizeOf a_number a_moved v_isKept v_taped v_at v_fault v_laid v_open v_s k10 v_pile v_wish)) (w1 := (wX5_finds cI cJ cZ cS a_t a_s a_keptS a_statuses a_pile a_tape a_steps a_wish a_mark a_bitsOf a_sizeOf a_number a_moved v_isKept v_taped v_at v_fault v_laid v_open k10)) fx h [0, 2] rfl rfl rfl rfl (q_runV fx h hl.1 [0, 2] rfl rfl (tX5_finds l D cI cJ cZ cS tb a_t a_s a_keptS a_statuses a_pile a_tape a_steps a_wish a_mark a_bitsOf a_sizeOf a_number a_moved H.size v_isKept v_taped v_at v_fault v_laid v_open v_statuses (-1000000001) r10 k10 hg) mvX5_finds k_702 ⟨rfl, rfl⟩ ⟨Nat.le_of_ble_eq_true rfl, Nat.le_of_ble_eq_true rfl⟩ rfl rfl rfl rfl (Nat.le_of_ble_eq_true rfl) dX5_minds_11 ⟨Nat.le_of_ble_eq_true rfl, Nat.le_of_ble_eq_true rfl⟩) (fun H locs h => ?_)
  exact q_reti (fun k : (Nat → Int32) × (Nat → Int32) × (Nat → Int32) => (wX5_minds cI cJ cZ cS a_t a_s a_keptS a_statuses a_pile a_tape a_steps a_wish a_mark a_bitsOf a_sizeOf a_number a_moved v_isKept v_taped v_at v_fault v_laid v_open v_s k.1 k.2.1 k.2.2)) fx hf h dX5_minds_14
/-! X5_kind -/
abbrev wX5_kind (cI cJ cZ cS : ClassId) (a_t a_s a_keptS a_statuses a_pile a_tape a_steps a_wish a_mark a_bitsOf a_sizeOf a_number a_moved : Nat) (v_isKept : Int32) (v_taped : Int32) (v_at : Int32) (v_fault : Int32) (v_laid : Int32) (v_open : Int32) (v_s : Nat → Int32) (v_statuses : Nat → Int32) (v_pile : Nat → Int32) (v_wish : Nat → Int32) : va_W := [(a_t, .inr (5, [.ref a_s, .ref a_keptS, .ref a_statuses, .int v_isKept, .ref a_pile, .ref a_tape, .ref a_steps, .int v_taped, .int v_at, .int v_fault, .int v_laid, .int v_open, .ref a_wish, .ref a_mark, .ref a_bitsOf, .ref a_sizeOf, .ref a_number, .ref a_moved])), (a_s, .inl (cI, 538, .inl v_s)), (a_statuses, .inl (cI, 7, .inl v_statuses)), (a_pile, .inl (cZ, 64, .inl v_pile)), (a_wish, .inl (cI, 256, .inl v_wish))]
abbrev rX5_kind : Room := { frames := 7, cells := 0, slots := 0, locals := 159 }
def fX5_kind_83 (ag30 : (Nat → Int32) → (Nat → Int32) → (Nat → Int32) → (Nat → Int32) → Int32 → Int32 → Int32 → Int32 → Int32 → Option (Int32 × (Nat → Int32) × (Nat → Int32) × (Nat → Int32) × (Nat → Int32))) (v_s : Nat → Int32) (v_statuses : Nat → Int32) (v_pile : Nat → Int32) (v_wish : Nat → Int32) (s0 : Int32) (y1 : Int32) (y2 : Int32) (y3 : Int32) (y5 : Int32) : Option (Int32 × (Nat → Int32) × (Nat → Int32) × (Nat → Int32) × (Nat → Int32)) :=
  nm (y5 + 1) (fun u1 =>
  ag30 v_s v_statuses v_pile v_wish y1 y2 y3 s0 u1)
set_option maxRecDepth 100000 in
set_option maxHeartbeats 4000000 in
theorem LX5_kind_83 {p : Program} {l : Launch} {e : Env} {s : State} {m : MethodId} {args : Array Value} {below : List Frame} {meth : Method} {c : Code} {D : va_G} {cI cJ cZ cS : ClassId} {tb : Nat} {A : Nat → Prop} {a_t a_s a_keptS a_statuses a_pile a_tape a_steps a_wish a_mark a_bitsOf a_sizeOf a_number a_moved : Nat} {v_isKept : Int32} {v_taped : Int32} {v_at : Int32} {v_fault : Int32} {v_laid : Int32} {v_open : Int32} {rr : Int32} {kk' : (Nat → Int32) × (Nat → Int32) × (Nat → Int32) × (Nat → Int32)} (fx : q_Fx p s m args meth c cX5_kind 7 RX5 (some .int) D cI cJ cZ cS tb A) {ag30 : (Nat → Int32) → (Nat → Int32) → (Nat → Int32) → (Nat → Int32) → Int32 → Int32 → Int32 → Int32 → Int32 → Option (Int32 × (Nat → Int32) × (Nat → Int32) × (Nat → Int32) × (Nat → Int32))} (hag30 : ∀ {v_s : Nat → Int32} {v_statuses : Nat → Int32} {v_pile : Nat → Int32} {v_wish : Nat → Int32} {y1 : Int32} {y2 : Int32} {y3 : Int32} {y4 : Int32} {y5 : Int32} {H : Heap} {locs : List Loc} {ls : Array Slot}, q_H D A s (wX5_kind cI cJ cZ cS a_t a_s a_keptS a_statuses a_pile a_tape a_steps a_wish a_mark a_bitsOf a_sizeOf a_number a_moved v_isKept v_taped v_at v_fault v_laid v_open v_s v_statuses v_pile v_wish) H locs → lv_has ls 7 [(0, .ref a_t), (1, .int y1), (2, .int y2), (3, .int y3), (4, .int y4), (5, .int y5)] → ag30 v_s v_statuses v_pile v_wish y1 y2 y3 y4 y5 = some (rr, kk') → W p l e rX5_kind s m args below meth c H locs 0 0 (MQ below (q_Ri D rr A ((fun k : (Nat → Int32) × (Nat → Int32) × (Nat → Int32) × (Nat → Int32) => (wX5_kind cI cJ cZ cS a_t a_s a_keptS a_statuses a_pile a_tape a_steps a_wish a_mark a_bitsOf a_sizeOf a_number a_moved v_isKept v_taped v_at v_fault v_laid v_open k.1 k.2.1 k.2.2.1 k.2.2.2)) kk')) args s 0 0 A) (F0 m 30 ls [])) : ∀ {v_s : Nat → Int32} {v_statuses : Nat → Int32} {v_pile : Nat → Int32} {v_wish : Nat → Int32} {s0 : Int32} {y1 : Int32} {y2 : Int32} {y3 : Int32} {y5 : Int32} {H : Heap} {locs : List Loc} {ls : Array Slot}, q_H D A s (wX5_kind cI cJ cZ cS a_t a_s a_keptS a_statuses a_pile a_tape a_steps a_wish a_mark a_bitsOf a_sizeOf a_number a_moved v_isKept v_taped v_at v_fault v_laid v_open v_s v_statuses v_pile v_wish) H locs → lv_has ls 7 [(0, .ref a_t), (1, .int y1), (2, .int y2), (3, .int y3), (5, .int y5)] → fX5_kind_83 ag30 v_s v_statuses v_pile v_wish s0 y1 y2 y3 y5 = some (rr, kk') → W p l e rX5_kind s m args below meth c H locs 0 0 (MQ below (q_Ri D rr A ((fun k : (Nat → Int32) × (Nat → Int32) × (Nat → Int32) × (Nat → Int32) => (wX5_kind cI cJ cZ cS a_t a_s a_keptS a_statuses a_pile a_tape a_steps a_wish a_mark a_bitsOf a_sizeOf a_number a_moved v_isKept v_taped v_at v_fault v_laid v_open k.1 k.2.1 k.2.2.1 k.2.2.2)) kk')) args s 0 0 A) (F0 m 83 ls [.int s0]) := by
  intro v_s v_statuses v_pile v_wish s0 y1 y2 y3 y5 H locs ls h hl hf
  have hx := fx.1
  have hb := fx.2.1
  unfold fX5_kind_83 at hf
  refine lv_istore (lv' := [(4, .int s0), (0, .ref a_t), (1, .int y1), (2, .int y2), (3, .int y3), (5, .int y5)]) hx hb dX5_kind_83 hl (by decide) rfl (fun ls hl => ?_)
  obtain ⟨u1, eu1, hf⟩ := nm_inv hf
  refine lv_iinc (v := u1) (lv' := [(5, .int u1), (4, .int s0), (0, .ref a_t), (1, .int y1), (2, .int y2), (3, .int y3)]) hx hb dX5_kind_85 hl (k := 5) rfl (by rw [eu1]; rfl) (by decide) rfl (fun ls hl => ?_)
  refine lv_goto (tgt := 30) hx hb dX5_kind_88 (by decide) ?_
  exact hag30 h (lv_sub hl [2, 3, 4, 5, 1, 0] rfl) hf
def fX5_kind_68 (ag30 : (Nat → Int32) → (Nat → Int32) → (Nat → Int32) → (Nat → Int32) → Int32 → Int32 → Int32 → Int32 → Int32 → Option (Int32 × (Nat → Int32) × (Nat → Int32) × (Nat → Int32) × (Nat → Int32))) (v_s : Nat → Int32) (v_statuses : Nat → Int32) (v_pile : Nat → Int32) (v_wish : Nat → Int32) (s0 : Int32) (y1 : Int32) (y2 : Int32) (y4 : Int32) (y5 : Int32) (y6 : Int32) : Option (Int32 × (Nat → Int32) × (Nat → Int32) × (Nat → Int32) × (Nat → Int32)) :=
  (if y6 ≤ y4 then (
  fX5_kind_83 ag30 v_s v_statuses v_pile v_wish y4 y1 y2 s0 y5)
  else (
  fX5_kind_83 ag30 v_s v_statuses v_pile v_wish y6 y1 y2 s0 y5))
set_option maxRecDepth 100000 in
set_option maxHeartbeats 4000000 in
theorem LX5_kind_68 {p : Program} {l : Launch} {e : Env} {s : State} {m : MethodId} {args : Array Value} {below : List Frame} {meth : Method} {c : Code} {D : va_G} {cI cJ cZ cS : ClassId} {tb : Nat} {A : Nat → Prop} {a_t a_s a_keptS a_statuses a_pile a_tape a_steps a_wish a_mark a_bitsOf a_sizeOf a_number a_moved : Nat} {v_isKept : Int32} {v_taped : Int32} {v_at : Int32} {v_fault : Int32} {v_laid : Int32} {v_open : Int32} {rr : Int32} {kk' : (Nat → Int32) × (Nat → Int32) × (Nat → Int32) × (Nat → Int32)} (fx : q_Fx p s m args meth c cX5_kind 7 RX5 (some .int) D cI cJ cZ cS tb A) {ag30 : (Nat → Int32) → (Nat → Int32) → (Nat → Int32) → (Nat → Int32) → Int32 → Int32 → Int32 → Int32 → Int32 → Option (Int32 × (Nat → Int32) × (Nat → Int32) × (Nat → Int32) × (Nat → Int32))} (hag30 : ∀ {v_s : Nat → Int32} {v_statuses : Nat → Int32} {v_pile : Nat → Int32} {v_wish : Nat → Int32} {y1 : Int32} {y2 : Int32} {y3 : Int32} {y4 : Int32} {y5 : Int32} {H : Heap} {locs : List Loc} {ls : Array Slot}, q_H D A s (wX5_kind cI cJ cZ cS a_t a_s a_keptS a_statuses a_pile a_tape a_steps a_wish a_mark a_bitsOf a_sizeOf a_number a_moved v_isKept v_taped v_at v_fault v_laid v_open v_s v_statuses v_pile v_wish) H locs → lv_has ls 7 [(0, .ref a_t), (1, .int y1), (2, .int y2), (3, .int y3), (4, .int y4), (5, .int y5)] → ag30 v_s v_statuses v_pile v_wish y1 y2 y3 y4 y5 = some (rr, kk') → W p l e rX5_kind s m args below meth c H locs 0 0 (MQ below (q_Ri D rr A ((fun k : (Nat → Int32) × (Nat → Int32) × (Nat → Int32) × (Nat → Int32) => (wX5_kind cI cJ cZ cS a_t a_s a_keptS a_statuses a_pile a_tape a_steps a_wish a_mark a_bitsOf a_sizeOf a_number a_moved v_isKept v_taped v_at v_fault v_laid v_open k.1 k.2.1 k.2.2.1 k.2.2.2)) kk')) args s 0 0 A) (F0 m 30 ls [])) : ∀ {v_s : Nat → Int32} {v_statuses : Nat → Int32} {v_pile : Nat → Int32} {v_wish : Nat → Int32} {s0 : Int32} {y1 : Int32} {y2 : Int32} {y4 : Int32} {y5 : Int32} {y6 : Int32} {H : Heap} {locs : List Loc} {ls : Array Slot}, q_H D A s (wX5_kind cI cJ cZ cS a_t a_s a_keptS a_statuses a_pile a_tape a_steps a_wish a_mark a_bitsOf a_sizeOf a_number a_moved v_isKept v_taped v_at v_fault v_laid v_open v_s v_statuses v_pile v_wish) H locs → lv_has ls 7 [(0, .ref a_t), (1, .int y1), (2, .int y2), (4, .int y4), (5, .int y5), (6, .int y6)] → fX5_kind_68 ag30 v_s v_statuses v_pile v_wish s0 y1 y2 y4 y5 y6 = some (rr, kk') → W p l e rX5_kind s m args below meth c H locs 0 0 (MQ below (q_Ri D rr A ((fun k : (Nat → Int32) × (Nat → Int32) × (Nat → Int32) × (Nat → Int32) => (wX5_kind cI cJ cZ cS a_t a_s a_keptS a_statuses a_pile a_tape a_steps a_wish a_mark a_bitsOf a_sizeOf a_number a_moved v_isKept v_taped v_at v_fault v_laid v_open k.1 k.2.1 k.2.2.1 k.2.2.2)) kk')) args s 0 0 A) (F0 m 68 ls [.int s0]) := by
  intro v_s v_statuses v_pile v_wish s0 y1 y2 y4 y5 y6 H locs ls h hl hf
  have hx := fx.1
  have hb := fx.2.1
  unfold fX5_kind_68 at hf
  refine lv_istore_n (lv' := [(3, .int s0), (0, .ref a_t), (1, .int y1), (2, .int y2), (4, .int y4), (5, .int y5), (6, .int y6)]) hx hb dX5_kind_68 rfl hl (by decide) rfl (fun ls hl => ?_)
  refine lv_iload hx hb dX5_kind_69 (lv_at hl 6 rfl) ?_
  refine lv_iload hx hb dX5_kind_71 (lv_at hl 4 rfl) ?_
  refine lv_icmp_le (tgt := 81) hx hb dX5_kind_73 (by decide) (fun c2 => ?_) (fun c2 => ?_)
  · have hf := it_t c2 hf
    refine lv_iload hx hb dX5_kind_81 (lv_at hl 4 rfl) ?_
    exact LX5_kind_83 fx hag30 h (lv_sub hl [1, 2, 3, 0, 5] rfl) hf
  have hf := it_f c2 hf
  refine lv_iload hx hb dX5_kind_76 (lv_at hl 6 rfl) ?_
  refine lv_goto (tgt := 83) hx hb dX5_kind_78 (by decide) ?_
  exact LX5_kind_83 fx hag30 h (lv_sub hl [1, 2, 3, 0, 5] rfl) hf
def fX5_kind_30 (ag30 : (Nat → Int32) → (Nat → Int32) → (Nat → Int32) → (Nat → Int32) → Int32 → Int32 → Int32 → Int32 → Int32 → Option (Int32 × (Nat → Int32) × (Nat → Int32) × (Nat → Int32) × (Nat → Int32))) (v_s : Nat → Int32) (v_statuses : Nat → Int32) (v_pile : Nat → Int32) (v_wish : Nat → Int32) (y1 : Int32) (y2 : Int32) (y3 : Int32) (y4 : Int32) (y5 : Int32) : Option (Int32 × (Nat → Int32) × (Nat → Int32) × (Nat → Int32) × (Nat → Int32)) :=
  (if (6 : Int32) ≤ y5 then (
  gIn (2 + (3 * y1)) 538 (
  some (y3, ((upd v_s (2 + (3 * y1)).toNatClampNeg y2), v_statuses, v_pile, v_wish))))
  else (
  gIn (2 + (3 * y1)) 538 (
  bR (fX5_manySettled (upd v_s (2 + (3 * y1)).toNatClampNeg y5) v_pile v_wish) (fun r6 k6 =>
  (if r6 ≤ y4 then (
  fX5_kind_68 ag30 (upd v_s (2 + (3 * y1)).toNatClampNeg y5) v_statuses k6.1 k6.2 y3 y1 y2 y4 y5 r6)
  else (
  fX5_kind_68 ag30 (upd v_s (2 + (3 * y1)).toNatClampNeg y5) v_statuses k6.1 k6.2 y5 y1 y2 y4 y5 r6))))))
set_option maxRecDepth 100000 in
set_option maxHeartbeats 4000000 in
theorem LX5_kind_30 {p : Program} {l : Launch} {e : Env} {s : State} {m : MethodId} {args : Array Value} {below : List Frame} {meth : Method} {c : Code} {D : va_G} {cI cJ cZ cS : ClassId} {tb : Nat} {A : Nat → Prop} {a_t a_s a_keptS a_statuses a_pile a_tape a_steps a_wish a_mark a_bitsOf a_sizeOf a_number a_moved : Nat} {v_isKept : Int32} {v_taped : Int32} {v_at : Int32} {v_fault : Int32} {v_laid : Int32} {v_open : Int32} {rr : Int32} {kk' : (Nat → Int32) × (Nat → Int32) × (Nat → Int32) × (Nat → Int32)} (fx : q_Fx p s m args meth c cX5_kind 7 RX5 (some .int) D cI cJ cZ cS tb A) {ag30 : (Nat → Int32) → (Nat → Int32) → (Nat → Int32) → (Nat → Int32) → Int32 → Int32 → Int32 → Int32 → Int32 → Option (Int32 × (Nat → Int32) × (Nat → Int32) × (Nat → Int32) × (Nat → Int32))} (hag30 : ∀ {v_s : Nat → Int32} {v_statuses : Nat → Int32} {v_pile : Nat → Int32} {v_wish : Nat → Int32} {y1 : Int32} {y2 : Int32} {y3 : Int32} {y4 : Int32} {y5 : Int32} {H : Heap} {locs : List Loc} {ls : Array Slot}, q_H D A s (wX5_kind cI cJ cZ cS a_t a_s a_keptS a_statuses a_pile a_tape a_steps a_wish a_mark a_bitsOf a_sizeOf a_number a_moved v_isKept v_taped v_at v_fault v_laid v_open v_s v_statuses v_pile v_wish) H locs → lv_has ls 7 [(0, .ref a_t), (1, .int y1), (2, .int y2), (3, .int y3), (4, .int y4), (5, .int y5)] → ag30 v_s v_statuses v_pile v_wish y1 y2 y3 y4 y5 = some (rr, kk') → W p l e rX5_kind s m args below meth c H locs 0 0 (MQ below (q_Ri D rr A ((fun k : (Nat → Int32) × (Nat → Int32) × (Nat → Int32) × (Nat → Int32) => (wX5_kind cI cJ cZ cS a_t a_s a_keptS a_statuses a_pile a_tape a_steps a_wish a_mark a_bitsOf a_sizeOf a_number a_moved v_isKept v_taped v_at v_fault v_laid v_open k.1 k.2.1 k.2.2.1 k.2.2.2)) kk')) args s 0 0 A) (F0 m 30 ls [])) : ∀ {v_s : Nat → Int32} {v_statuses : Nat → Int32} {v_pile : Nat → Int32} {v_wish : Nat → Int32} {y1 : Int32} {y2 : Int32} {y3 : Int32} {y4 : Int32} {y5 : Int32} {H : Heap} {locs : List Loc} {ls : Array Slot}, q_H D A s (wX5_kind cI cJ cZ cS a_t a_s a_keptS a_statuses a_pile a_tape a_steps a_wish a_mark a_bitsOf a_sizeOf a_number a_moved v_isKept v_taped v_at v_fault v_laid v_open v_s v_statuses v_pile v_wish) H locs → lv_has ls 7 [(0, .ref a_t), (1, .int y1), (2, .int y2), (3, .int y3), (4, .int y4), (5, .int y5)] → fX5_kind_30 ag30 v_s v_statuses v_pile v_wish y1 y2 y3 y4 y5 = some (rr, kk') → W p l e rX5_kind s m args below meth c H locs 0 0 (MQ below (q_Ri D rr A ((fun k : (Nat → Int32) × (Nat → Int32) × (Nat → Int32) × (Nat → Int32) => (wX5_kind cI cJ cZ cS a_t a_s a_keptS a_statuses a_pile a_tape a_steps a_wish a_mark a_bitsOf a_sizeOf a_number a_moved v_isKept v_taped v_at v_fault v_laid v_open k.1 k.2.1 k.2.2.1 k.2.2.2)) kk')) args s 0 0 A) (F0 m 30 ls []) := by
  intro v_s v_statuses v_pile v_wish y1 y2 y3 y4 y5 H locs ls h hl hf
  have hx := fx.1
  have hb := fx.2.1
  unfold fX5_kind_30 at hf
  refine lv_iload hx hb dX5_kind_30 (lv_at hl 5 rfl) ?_
  refine lv_bipush (v := 6) hx hb dX5_kind_32 (by decide) ?_
  refine lv_icmp_ge (tgt := 91) hx hb dX5_kind_34 (by decide) (fun c3 => ?_) (fun c3 => ?_)
  · have hf := it_t c3 hf
    refine lv_aload_n hx hb dX5_kind_91 rfl (lv_at hl 0 rfl) ?_
    refine q_get (v := .ref a_s) fx inX5 h 0 rfl rfl 0 (by decide) k_636 rfl dX5_kind_92 ?_
    refine lv_iconst (v := 2) hx hb dX5_kind_95 (by decide) ?_
    refine lv_iconst (v := 3) hx hb dX5_kind_96 (by decide) ?_
    refine lv_iload_n hx hb dX5_kind_97 rfl (lv_at hl 1 rfl) ?_
    refine lv_imul hx hb dX5_kind_98 ?_
    refine lv_iadd hx hb dX5_kind_99 ?_
    refine lv_iload_n hx hb dX5_kind_100 rfl (lv_at hl 2 rfl) ?_
    obtain ⟨i4, hf⟩ := gIn_inv hf
    refine q_iast (ws' := (wX5_kind cI cJ cZ cS a_t a_s a_keptS a_statuses a_pile a_tape a_steps a_wish a_mark a_bitsOf a_sizeOf a_number a_moved v_isKept v_taped v_at v_fault v_laid v_open (upd v_s (2 + (3 * y1)).toNatClampNeg y2) v_statuses v_pile v_wish)) fx h 1 rfl i4 rfl dX5_kind_101 (fun H locs h => ?_)
    refine lv_iload_n hx hb dX5_kind_102 rfl (lv_at hl 3 rfl) ?_
    exact q_reti (fun k : (Nat → Int32) × (Nat → Int32) × (Nat → Int32) × (Nat → Int32) => (wX5_kind cI cJ cZ cS a_t a_s a_keptS a_statuses a_pile a_tape a_steps a_wish a_mark a_bitsOf a_sizeOf a_number a_moved v_isKept v_taped v_at v_fault v_laid v_open k.1 k.2.1 k.2.2.1 k.2.2.2)) fx hf h dX5_kind_103
  have hf := it_f c3 hf
  refine lv_aload_n hx hb dX5_kind_37 rfl (lv_at hl 0 rfl) ?_
  refine q_get (v := .ref a_s) fx inX5 h 0 rfl rfl 0 (by decide) k_636 rfl dX5_kind_38 ?_
  refine lv_iconst (v := 2) hx hb dX5_kind_41 (by decide) ?_
  refine lv_iconst (v := 3) hx hb dX5_kind_42 (by decide) ?_
  refine lv_iload_n hx hb dX5_kind_43 rfl (lv_at hl 1 rfl) ?_
  refine lv_imul hx hb dX5_kind_44 ?_
  refine lv_iadd hx hb dX5_kind_45 ?_
  refine lv_iload hx hb dX5_kind_46 (lv_at hl 5 rfl) ?_
  obtain ⟨i5, hf⟩ := gIn_inv hf
  refine q_iast (ws' := (wX5_kind cI cJ cZ cS a_t a_s a_keptS a_statuses a_pile a_tape a_steps a_wish a_mark a_bitsOf a_sizeOf a_number a_moved v_isKept v_taped v_at v_fault v_laid v_open (upd v_s (2 + (3 * y1)).toNatClampNeg y5) v_statuses v_pile v_wish)) fx h 1 rfl i5 rfl dX5_kind_48 (fun H locs h => ?_)
  refine lv_aload_n hx hb dX5_kind_49 rfl (lv_at hl 0 rfl) ?_
  obtain ⟨r6, k6, hg, hf⟩ := bR_inv hf
  refine q_ci (rest := []) (ws' := (wX5_kind cI cJ cZ cS a_t a_s a_keptS a_statuses a_pile a_tape a_steps a_wish a_mark a_bitsOf a_sizeOf a_number a_moved v_isKept v_taped v_at v_fault v_laid v_open (upd v_s (2 + (3 * y1)).toNatClampNeg y5) v_statuses k6.1 k6.2)) (w1 := (wX5_manySettled cI cJ cZ cS a_t a_s a_keptS a_statuses a_pile a_tape a_steps a_wish a_mark a_bitsOf a_sizeOf a_number a_moved v_isKept v_taped v_at v_fault v_laid v_open (upd v_s (2 + (3 * y1)).toNatClampNeg y5) k6.1 k6.2)) fx h [0, 1, 3, 4] rfl rfl rfl rfl (q_runV fx h hl.1 [0, 1, 3, 4] rfl rfl (tX5_manySettled l D cI cJ cZ cS tb a_t a_s a_keptS a_statuses a_pile a_tape a_steps a_wish a_mark a_bitsOf a_sizeOf a_number a_moved H.size v_isKept v_taped v_at v_fault v_laid v_open (upd v_s (2 + (3 * y1)).toNatClampNeg y5) v_pile v_wish r6 k6 hg) mvX5_manySettled k_889 ⟨rfl, rfl⟩ ⟨Nat.le_of_ble_eq_true rfl, Nat.le_of_ble_eq_true rfl⟩ rfl rfl rfl rfl (Nat.le_of_ble_eq_true rfl) dX5_kind_50 ⟨Nat.le_of_ble_eq_true rfl, Nat.le_of_ble_eq_true rfl⟩) (fun H locs h => ?_)
  refine lv_istore (lv' := [(6, .int r6), (0, .ref a_t), (1, .int y1), (2, .int y2), (3, .int y3), (4, .int y4), (5, .int y5)]) hx hb dX5_kind_53 hl (by decide) rfl (fun ls hl => ?_)
  refine lv_iload hx hb dX5_kind_55 (lv_at hl 0 rfl) ?_
  refine lv_iload hx hb dX5_kind_57 (lv_at hl 5 rfl) ?_
  refine lv_icmp_le (tgt := 67) hx hb dX5_kind_59 (by decide) (fun c7 => ?_) (fun c7 => ?_)
  · have hf := it_t c7 hf
    refine lv_iload_n hx hb dX5_kind_67 rfl (lv_at hl 4 rfl) ?_
    exact LX5_kind_68 fx hag30 h (lv_sub hl [1, 2, 3, 5, 6, 0] rfl) hf
  have hf := it_f c7 hf
  refine lv_iload hx hb dX5_kind_62 (lv_at hl 6 rfl) ?_
  refine lv_goto (tgt := 68) hx hb dX5_kind_64 (by decide) ?_
  exact LX5_kind_68 fx hag30 h (lv_sub hl [1, 2, 3, 5, 6, 0] rfl) hf
set_option maxRecDepth 100000 in
theorem EX5_kind_30 {p : Program} {l : Launch} {e : Env} {s : State} {m : MethodId} {args : Array Value} {below : List Frame} {meth : Method} {c : Code} {D : va_G} {cI cJ cZ cS : ClassId} {tb : Nat} {A : Nat → Prop} {a_t a_s a_keptS a_statuses a_pile a_tape a_steps a_wish a_mark a_bitsOf a_sizeOf a_number a_moved : Nat} {v_isKept : Int32} {v_taped : Int32} {v_at : Int32} {v_fault : Int32} {v_laid : Int32} {v_open : Int32} {rr : Int32} {kk' : (Nat → Int32) × (Nat → Int32) × (Nat → Int32) × (Nat → Int32)} (fx : q_Fx p s m args meth c cX5_kind 7 RX5 (some .int) D cI cJ cZ cS tb A) : ∀ (n : Nat), ∀ {v_s : Nat → Int32} {v_statuses : Nat → Int32} {v_pile : Nat → Int32} {v_wish : Nat → Int32} {y1 : Int32} {y2 : Int32} {y3 : Int32} {y4 : Int32} {y5 : Int32} {H : Heap} {locs : List Loc} {ls : Array Slot}, q_H D A s (wX5_kind cI cJ cZ cS a_t a_s a_keptS a_statuses a_pile a_tape a_steps a_wish a_mark a_bitsOf a_sizeOf a_number a_moved v_isKept v_taped v_at v_fault v_laid v_open v_s v_statuses v_pile v_wish) H locs → lv_has ls 7 [(0, .ref a_t), (1, .int y1), (2, .int y2), (3, .int y3), (4, .int y4), (5, .int y5)] → ll9 (fX5_kind_30 ) n v_s v_statuses v_pile v_wish y1 y2 y3 y4 y5 = some (rr, kk') → W p l e rX5_kind s m args below meth c H locs 0 0 (MQ below (q_Ri D rr A ((fun k : (Nat → Int32) × (Nat → Int32) × (Nat → Int32) × (Nat → Int32) => (wX5_kind cI cJ cZ cS a_t a_s a_keptS a_statuses a_pile a_tape a_steps a_wish a_mark a_bitsOf a_sizeOf a_number a_moved v_isKept v_taped v_at v_fault v_laid v_open k.1 k.2.1 k.2.2.1 k.2.2.2)) kk')) args s 0 0 A) (F0 m 30 ls []) := by
  intro n
  induction n with
  | zero => intro v_s v_statuses v_pile v_wish y1 y2 y3 y4 y5 H locs ls h hl hf; exact (ll9_z hf).elim
  | succ n ih => intro v_s v_statuses v_pile v_wish y1 y2 y3 y4 y5 H locs ls h hl hf; exact LX5_kind_30 fx ih h hl (ll9_s hf)
def fX5_kind (v_s : Nat → Int32) (v_statuses : Nat → Int32) (v_pile : Nat → Int32) (v_wish : Nat → Int32) (x1 : Int32) : Option (Int32 × (Nat → Int32) × (Nat → Int32) × (Nat → Int32) × (Nat → Int32)) :=
  bR (fX5_isGuest v_s x1) (fun r8 k8 =>
  (if r8 = 0 then (
  bR (fX5_finds v_statuses (-1000000001)) (fun r11 k11 =>
  some (r11, (v_s, k11, v_pile, v_wish))))
  else (
  bR (fX5_its v_s x1 0) (fun r10 k10 =>
  ll9 (fX5_kind_30 ) qF v_s v_statuses v_pile v_wish x1 r10 (-1) (-1) 0))))
set_option maxRecDepth 100000 in
set_option maxHeartbeats 4000000 in
theorem tX5_kind (l : Launch) (D : va_G) (cI cJ cZ cS : ClassId) (tb : Nat) (a_t a_s a_keptS a_statuses a_pile a_tape a_steps a_wish a_mark a_bitsOf a_sizeOf a_number a_moved : Nat) (sz : Nat) (v_isKept : Int32) (v_taped : Int32) (v_at : Int32) (v_fault : Int32) (v_laid : Int32) (v_open : Int32) (v_s : Nat → Int32) (v_statuses : Nat → Int32) (v_pile : Nat → Int32) (v_wish : Nat → Int32) (x1 : Int32) (rr : Int32) (kk' : (Nat → Int32) × (Nat → Int32) × (Nat → Int32) × (Nat → Int32)) (hf : fX5_kind v_s v_statuses v_pile v_wish x1 = some (rr, kk')) : Met l yX5_kind (Cond.code yX5_kind cX5_kind 7 (some .int) :: wA) rX5_kind (q_Pre D cI cJ cZ cS tb [.ref a_t, .int x1] sz (wX5_kind cI cJ cZ cS a_t a_s a_keptS a_statuses a_pile a_tape a_steps a_wish a_mark a_bitsOf a_sizeOf a_number a_moved v_isKept v_taped v_at v_fault v_laid v_open v_s v_statuses v_pile v_wish)) (q_Ri D rr (va_A (wX5_kind cI cJ cZ cS a_t a_s a_keptS a_statuses a_pile a_tape a_steps a_wish a_mark a_bitsOf a_sizeOf a_number a_moved v_isKept v_taped v_at v_fault v_laid v_open v_s v_statuses v_pile v_wish) sz) ((fun k : (Nat → Int32) × (Nat → Int32) × (Nat → Int32) × (Nat → Int32) => (wX5_kind cI cJ cZ cS a_t a_s a_keptS a_statuses a_pile a_tape a_steps a_wish a_mark a_bitsOf a_sizeOf a_number a_moved v_isKept v_taped v_at v_fault v_laid v_open k.1 k.2.1 k.2.2.1 k.2.2.2)) kk')) 0 0 (va_A (wX5_kind cI cJ cZ cS a_t a_s a_keptS a_statuses a_pile a_tape a_steps a_wish a_mark a_bitsOf a_sizeOf a_number a_moved v_isKept v_taped v_at v_fault v_laid v_open v_s v_statuses v_pile v_wish) sz) := by
  refine q_enter (Qf := fun A => (q_Ri D rr A ((fun k : (Nat → Int32) × (Nat → Int32) × (Nat → Int32) × (Nat → Int32) => (wX5_kind cI cJ cZ cS a_t a_s a_keptS a_statuses a_pile a_tape a_steps a_wish a_mark a_bitsOf a_sizeOf a_number a_moved v_isKept v_taped v_at v_fault v_laid v_open k.1 k.2.1 k.2.2.1 k.2.2.2)) kk'))) (by decide) rfl (Nat.le_of_ble_eq_true rfl) ?_
  intro p e s m below meth c A ls fx hname h hl
  have hx := fx.1
  have hb := fx.2.1
  have hl : lv_has ls 7 [(0, .ref a_t), (1, .int x1)] := hl
  generalize h9 : s.heap = H at h ⊢
  clear h9
  generalize h9 : ([] : List Loc) = locs at h ⊢
  clear h9
  unfold fX5_kind at hf
  refine lv_aload_n hx hb dX5_kind_0 rfl (lv_at hl 0 rfl) ?_
  refine lv_iload_n hx hb dX5_kind_1 rfl (lv_at hl 1 rfl) ?_
  obtain ⟨r8, k8, hg, hf⟩ := bR_inv hf
  refine q_ci (rest := []) (ws' := (wX5_kind cI cJ cZ cS a_t a_s a_keptS a_statuses a_pile a_tape a_steps a_wish a_mark a_bitsOf a_sizeOf a_number a_moved v_isKept v_taped v_at v_fault v_laid v_open v_s v_statuses v_pile v_wish)) (w1 := (wX5_isGuest cI cJ cZ cS a_t a_s a_keptS a_statuses a_pile a_tape a_steps a_wish a_mark a_bitsOf a_sizeOf a_number a_moved v_isKept v_taped v_at v_fault v_laid v_open v_s)) fx h [0, 1] rfl rfl rfl rfl (q_runV fx h hl.1 [0, 1] rfl rfl (tX5_isGuest l D cI cJ cZ cS tb a_t a_s a_keptS a_statuses a_pile a_tape a_steps a_wish a_mark a_bitsOf a_sizeOf a_number a_moved H.size v_isKept v_taped v_at v_fault v_laid v_open v_s x1 r8 k8 hg) mvX5_isGuest k_711 ⟨rfl, rfl⟩ ⟨Nat.le_of_ble_eq_true rfl, Nat.le_of_ble_eq_true rfl⟩ rfl rfl rfl rfl (Nat.le_of_ble_eq_true rfl) dX5_kind_2 ⟨Nat.le_of_ble_eq_true rfl, Nat.le_of_ble_eq_true rfl⟩) (fun H locs h => ?_)
  refine lv_if_ne (tgt := 15) hx hb dX5_kind_5 (by decide) (fun c9 => ?_) (fun c9 => ?_)
  · have hf := it_f c9 hf
    refine lv_aload_n hx hb dX5_kind_15 rfl (lv_at hl 0 rfl) ?_
    refine lv_iload_n hx hb dX5_kind_16 rfl (lv_at hl 1 rfl) ?_
    refine lv_iconst (v := 0) hx hb dX5_kind_17 (by decide) ?_
    obtain ⟨r10, k10, hg, hf⟩ := bR_inv hf
    refine q_ci (rest := []) (ws' := (wX5_kind cI cJ cZ cS a_t a_s a_keptS a_statuses a_pile a_tape a_steps a_wish a_mark a_bitsOf a_sizeOf a_number a_moved v_isKept v_taped v_at v_fault v_laid v_open v_s v_statuses v_pile v_wish)) (w1 := (wX5_its cI cJ cZ cS a_t a_s a_keptS a_statuses a_pile a_tape a_steps a_wish a_mark a_bitsOf a_sizeOf a_number a_moved v_isKept v_taped v_at v_fault v_laid v_open v_s)) fx h [0, 1] rfl rfl rfl rfl (q_runV fx h hl.1 [0, 1] rfl rfl (tX5_its l D cI cJ cZ cS tb a_t a_s a_keptS a_statuses a_pile a_tape a_steps a_wish a_mark a_bitsOf a_sizeOf a_number a_moved H.size v_isKept v_taped v_at v_fault v_laid v_open v_s x1 0 r10 k10 hg) mvX5_its k_725 ⟨rfl, rfl⟩ ⟨Nat.le_of_ble_eq_true rfl, Nat.le_of_ble_eq_true rfl⟩ rfl rfl rfl rfl (Nat.le_of_ble_eq_true rfl) dX5_kind_18 ⟨Nat.le_of_ble_eq_true rfl, Nat.le_of_ble_eq_true rfl⟩) (fun H locs h => ?_)
    refine lv_istore_n (lv' := [(2, .int r10), (0, .ref a_t), (1, .int x1)]) hx hb dX5_kind_21 rfl hl (by decide) rfl (fun ls hl => ?_)
    refine lv_iconst (v := -1) hx hb dX5_kind_22 (by decide) ?_
    refine lv_istore_n (lv' := [(3, .int (-1)), (2, .int r10), (0, .ref a_t), (1, .int x1)]) hx hb dX5_kind_23 rfl hl (by decide) rfl (fun ls hl => ?_)
    refine lv_iconst (v := -1) hx hb dX5_kind_24 (by decide) ?_
    refine lv_istore (lv' := [(4, .int (-1)), (3, .int (-1)), (2, .int r10), (0, .ref a_t), (1, .int x1)]) hx hb dX5_kind_25 hl (by decide) rfl (fun ls hl => ?_)
    refine lv_iconst (v := 0) hx hb dX5_kind_27 (by decide) ?_
    refine lv_istore (lv' := [(5, .int 0), (4, .int (-1)), (3, .int (-1)), (2, .int r10), (0, .ref a_t), (1, .int x1)]) hx hb dX5_kind_28 hl (by decide) rfl (fun ls hl => ?_)
    exact EX5_kind_30 fx qF h (lv_sub hl [4, 5, 3, 2, 1, 0] rfl) hf
  have hf := it_t c9 hf
  refine lv_aload_n hx hb dX5_kind_8 rfl (lv_at hl 0 rfl) ?_
  refine q_ldc fx k_701 dX5_kind_9 ?_
  obtain ⟨r11, k11, hg, hf⟩ := bR_inv hf
  refine q_ci (rest := []) (ws' := (wX5_kind cI cJ cZ cS a_t a_s a_keptS a_statuses a_pile a_tape a_steps a_wish a_mark a_bitsOf a_sizeOf a_number a_moved v_isKept v_taped v_at v_fault v_laid v_open v_s k11 v_pile v_wish)) (w1 := (wX5_finds cI cJ cZ cS a_t a_s a_keptS a_statuses a_pile a_tape a_steps a_wish a_mark a_bitsOf a_sizeOf a_number a_moved v_isKept v_taped v_at v_fault v_laid v_open k11)) fx h [0, 2] rfl rfl rfl rfl (q_runV fx h hl.1 [0, 2] rfl rfl (tX5_finds l D cI cJ cZ cS tb a_t a_s a_keptS a_statuses a_pile a_tape a_steps a_wish a_mark a_bitsOf a_sizeOf a_number a_moved H.size v_isKept v_taped v_at v_fault v_laid v_open v_statuses (-1000000001) r11 k11 hg) mvX5_finds k_702 ⟨rfl, rfl⟩ ⟨Nat.le_of_ble_eq_true rfl, Nat.le_of_ble_eq_true rfl⟩ rfl rfl rfl rfl (Nat.le_of_ble_eq_true rfl) dX5_kind_11 ⟨Nat.le_of_ble_eq_true rfl, Nat.le_of_ble_eq_true rfl⟩) (fun H locs h => ?_)
  exact q_reti (fun k : (Nat → Int32) × (Nat → Int32) × (Nat → Int32) × (Nat → Int32) => (wX5_kind cI cJ cZ cS a_t a_s a_keptS a_statuses a_pile a_tape a_steps a_wish a_mark a_bitsOf a_sizeOf a_number a_moved v_isKept v_taped v_at v_fault v_laid v_open k.1 k.2.1 k.2.2.1 k.2.2.2)) fx hf h dX5_kind_14
/-! X5_isOne -/
abbrev wX5_isOne (cI cJ cZ cS : ClassId) : va_W := []
abbrev rX5_isOne : Room := { frames := 1, cells := 0, slots := 0, locals := 25 }
def fX5_isOne (x0 : Int32) : Option (Int32 × Unit) :=
  bR (fX5_in (x0.toInt64) 0 3) (fun r1 k1 =>
  gB r1 (some (r1, ())))
set_option maxRecDepth 100000 in
set_option maxHeartbeats 4000000 in
theorem tX5_isOne (l : Launch) (D : va_G) (cI cJ cZ cS : ClassId) (tb : Nat) (sz : Nat) (x0 : Int32) (rr : Int32) (kk' : Unit) (hf : fX5_isOne x0 = some (rr, kk')) : Met l yX5_isOne (Cond.code yX5_isOne cX5_isOne 1 (some .boolean) :: wA) rX5_isOne (q_Pre D cI cJ cZ cS tb [.int x0] sz (wX5_isOne cI cJ cZ cS)) (q_Ri D rr (va_A (wX5_isOne cI cJ cZ cS) sz) ((fun k : Unit => (wX5_isOne cI cJ cZ cS)) kk')) 0 0 (va_A (wX5_isOne cI cJ cZ cS) sz) := by
  refine q_enter (Qf := fun A => (q_Ri D rr A ((fun k : Unit => (wX5_isOne cI cJ cZ cS)) kk'))) (by decide) rfl (Nat.le_of_ble_eq_true rfl) ?_
  intro p e s m below meth c A ls fx hname h hl
  have hx := fx.1
  have hb := fx.2.1
  have hl : lv_has ls 1 [(0, .int x0)] := hl
  generalize h9 : s.heap = H at h ⊢
  clear h9
  generalize h9 : ([] : List Loc) = locs at h ⊢
  clear h9
  unfold fX5_isOne at hf
  refine lv_iload_n hx hb dX5_isOne_0 rfl (lv_at hl 0 rfl) ?_
  refine lv_i2l hx hb dX5_isOne_1 rfl ?_
  refine lv_lconst (v := 0) hx hb dX5_isOne_2 (by decide) ?_
  refine q_ldc2 fx k_901 dX5_isOne_3 ?_
  obtain ⟨r1, k1, hg, hf⟩ := bR_inv hf
  refine q_ci (rest := []) (ws' := (wX5_isOne cI cJ cZ cS)) (w1 := (wX5_in cI cJ cZ cS)) fx h [] rfl rfl rfl rfl (q_runS fx h hl.1 [] rfl rfl (tX5_in l D cI cJ cZ cS tb H.size (x0.toInt64) 0 3 r1 k1 hg) msX5_in k_697 ⟨rfl, rfl⟩ ⟨Nat.le_of_ble_eq_true rfl, Nat.le_of_ble_eq_true rfl⟩ rfl rfl (Nat.le_of_ble_eq_true rfl) dX5_isOne_6 ⟨Nat.le_of_ble_eq_true rfl, Nat.le_of_ble_eq_true rfl⟩) (fun H locs h => ?_)
  obtain ⟨b2, hf⟩ := gB_inv hf
  exact q_retz (fun k : Unit => (wX5_isOne cI cJ cZ cS)) fx b2 hf h dX5_isOne_9
/-! X5_sheet -/
abbrev wX5_sheet (cI cJ cZ cS : ClassId) (a_t a_s a_keptS a_statuses a_pile a_tape a_steps a_wish a_mark a_bitsOf a_sizeOf a_number a_moved : Nat) (v_isKept : Int32) (v_taped : Int32) (v_at : Int32) (v_fault : Int32) (v_laid : Int32) (v_open : Int32) (v_statuses : Nat → Int32) (v_bitsOf : Nat → Int32) (v_sizeOf : Nat → Int32) (v_number : Nat → Int64) : va_W := [(a_t, .inr (5, [.ref a_s, .ref a_keptS, .ref a_statuses, .int v_isKept, .ref a_pile, .ref a_tape, .ref a_steps, .int v_taped, .int v_at, .int v_fault, .int v_laid, .int v_open, .ref a_wish, .ref a_mark, .ref a_bitsOf, .ref a_sizeOf, .ref a_number, .ref a_moved])), (a_statuses, .inl (cI, 7, .inl v_statuses)), (a_bitsOf, .inl (cI, 4, .inl v_bitsOf)), (a_sizeOf, .inl (cI, 4, .inl v_sizeOf)), (a_number, .inl (cJ, 160, .inr (.inl v_number)))]
abbrev rX5_sheet : Room := { frames := 2, cells := 0, slots := 0, locals := 45 }
def fX5_sheet_85 (ag85 : (Nat → Int32) → (Nat → Int32) → (Nat → Int32) → (Nat → Int64) → Int32 → Int32 → Option (Int32 × (Nat → Int32) × (Nat → Int32) × (Nat → Int32) × (Nat → Int64))) (v_statuses : Nat → Int32) (v_bitsOf : Nat → Int32) (v_sizeOf : Nat → Int32) (v_number : Nat → Int64) (y1 : Int32) (y4 : Int32) : Option (Int32 × (Nat → Int32) × (Nat → Int32) × (Nat → Int32) × (Nat → Int64)) :=
  (if (40 : Int32) ≤ y4 then (
  gIn y1 4 (
  some (v_sizeOf y1.toNatClampNeg, (v_statuses, v_bitsOf, v_sizeOf, v_number))))
  else (
  gIn ((40 * y1) + y4) 160 (
  nm (y4 + 1) (fun u4 =>
  ag85 v_statuses v_bitsOf v_sizeOf (vp_updL v_number ((40 * y1) + y4).toNatClampNeg 0) y1 u4))))
set_option maxRecDepth 100000 in
set_option maxHeartbeats 4000000 in
theorem LX5_sheet_85 {p : Program} {l : Launch} {e : Env} {s : State} {m : MethodId} {args : Array Value} {below : List Frame} {meth : Method} {c : Code} {D : va_G} {cI cJ cZ cS : ClassId} {tb : Nat} {A : Nat → Prop} {a_t a_s a_keptS a_statuses a_pile a_tape a_steps a_wish a_mark a_bitsOf a_sizeOf a_number a_moved : Nat} {v_isKept : Int32} {v_taped : Int32} {v_at : Int32} {v_fault : Int32} {v_laid : Int32} {v_open : Int32} {rr : Int32} {kk' : (Nat → Int32) × (Nat → Int32) × (Nat → Int32) × (Nat → Int64)} (fx : q_Fx p s m args meth c cX5_sheet 5 RX5 (some .int) D cI cJ cZ cS tb A) {ag85 : (Nat → Int32) → (Nat → Int32) → (Nat → Int32) → (Nat → Int64) → Int32 → Int32 → Option (Int32 × (Nat → Int32) × (Nat → Int32) × (Nat → Int32) × (Nat → Int64))} (hag85 : ∀ {v_statuses : Nat → Int32} {v_bitsOf : Nat → Int32} {v_sizeOf : Nat → Int32} {v_number : Nat → Int64} {y1 : Int32} {y4 : Int32} {H : Heap} {locs : List Loc} {ls : Array Slot}, q_H D A s (wX5_sheet cI cJ cZ cS a_t a_s a_keptS a_statuses a_pile a_tape a_steps a_wish a_mark a_bitsOf a_sizeOf a_number a_moved v_isKept v_taped v_at v_fault v_laid v_open v_statuses v_bitsOf v_sizeOf v_number) H locs → lv_has ls 5 [(0, .ref a_t), (1, .int y1), (4, .int y4)] → ag85 v_statuses v_bitsOf v_sizeOf v_number y1 y4 = some (rr, kk') → W p l e rX5_sheet s m args below meth c H locs 0 0 (MQ below (q_Ri D rr A ((fun k : (Nat → Int32) × (Nat → Int32) × (Nat → Int32) × (Nat → Int64) => (wX5_sheet cI cJ cZ cS a_t a_s a_keptS a_statuses a_pile a_tape a_steps a_wish a_mark a_bitsOf a_sizeOf a_number a_moved v_isKept v_taped v_at v_fault v_laid v_open k.1 k.2.1 k.2.2.1 k.2.2.2)) kk')) args s 0 0 A) (F0 m 85 ls [])) : ∀ {v_statuses : Nat → Int32} {v_bitsOf : Nat → Int32} {v_sizeOf : Nat → Int32} {v_number : Nat → Int64} {y1 : Int32} {y4 : Int32} {H : Heap} {locs : List Loc} {ls : Array Slot}, q_H D A s (wX5_sheet cI cJ cZ cS a_t a_s a_keptS a_statuses a_pile a_tape a_steps a_wish a_mark a_bitsOf a_sizeOf a_number a_moved v_isKept v_taped v_at v_fault v_laid v_open v_statuses v_bitsOf v_sizeOf v_number) H locs → lv_has ls 5 [(0, .ref a_t), (1, .int y1), (4, .int y4)] → fX5_sheet_85 ag85 v_statuses v_bitsOf v_sizeOf v_number y1 y4 = some (rr, kk') → W p l e rX5_sheet s m args below meth c H locs 0 0 (MQ below (q_Ri D rr A ((fun k : (Nat → Int32) × (Nat → Int32) × (Nat → Int32) × (Nat → Int64) => (wX5_sheet cI cJ cZ cS a_t a_s a_keptS a_statuses a_pile a_tape a_steps a_wish a_mark a_bitsOf a_sizeOf a_number a_moved v_isKept v_taped v_at v_fault v_laid v_open k.1 k.2.1 k.2.2.1 k.2.2.2)) kk')) args s 0 0 A) (F0 m 85 ls []) := by
  intro v_statuses v_bitsOf v_sizeOf v_number y1 y4 H locs ls h hl hf
  have hx := fx.1
  have hb := fx.2.1
  unfold fX5_sheet_85 at hf
  refine lv_iload hx hb dX5_sheet_85 (lv_at hl 2 rfl) ?_
  refine lv_bipush (v := 40) hx hb dX5_sheet_87 (by decide) ?_
  refine lv_icmp_ge (tgt := 111) hx hb dX5_sheet_89 (by decide) (fun c1 => ?_) (fun c1 => ?_)
  · have hf := it_t c1 hf
    refine lv_aload_n hx hb dX5_sheet_111 rfl (lv_at hl 0 rfl) ?_
    refine q_get (v := .ref a_sizeOf) fx inX5 h 0 rfl rfl 15 (by decide) k_651 rfl dX5_sheet_112 ?_
    refine lv_iload_n hx hb dX5_sheet_115 rfl (lv_at hl 1 rfl) ?_
    obtain ⟨i2, hf⟩ := gIn_inv hf
    refine q_iald fx h 3 rfl i2 dX5_sheet_116 ?_
    exact q_reti (fun k : (Nat → Int32) × (Nat → Int32) × (Nat → Int32) × (Nat → Int64) => (wX5_sheet cI cJ cZ cS a_t a_s a_keptS a_statuses a_pile a_tape a_steps a_wish a_mark a_bitsOf a_sizeOf a_number a_moved v_isKept v_taped v_at v_fault v_laid v_open k.1 k.2.1 k.2.2.1 k.2.2.2)) fx hf h dX5_sheet_117
  have hf := it_f c1 hf
  refine lv_aload_n hx hb dX5_sheet_92 rfl (lv_at hl 0 rfl) ?_
  refine q_get (v := .ref a_number) fx inX5 h 0 rfl rfl 16 (by decide) k_652 rfl dX5_sheet_93 ?_
  refine lv_bipush (v := 40) hx hb dX5_sheet_96 (by decide) ?_
  refine lv_iload_n hx hb dX5_sheet_98 rfl (lv_at hl 1 rfl) ?_
  refine lv_imul hx hb dX5_sheet_99 ?_
  refine lv_iload hx hb dX5_sheet_100 (lv_at hl 2 rfl) ?_
  refine lv_iadd hx hb dX5_sheet_102 ?_
  refine lv_lconst (v := 0) hx hb dX5_sheet_103 (by decide) ?_
  obtain ⟨i3, hf⟩ := gIn_inv hf
  refine q_last (ws' := (wX5_sheet cI cJ cZ cS a_t a_s a_keptS a_statuses a_pile a_tape a_steps a_wish a_mark a_bitsOf a_sizeOf a_number a_moved v_isKept v_taped v_at v_fault v_laid v_open v_statuses v_bitsOf v_sizeOf (vp_updL v_number ((40 * y1) + y4).toNatClampNeg 0))) fx h 4 rfl i3 rfl dX5_sheet_104 (fun H locs h => ?_)
  obtain ⟨u4, eu4, hf⟩ := nm_inv hf
  refine lv_iinc (v := u4) (lv' := [(4, .int u4), (0, .ref a_t), (1, .int y1)]) hx hb dX5_sheet_105 hl (k := 2) rfl (by rw [eu4]; rfl) (by decide) rfl (fun ls hl => ?_)
  refine lv_goto (tgt := 85) hx hb dX5_sheet_108 (by decide) ?_
  exact hag85 h (lv_sub hl [1, 2, 0] rfl) hf
set_option maxRecDepth 100000 in
theorem EX5_sheet_85 {p : Program} {l : Launch} {e : Env} {s : State} {m : MethodId} {args : Array Value} {below : List Frame} {meth : Method} {c : Code} {D : va_G} {cI cJ cZ cS : ClassId} {tb : Nat} {A : Nat → Prop} {a_t a_s a_keptS a_statuses a_pile a_tape a_steps a_wish a_mark a_bitsOf a_sizeOf a_number a_moved : Nat} {v_isKept : Int32} {v_taped : Int32} {v_at : Int32} {v_fault : Int32} {v_laid : Int32} {v_open : Int32} {rr : Int32} {kk' : (Nat → Int32) × (Nat → Int32) × (Nat → Int32) × (Nat → Int64)} (fx : q_Fx p s m args meth c cX5_sheet 5 RX5 (some .int) D cI cJ cZ cS tb A) : ∀ (n : Nat), ∀ {v_statuses : Nat → Int32} {v_bitsOf : Nat → Int32} {v_sizeOf : Nat → Int32} {v_number : Nat → Int64} {y1 : Int32} {y4 : Int32} {H : Heap} {locs : List Loc} {ls : Array Slot}, q_H D A s (wX5_sheet cI cJ cZ cS a_t a_s a_keptS a_statuses a_pile a_tape a_steps a_wish a_mark a_bitsOf a_sizeOf a_number a_moved v_isKept v_taped v_at v_fault v_laid v_open v_statuses v_bitsOf v_sizeOf v_number) H locs → lv_has ls 5 [(0, .ref a_t), (1, .int y1), (4, .int y4)] → ll6 (fX5_sheet_85 ) n v_statuses v_bitsOf v_sizeOf v_number y1 y4 = some (rr, kk') → W p l e rX5_sheet s m args below meth c H locs 0 0 (MQ below (q_Ri D rr A ((fun k : (Nat → Int32) × (Nat → Int32) × (Nat → Int32) × (Nat → Int64) => (wX5_sheet cI cJ cZ cS a_t a_s a_keptS a_statuses a_pile a_tape a_steps a_wish a_mark a_bitsOf a_sizeOf a_number a_moved v_isKept v_taped v_at v_fault v_laid v_open k.1 k.2.1 k.2.2.1 k.2.2.2)) kk')) args s 0 0 A) (F0 m 85 ls []) := by
  intro n
  induction n with
  | zero => intro v_statuses v_bitsOf v_sizeOf v_number y1 y4 H locs ls h hl hf; exact (ll6_z hf).elim
  | succ n ih => intro v_statuses v_bitsOf v_sizeOf v_number y1 y4 H locs ls h hl hf; exact LX5_sheet_85 fx ih h hl (ll6_s hf)
def fX5_sheet_81 (v_statuses : Nat → Int32) (v_bitsOf : Nat → Int32) (v_sizeOf : Nat → Int32) (v_number : Nat → Int64) (s1 : Int32) (s2 : Int32) (y1 : Int32) : Option (Int32 × (Nat → Int32) × (Nat → Int32) × (Nat → Int32) × (Nat → Int64)) :=
  gIn s1 4 (
  ll6 (fX5_sheet_85 ) qF v_statuses v_bitsOf (upd v_sizeOf s1.toNatClampNeg s2) v_number y1 0)
set_option maxRecDepth 100000 in
set_option maxHeartbeats 4000000 in
theorem LX5_sheet_81 {p : Program} {l : Launch} {e : Env} {s : State} {m : MethodId} {args : Array Value} {below : List Frame} {meth : Method} {c : Code} {D : va_G} {cI cJ cZ cS : ClassId} {tb : Nat} {A : Nat → Prop} {a_t a_s a_keptS a_statuses a_pile a_tape a_steps a_wish a_mark a_bitsOf a_sizeOf a_number a_moved : Nat} {v_isKept : Int32} {v_taped : Int32} {v_at : Int32} {v_fault : Int32} {v_laid : Int32} {v_open : Int32} {rr : Int32} {kk' : (Nat → Int32) × (Nat → Int32) × (Nat → Int32) × (Nat → Int64)} (fx : q_Fx p s m args meth c cX5_sheet 5 RX5 (some .int) D cI cJ cZ cS tb A) : ∀ {v_statuses : Nat → Int32} {v_bitsOf : Nat → Int32} {v_sizeOf : Nat → Int32} {v_number : Nat → Int64} {s1 : Int32} {s2 : Int32} {y1 : Int32} {H : Heap} {locs : List Loc} {ls : Array Slot}, q_H D A s (wX5_sheet cI cJ cZ cS a_t a_s a_keptS a_statuses a_pile a_tape a_steps a_wish a_mark a_bitsOf a_sizeOf a_number a_moved v_isKept v_taped v_at v_fault v_laid v_open v_statuses v_bitsOf v_sizeOf v_number) H locs → lv_has ls 5 [(0, .ref a_t), (1, .int y1)] → fX5_sheet_81 v_statuses v_bitsOf v_sizeOf v_number s1 s2 y1 = some (rr, kk') → W p l e rX5_sheet s m args below meth c H locs 0 0 (MQ below (q_Ri D rr A ((fun k : (Nat → Int32) × (Nat → Int32) × (Nat → Int32) × (Nat → Int64) => (wX5_sheet cI cJ cZ cS a_t a_s a_keptS a_statuses a_pile a_tape a_steps a_wish a_mark a_bitsOf a_sizeOf a_number a_moved v_isKept v_taped v_at v_fault v_laid v_open k.1 k.2.1 k.2.2.1 k.2.2.2)) kk')) args s 0 0 A) (F0 m 81 ls [.int s2, .int s1, .ref a_sizeOf]) := by
  intro v_statuses v_bitsOf v_sizeOf v_number s1 s2 y1 H locs ls h hl hf
  have hx := fx.1
  have hb := fx.2.1
  unfold fX5_sheet_81 at hf
  obtain ⟨i5, hf⟩ := gIn_inv hf
  refine q_iast (ws' := (wX5_sheet cI cJ cZ cS a_t a_s a_keptS a_statuses a_pile a_tape a_steps a_wish a_mark a_bitsOf a_sizeOf a_number a_moved v_isKept v_taped v_at v_fault v_laid v_open v_statuses v_bitsOf (upd v_sizeOf s1.toNatClampNeg s2) v_number)) fx h 3 rfl i5 rfl dX5_sheet_81 (fun H locs h => ?_)
  refine lv_iconst (v := 0) hx hb dX5_sheet_82 (by decide) ?_
  refine lv_istore (lv' := [(4, .int 0), (0, .ref a_t), (1, .int y1)]) hx hb dX5_sheet_83 hl (by decide) rfl (fun ls hl => ?_)
  exact EX5_sheet_85 fx qF h (lv_sub hl [1, 2, 0] rfl) hf
def fX5_sheet_36 (v_statuses : Nat → Int32) (v_bitsOf : Nat → Int32) (v_sizeOf : Nat → Int32) (v_number : Nat → Int64) (y1 : Int32) (y2 : Int32) (y3 : Int32) : Option (Int32 × (Nat → Int32) × (Nat → Int32) × (Nat → Int32) × (Nat → Int64)) :=
  (if (0 : Int32) ≤ y3 then (
  (if y3 ≤ 40 then (
  gIn y1 4 (
  (if y2 = 0 then (
  fX5_sheet_81  v_statuses (upd v_bitsOf y1.toNatClampNeg y2) v_sizeOf v_number y1 0 y1)
  else (
  fX5_sheet_81  v_statuses (upd v_bitsOf y1.toNatClampNeg y2) v_sizeOf v_number y1 y3 y1))))
  else (
  bR (fX5_finds v_statuses (-1000000001)) (fun r10 k10 =>
  some (r10, (k10, v_bitsOf, v_sizeOf, v_number))))))
  else (
  bR (fX5_finds v_statuses (-1000000007)) (fun r11 k11 =>
  some (r11, (k11, v_bitsOf, v_sizeOf, v_number)))))
set_option maxRecDepth 100000 in
set_option maxHeartbeats 4000000 in
theorem LX5_sheet_36 {p : Program} {l : Launch} {e : Env} {s : State} {m : MethodId} {args : Array Value} {below : List Frame} {meth : Method} {c : Code} {D : va_G} {cI cJ cZ cS : ClassId} {tb : Nat} {A : Nat → Prop} {a_t a_s a_keptS a_statuses a_pile a_tape a_steps a_wish a_mark a_bitsOf a_sizeOf a_number a_moved : Nat} {v_isKept : Int32} {v_taped : Int32} {v_at : Int32} {v_fault : Int32} {v_laid : Int32} {v_open : Int32} {rr : Int32} {kk' : (Nat → Int32) × (Nat → Int32) × (Nat → Int32) × (Nat → Int64)} (fx : q_Fx p s m args meth c cX5_sheet 5 RX5 (some .int) D cI cJ cZ cS tb A) : ∀ {v_statuses : Nat → Int32} {v_bitsOf : Nat → Int32} {v_sizeOf : Nat → Int32} {v_number : Nat → Int64} {y1 : Int32} {y2 : Int32} {y3 : Int32} {H : Heap} {locs : List Loc} {ls : Array Slot}, q_H D A s (wX5_sheet cI cJ cZ cS a_t a_s a_keptS a_statuses a_pile a_tape a_steps a_wish a_mark a_bitsOf a_sizeOf a_number a_moved v_isKept v_taped v_at v_fault v_laid v_open v_statuses v_bitsOf v_sizeOf v_number) H locs → lv_has ls 5 [(0, .ref a_t), (1, .int y1), (2, .int y2), (3, .int y3)] → fX5_sheet_36 v_statuses v_bitsOf v_sizeOf v_number y1 y2 y3 = some (rr, kk') → W p l e rX5_sheet s m args below meth c H locs 0 0 (MQ below (q_Ri D rr A ((fun k : (Nat → Int32) × (Nat → Int32) × (Nat → Int32) × (Nat → Int64) => (wX5_sheet cI cJ cZ cS a_t a_s a_keptS a_statuses a_pile a_tape a_steps a_wish a_mark a_bitsOf a_sizeOf a_number a_moved v_isKept v_taped v_at v_fault v_laid v_open k.1 k.2.1 k.2.2.1 k.2.2.2)) kk')) args s 0 0 A) (F0 m 36 ls []) := by
  intro v_statuses v_bitsOf v_sizeOf v_number y1 y2 y3 H locs ls h hl hf
  have hx := fx.1
  have hb := fx.2.1
  unfold fX5_sheet_36 at hf
  refine lv_iload_n hx hb dX5_sheet_36 rfl (lv_at hl 3 rfl) ?_
  refine lv_if_ge (tgt := 47) hx hb dX5_sheet_37 (by decide) (fun c6 => ?_) (fun c6 => ?_)
  · have hf := it_t c6 hf
    refine lv_iload_n hx hb dX5_sheet_47 rfl (lv_at hl 3 rfl) ?_
    refine lv_bipush (v := 40) hx hb dX5_sheet_48 (by decide) ?_
    refine lv_icmp_le (tgt := 60) hx hb dX5_sheet_50 (by decide) (fun c7 => ?_) (fun c7 => ?_)
    · have hf := it_t c7 hf
      refine lv_aload_n hx hb dX5_sheet_60 rfl (lv_at hl 0 rfl) ?_
      refine q_get (v := .ref a_bitsOf) fx inX5 h 0 rfl rfl 14 (by decide) k_650 rfl dX5_sheet_61 ?_
      refine lv_iload_n hx hb dX5_sheet_64 rfl (lv_at hl 1 rfl) ?_
      refine lv_iload_n hx hb dX5_sheet_65 rfl (lv_at hl 2 rfl) ?_
      obtain ⟨i8, hf⟩ := gIn_inv hf
      refine q_iast (ws' := (wX5_sheet cI cJ cZ cS a_t a_s a_keptS a_statuses a_pile a_tape a_steps a_wish a_mark a_bitsOf a_sizeOf a_number a_moved v_isKept v_taped v_at v_fault v_laid v_open v_statuses (upd v_bitsOf y1.toNatClampNeg y2) v_sizeOf v_number)) fx h 2 rfl i8 rfl dX5_sheet_66 (fun H locs h => ?_)
      refine lv_aload_n hx hb dX5_sheet_67 rfl (lv_at hl 0 rfl) ?_
      refine q_get (v := .ref a_sizeOf) fx inX5 h 0 rfl rfl 15 (by decide) k_651 rfl dX5_sheet_68 ?_
      refine lv_iload_n hx hb dX5_sheet_71 rfl (lv_at hl 1 rfl) ?_
      refine lv_iload_n hx hb dX5_sheet_72 rfl (lv_at hl 2 rfl) ?_
      refine lv_if_ne (tgt := 80) hx hb dX5_sheet_73 (by decide) (fun c9 => ?_) (fun c9 => ?_)
      · have hf := it_f c9 hf
        refine lv_iload_n hx hb dX5_sheet_80 rfl (lv_at hl 3 rfl) ?_
        exact LX5_sheet_81 fx h (lv_sub hl [0, 1] rfl) hf
      have hf := it_t c9 hf
      refine lv_iconst (v := 0) hx hb dX5_sheet_76 (by decide) ?_
      refine lv_goto (tgt := 81) hx hb dX5_sheet_77 (by decide) ?_
      exact LX5_sheet_81 fx h (lv_sub hl [0, 1] rfl) hf
    have hf := it_f c7 hf
    refine lv_aload_n hx hb dX5_sheet_53 rfl (lv_at hl 0 rfl) ?_
    refine q_ldc fx k_701 dX5_sheet_54 ?_
    obtain ⟨r10, k10, hg, hf⟩ := bR_inv hf
    refine q_ci (rest := []) (ws' := (wX5_sheet cI cJ cZ cS a_t a_s a_keptS a_statuses a_pile a_tape a_steps a_wish a_mark a_bitsOf a_sizeOf a_number a_moved v_isKept v_taped v_at v_fault v_laid v_open k10 v_bitsOf v_sizeOf v_number)) (w1 := (wX5_finds cI cJ cZ cS a_t a_s a_keptS a_statuses a_pile a_tape a_steps a_wish a_mark a_bitsOf a_sizeOf a_number a_moved v_isKept v_taped v_at v_fault v_laid v_open k10)) fx h [0, 1] rfl rfl rfl rfl (q_runV fx h hl.1 [0, 1] rfl rfl (tX5_finds l D cI cJ cZ cS tb a_t a_s a_keptS a_statuses a_pile a_tape a_steps a_wish a_mark a_bitsOf a_sizeOf a_number a_moved H.size v_isKept v_taped v_at v_fault v_laid v_open v_statuses (-1000000001) r10 k10 hg) mvX5_finds k_702 ⟨rfl, rfl⟩ ⟨Nat.le_of_ble_eq_true rfl, Nat.le_of_ble_eq_true rfl⟩ rfl rfl rfl rfl (Nat.le_of_ble_eq_true rfl) dX5_sheet_56 ⟨Nat.le_of_ble_eq_true rfl, Nat.le_of_ble_eq_true rfl⟩) (fun H locs h => ?_)
    exact q_reti (fun k : (Nat → Int32) × (Nat → Int32) × (Nat → Int32) × (Nat → Int64) => (wX5_sheet cI cJ cZ cS a_t a_s a_keptS a_statuses a_pile a_tape a_steps a_wish a_mark a_bitsOf a_sizeOf a_number a_moved v_isKept v_taped v_at v_fault v_laid v_open k.1 k.2.1 k.2.2.1 k.2.2.2)) fx hf h dX5_sheet_59
  have hf := it_f c6 hf
  refine lv_aload_n hx hb dX5_sheet_40 rfl (lv_at hl 0 rfl) ?_
  refine q_ldc fx k_962 dX5_sheet_41 ?_
  obtain ⟨r11, k11, hg, hf⟩ := bR_inv hf
  refine q_ci (rest := []) (ws' := (wX5_sheet cI cJ cZ cS a_t a_s a_keptS a_statuses a_pile a_tape a_steps a_wish a_mark a_bitsOf a_sizeOf a_number a_moved v_isKept v_taped v_at v_fault v_laid v_open k11 v_bitsOf v_sizeOf v_number)) (w1 := (wX5_finds cI cJ cZ cS a_t a_s a_keptS a_statuses a_pile a_tape a_steps a_wish a_mark a_bitsOf a_sizeOf a_number a_moved v_isKept v_taped v_at v_fault v_laid v_open k11)) fx h [0, 1] rfl rfl rfl rfl (q_runV fx h hl.1 [0, 1] rfl rfl (tX5_finds l D cI cJ cZ cS tb a_t a_s a_keptS a_statuses a_pile a_tape a_steps a_wish a_mark a_bitsOf a_sizeOf a_number a_moved H.size v_isKept v_taped v_at v_fault v_laid v_open v_statuses (-1000000007) r11 k11 hg) mvX5_finds k_702 ⟨rfl, rfl⟩ ⟨Nat.le_of_ble_eq_true rfl, Nat.le_of_ble_eq_true rfl⟩ rfl rfl rfl rfl (Nat.le_of_ble_eq_true rfl) dX5_sheet_43 ⟨Nat.le_of_ble_eq_true rfl, Nat.le_of_ble_eq_true rfl⟩) (fun H locs h => ?_)
  exact q_reti (fun k : (Nat → Int32) × (Nat → Int32) × (Nat → Int32) × (Nat → Int64) => (wX5_sheet cI cJ cZ cS a_t a_s a_keptS a_statuses a_pile a_tape a_steps a_wish a_mark a_bitsOf a_sizeOf a_number a_moved v_isKept v_taped v_at v_fault v_laid v_open k.1 k.2.1 k.2.2.1 k.2.2.2)) fx hf h dX5_sheet_46
def fX5_sheet_29 (v_statuses : Nat → Int32) (v_bitsOf : Nat → Int32) (v_sizeOf : Nat → Int32) (v_number : Nat → Int64) : Option (Int32 × (Nat → Int32) × (Nat → Int32) × (Nat → Int32) × (Nat → Int64)) :=
  bR (fX5_finds v_statuses (-1000000001)) (fun r12 k12 =>
  some (r12, (k12, v_bitsOf, v_sizeOf, v_number)))
set_option maxRecDepth 100000 in
set_option maxHeartbeats 4000000 in
theorem LX5_sheet_29 {p : Program} {l : Launch} {e : Env} {s : State} {m : MethodId} {args : Array Value} {below : List Frame} {meth : Method} {c : Code} {D : va_G} {cI cJ cZ cS : ClassId} {tb : Nat} {A : Nat → Prop} {a_t a_s a_keptS a_statuses a_pile a_tape a_steps a_wish a_mark a_bitsOf a_sizeOf a_number a_moved : Nat} {v_isKept : Int32} {v_taped : Int32} {v_at : Int32} {v_fault : Int32} {v_laid : Int32} {v_open : Int32} {rr : Int32} {kk' : (Nat → Int32) × (Nat → Int32) × (Nat → Int32) × (Nat → Int64)} (fx : q_Fx p s m args meth c cX5_sheet 5 RX5 (some .int) D cI cJ cZ cS tb A) : ∀ {v_statuses : Nat → Int32} {v_bitsOf : Nat → Int32} {v_sizeOf : Nat → Int32} {v_number : Nat → Int64} {H : Heap} {locs : List Loc} {ls : Array Slot}, q_H D A s (wX5_sheet cI cJ cZ cS a_t a_s a_keptS a_statuses a_pile a_tape a_steps a_wish a_mark a_bitsOf a_sizeOf a_number a_moved v_isKept v_taped v_at v_fault v_laid v_open v_statuses v_bitsOf v_sizeOf v_number) H locs → lv_has ls 5 [(0, .ref a_t)] → fX5_sheet_29 v_statuses v_bitsOf v_sizeOf v_number = some (rr, kk') → W p l e rX5_sheet s m args below meth c H locs 0 0 (MQ below (q_Ri D rr A ((fun k : (Nat → Int32) × (Nat → Int32) × (Nat → Int32) × (Nat → Int64) => (wX5_sheet cI cJ cZ cS a_t a_s a_keptS a_statuses a_pile a_tape a_steps a_wish a_mark a_bitsOf a_sizeOf a_number a_moved v_isKept v_taped v_at v_fault v_laid v_open k.1 k.2.1 k.2.2.1 k.2.2.2)) kk')) args s 0 0 A) (F0 m 29 ls []) := by
  intro v_statuses v_bitsOf v_sizeOf v_number H locs ls h hl hf
  have hx := fx.1
  have hb := fx.2.1
  unfold fX5_sheet_29 at hf
  refine lv_aload_n hx hb dX5_sheet_29 rfl (lv_at hl 0 rfl) ?_
  refine q_ldc fx k_701 dX5_sheet_30 ?_
  obtain ⟨r12, k12, hg, hf⟩ := bR_inv hf
  refine q_ci (rest := []) (ws' := (wX5_sheet cI cJ cZ cS a_t a_s a_keptS a_statuses a_pile a_tape a_steps a_wish a_mark a_bitsOf a_sizeOf a_number a_moved v_isKept v_taped v_at v_fault v_laid v_open k12 v_bitsOf v_sizeOf v_number)) (w1 := (wX5_finds cI cJ cZ cS a_t a_s a_keptS a_statuses a_pile a_tape a_steps a_wish a_mark a_bitsOf a_sizeOf a_number a_moved v_isKept v_taped v_at v_fault v_laid v_open k12)) fx h [0, 1] rfl rfl rfl rfl (q_runV fx h hl.1 [0, 1] rfl rfl (tX5_finds l D cI cJ cZ cS tb a_t a_s a_keptS a_statuses a_pile a_tape a_steps a_wish a_mark a_bitsOf a_sizeOf a_number a_moved H.size v_isKept v_taped v_at v_fault v_laid v_open v_statuses (-1000000001) r12 k12 hg) mvX5_finds k_702 ⟨rfl, rfl⟩ ⟨Nat.le_of_ble_eq_true rfl, Nat.le_of_ble_eq_true rfl⟩ rfl rfl rfl rfl (Nat.le_of_ble_eq_true rfl) dX5_sheet_32 ⟨Nat.le_of_ble_eq_true rfl, Nat.le_of_ble_eq_true rfl⟩) (fun H locs h => ?_)
  exact q_reti (fun k : (Nat → Int32) × (Nat → Int32) × (Nat → Int32) × (Nat → Int64) => (wX5_sheet cI cJ cZ cS a_t a_s a_keptS a_statuses a_pile a_tape a_steps a_wish a_mark a_bitsOf a_sizeOf a_number a_moved v_isKept v_taped v_at v_fault v_laid v_open k.1 k.2.1 k.2.2.1 k.2.2.2)) fx hf h dX5_sheet_35
def fX5_sheet (v_statuses : Nat → Int32) (v_bitsOf : Nat → Int32) (v_sizeOf : Nat → Int32) (v_number : Nat → Int64) (x1 : Int32) (x2 : Int32) (x3 : Int32) : Option (Int32 × (Nat → Int32) × (Nat → Int32) × (Nat → Int32) × (Nat → Int64)) :=
  bR (fX5_isOne x1) (fun r13 k13 =>
  (if r13 = 0 then (
  fX5_sheet_29  v_statuses v_bitsOf v_sizeOf v_number)
  else (
  (if x2 = 0 then (
  fX5_sheet_36  v_statuses v_bitsOf v_sizeOf v_number x1 x2 x3)
  else (
  (if x2 = 8 then (
  fX5_sheet_36  v_statuses v_bitsOf v_sizeOf v_number x1 x2 x3)
  else (
  (if x2 = 16 then (
  fX5_sheet_36  v_statuses v_bitsOf v_sizeOf v_number x1 x2 x3)
  else (
  (if x2 = 64 then (
  fX5_sheet_36  v_statuses v_bitsOf v_sizeOf v_number x1 x2 x3)
  else (
  fX5_sheet_29  v_statuses v_bitsOf v_sizeOf v_number)))))))))))
set_option maxRecDepth 100000 in
set_option maxHeartbeats 4000000 in
theorem tX5_sheet (l : Launch) (D : va_G) (cI cJ cZ cS : ClassId) (tb : Nat) (a_t a_s a_keptS a_statuses a_pile a_tape a_steps a_wish a_mark a_bitsOf a_sizeOf a_number a_moved : Nat) (sz : Nat) (v_isKept : Int32) (v_taped : Int32) (v_at : Int32) (v_fault : Int32) (v_laid : Int32) (v_open : Int32) (v_statuses : Nat → Int32) (v_bitsOf : Nat → Int32) (v_sizeOf : Nat → Int32) (v_number : Nat → Int64) (x1 : Int32) (x2 : Int32) (x3 : Int32) (rr : Int32) (kk' : (Nat → Int32) × (Nat → Int32) × (Nat → Int32) × (Nat → Int64)) (hf : fX5_sheet v_statuses v_bitsOf v_sizeOf v_number x1 x2 x3 = some (rr, kk')) : Met l yX5_sheet (Cond.code yX5_sheet cX5_sheet 5 (some .int) :: wA) rX5_sheet (q_Pre D cI cJ cZ cS tb [.ref a_t, .int x1, .int x2, .int x3] sz (wX5_sheet cI cJ cZ cS a_t a_s a_keptS a_statuses a_pile a_tape a_steps a_wish a_mark a_bitsOf a_sizeOf a_number a_moved v_isKept v_taped v_at v_fault v_laid v_open v_statuses v_bitsOf v_sizeOf v_number)) (q_Ri D rr (va_A (wX5_sheet cI cJ cZ cS a_t a_s a_keptS a_statuses a_pile a_tape a_steps a_wish a_mark a_bitsOf a_sizeOf a_number a_moved v_isKept v_taped v_at v_fault v_laid v_open v_statuses v_bitsOf v_sizeOf v_number) sz) ((fun k : (Nat → Int32) × (Nat → Int32) × (Nat → Int32) × (Nat → Int64) => (wX5_sheet cI cJ cZ cS a_t a_s a_keptS a_statuses a_pile a_tape a_steps a_wish a_mark a_bitsOf a_sizeOf a_number a_moved v_isKept v_taped v_at v_fault v_laid v_open k.1 k.2.1 k.2.2.1 k.2.2.2)) kk')) 0 0 (va_A (wX5_sheet cI cJ cZ cS a_t a_s a_keptS a_statuses a_pile a_tape a_steps a_wish a_mark a_bitsOf a_sizeOf a_number a_moved v_isKept v_taped v_at v_fault v_laid v_open v_statuses v_bitsOf v_sizeOf v_number) sz) := by
  refine q_enter (Qf := fun A => (q_Ri D rr A ((fun k : (Nat → Int32) × (Nat → Int32) × (Nat → Int32) × (Nat → Int64) => (wX5_sheet cI cJ cZ cS a_t a_s a_keptS a_statuses a_pile a_tape a_steps a_wish a_mark a_bitsOf a_sizeOf a_number a_moved v_isKept v_taped v_at v_fault v_laid v_open k.1 k.2.1 k.2.2.1 k.2.2.2)) kk'))) (by decide) rfl (Nat.le_of_ble_eq_true rfl) ?_
  intro p e s m below meth c A ls fx hname h hl
  have hx := fx.1
  have hb := fx.2.1
  have hl : lv_has ls 5 [(0, .ref a_t), (1, .int x1), (2, .int x2), (3, .int x3)] := hl
  generalize h9 : s.heap = H at h ⊢
  clear h9
  generalize h9 : ([] : List Loc) = locs at h ⊢
  clear h9
  unfold fX5_sheet at hf
  refine lv_iload_n hx hb dX5_sheet_0 rfl (lv_at hl 1 rfl) ?_
  obtain ⟨r13, k13, hg, hf⟩ := bR_inv hf
  refine q_ci (rest := []) (ws' := (wX5_sheet cI cJ cZ cS a_t a_s a_keptS a_statuses a_pile a_tape a_steps a_wish a_mark a_bitsOf a_sizeOf a_number a_moved v_isKept v_taped v_at v_fault v_laid v_open v_statuses v_bitsOf v_sizeOf v_number)) (w1 := (wX5_isOne cI cJ cZ cS)) fx h [] rfl rfl rfl rfl (q_runS fx h hl.1 [] rfl rfl (tX5_isOne l D cI cJ cZ cS tb H.size x1 r13 k13 hg) msX5_isOne k_959 ⟨rfl, rfl⟩ ⟨Nat.le_of_ble_eq_true rfl, Nat.le_of_ble_eq_true rfl⟩ rfl rfl (Nat.le_of_ble_eq_true rfl) dX5_sheet_1 ⟨Nat.le_of_ble_eq_true rfl, Nat.le_of_ble_eq_true rfl⟩) (fun H locs h => ?_)
  refine lv_if_eq (tgt := 29) hx hb dX5_sheet_4 (by decide) (fun c14 => ?_) (fun c14 => ?_)
  · have hf := it_t c14 hf
    exact LX5_sheet_29 fx h (lv_sub hl [0] rfl) hf
  have hf := it_f c14 hf
  refine lv_iload_n hx hb dX5_sheet_7 rfl (lv_at hl 2 rfl) ?_
  refine lv_if_eq (tgt := 36) hx hb dX5_sheet_8 (by decide) (fun c15 => ?_) (fun c15 => ?_)
  · have hf := it_t c15 hf
    exact LX5_sheet_36 fx h (lv_sub hl [0, 1, 2, 3] rfl) hf
  have hf := it_f c15 hf
  refine lv_iload_n hx hb dX5_sheet_11 rfl (lv_at hl 2 rfl) ?_
  refine lv_bipush (v := 8) hx hb dX5_sheet_12 (by decide) ?_
  refine lv_icmp_eq (tgt := 36) hx hb dX5_sheet_14 (by decide) (fun c16 => ?_) (fun c16 => ?_)
  · have hf := it_t c16 hf
    exact LX5_sheet_36 fx h (lv_sub hl [0, 1, 2, 3] rfl) hf
  have hf := it_f c16 hf
  refine lv_iload_n hx hb dX5_sheet_17 rfl (lv_at hl 2 rfl) ?_
  refine lv_bipush (v := 16) hx hb dX5_sheet_18 (by decide) ?_
  refine lv_icmp_eq (tgt := 36) hx hb dX5_sheet_20 (by decide) (fun c17 => ?_) (fun c17 => ?_)
  · have hf := it_t c17 hf
    exact LX5_sheet_36 fx h (lv_sub hl [0, 1, 2, 3] rfl) hf
  have hf := it_f c17 hf
  refine lv_iload_n hx hb dX5_sheet_23 rfl (lv_at hl 2 rfl) ?_
  refine lv_bipush (v := 64) hx hb dX5_sheet_24 (by decide) ?_
  refine lv_icmp_eq (tgt := 36) hx hb dX5_sheet_26 (by decide) (fun c18 => ?_) (fun c18 => ?_)
  · have hf := it_t c18 hf
    exact LX5_sheet_36 fx h (lv_sub hl [0, 1, 2, 3] rfl) hf
  have hf := it_f c18 hf
  exact LX5_sheet_29 fx h (lv_sub hl [0] rfl) hf
/-! X5_narrowed -/
abbrev wX5_narrowed (cI cJ cZ cS : ClassId) : va_W := []
abbrev rX5_narrowed : Room := { frames := 0, cells := 0, slots := 0, locals := 0 }
def fX5_narrowed (x0 : Int32) (x1 : Int64) : Option (Int64 × Unit) :=
  (if x0 = 8 then (
  some (((x1.toInt32).toInt8.toInt32).toInt64, ()))
  else (
  (if x0 = 16 then (
  some (((x1.toInt32).toInt16.toInt32).toInt64, ()))
  else (
  some (x1, ())))))
set_option maxRecDepth 100000 in
set_option maxHeartbeats 4000000 in
theorem tX5_narrowed (l : Launch) (D : va_G) (cI cJ cZ cS : ClassId) (tb : Nat) (sz : Nat) (x0 : Int32) (x1 : Int64) (rr : Int64) (kk' : Unit) (hf : fX5_narrowed x0 x1 = some (rr, kk')) : Met l yX5_narrowed (Cond.code yX5_narrowed cX5_narrowed 3 (some .long) :: wA) rX5_narrowed (q_Pre D cI cJ cZ cS tb [.int x0, .long x1] sz (wX5_narrowed cI cJ cZ cS)) (q_Rl D rr (va_A (wX5_narrowed cI cJ cZ cS) sz) ((fun k : Unit => (wX5_narrowed cI cJ cZ cS)) kk')) 0 0 (va_A (wX5_narrowed cI cJ cZ cS) sz) := by
  refine q_enter (Qf := fun A => (q_Rl D rr A ((fun k : Unit => (wX5_narrowed cI cJ cZ cS)) kk'))) (by decide) rfl (Nat.le_of_ble_eq_true rfl) ?_
  intro p e s m below meth c A ls fx hname h hl
  have hx := fx.1
  have hb := fx.2.1
  have hl : lv_has ls 3 [(0, .int x0), (1, .long x1)] := hl
  generalize h9 : s.heap = H at h ⊢
  clear h9
  generalize h9 : ([] : List Loc) = locs at h ⊢
  clear h9
  unfold fX5_narrowed at hf
  refine lv_iload_n hx hb dX5_narrowed_0 rfl (lv_at hl 0 rfl) ?_
  refine lv_bipush (v := 8) hx hb dX5_narrowed_1 (by decide) ?_
  refine lv_icmp_ne (tgt := 13) hx hb dX5_narrowed_3 (by decide) (fun c1 => ?_) (fun c1 => ?_)
  · have hf := it_f c1 hf
    refine lv_iload_n hx hb dX5_narrowed_13 rfl (lv_at hl 0 rfl) ?_
    refine lv_bipush (v := 16) hx hb dX5_narrowed_14 (by decide) ?_
    refine lv_icmp_ne (tgt := 26) hx hb dX5_narrowed_16 (by decide) (fun c2 => ?_) (fun c2 => ?_)
    · have hf := it_f c2 hf
      refine lv_lload_n hx hb dX5_narrowed_26 rfl (lv_at hl 1 rfl) ?_
      exact q_retl (fun k : Unit => (wX5_narrowed cI cJ cZ cS)) fx hf h dX5_narrowed_27
    have hf := it_t c2 hf
    refine lv_lload_n hx hb dX5_narrowed_19 rfl (lv_at hl 1 rfl) ?_
    refine lv_l2i hx hb dX5_narrowed_20 rfl ?_
    refine lv_i2s hx hb dX5_narrowed_21 rfl ?_
    refine lv_i2l hx hb dX5_narrowed_22 rfl ?_
    refine lv_goto (tgt := 27) hx hb dX5_narrowed_23 (by decide) ?_
    exact q_retl (fun k : Unit => (wX5_narrowed cI cJ cZ cS)) fx hf h dX5_narrowed_27
  have hf := it_t c1 hf
  refine lv_lload_n hx hb dX5_narrowed_6 rfl (lv_at hl 1 rfl) ?_
  refine lv_l2i hx hb dX5_narrowed_7 rfl ?_
  refine lv_i2b hx hb dX5_narrowed_8 rfl ?_
  refine lv_i2l hx hb dX5_narrowed_9 rfl ?_
  refine lv_goto (tgt := 27) hx hb dX5_narrowed_10 (by decide) ?_
  exact q_retl (fun k : Unit => (wX5_narrowed cI cJ cZ cS)) fx hf h dX5_narrowed_27
/-! X5_wrong -/
abbrev wX5_wrong (cI cJ cZ cS : ClassId) (a_t a_s a_keptS a_statuses a_pile a_tape a_steps a_wish a_mark a_bitsOf a_sizeOf a_number a_moved : Nat) (v_isKept : Int32) (v_taped : Int32) (v_at : Int32) (v_fault : Int32) (v_laid : Int32) (v_open : Int32) (v_bitsOf : Nat → Int32) : va_W := [(a_t, .inr (5, [.ref a_s, .ref a_keptS, .ref a_statuses, .int v_isKept, .ref a_pile, .ref a_tape, .ref a_steps, .int v_taped, .int v_at, .int v_fault, .int v_laid, .int v_open, .ref a_wish, .ref a_mark, .ref a_bitsOf, .ref a_sizeOf, .ref a_number, .ref a_moved])), (a_bitsOf, .inl (cI, 4, .inl v_bitsOf))]
abbrev rX5_wrong : Room := { frames := 2, cells := 0, slots := 0, locals := 45 }
def fX5_wrong (v_bitsOf : Nat → Int32) (x1 : Int32) : Option (Int32 × Unit) :=
  bR (fX5_isOne x1) (fun r1 k1 =>
  (if r1 = 0 then (
  some ((-1000000001), ()))
  else (
  gIn x1 4 (
  (if (v_bitsOf x1.toNatClampNeg) = 0 then (
  some ((-1000000006), ()))
  else (
  some (0, ())))))))
set_option maxRecDepth 100000 in
set_option maxHeartbeats 4000000 in
theorem tX5_wrong (l : Launch) (D : va_G) (cI cJ cZ cS : ClassId) (tb : Nat) (a_t a_s a_keptS a_statuses a_pile a_tape a_steps a_wish a_mark a_bitsOf a_sizeOf a_number a_moved : Nat) (sz : Nat) (v_isKept : Int32) (v_taped : Int32) (v_at : Int32) (v_fault : Int32) (v_laid : Int32) (v_open : Int32) (v_bitsOf : Nat → Int32) (x1 : Int32) (rr : Int32) (kk' : Unit) (hf : fX5_wrong v_bitsOf x1 = some (rr, kk')) : Met l yX5_wrong (Cond.code yX5_wrong cX5_wrong 2 (some .int) :: wA) rX5_wrong (q_Pre D cI cJ cZ cS tb [.ref a_t, .int x1] sz (wX5_wrong cI cJ cZ cS a_t a_s a_keptS a_statuses a_pile a_tape a_steps a_wish a_mark a_bitsOf a_sizeOf a_number a_moved v_isKept v_taped v_at v_fault v_laid v_open v_bitsOf)) (q_Ri D rr (va_A (wX5_wrong cI cJ cZ cS a_t a_s a_keptS a_statuses a_pile a_tape a_steps a_wish a_mark a_bitsOf a_sizeOf a_number a_moved v_isKept v_taped v_at v_fault v_laid v_open v_bitsOf) sz) ((fun k : Unit => (wX5_wrong cI cJ cZ cS a_t a_s a_keptS a_statuses a_pile a_tape a_steps a_wish a_mark a_bitsOf a_sizeOf a_number a_moved v_isKept v_taped v_at v_fault v_laid v_open v_bitsOf)) kk')) 0 0 (va_A (wX5_wrong cI cJ cZ cS a_t a_s a_keptS a_statuses a_pile a_tape a_steps a_wish a_mark a_bitsOf a_sizeOf a_number a_moved v_isKept v_taped v_at v_fault v_laid v_open v_bitsOf) sz) := by
  refine q_enter (Qf := fun A => (q_Ri D rr A ((fun k : Unit => (wX5_wrong cI cJ cZ cS a_t a_s a_keptS a_statuses a_pile a_tape a_steps a_wish a_mark a_bitsOf a_sizeOf a_number a_moved v_isKept v_taped v_at v_fault v_laid v_open v_bitsOf)) kk'))) (by decide) rfl (Nat.le_of_ble_eq_true rfl) ?_
  intro p e s m below meth c A ls fx hname h hl
  have hx := fx.1
  have hb := fx.2.1
  have hl : lv_has ls 2 [(0, .ref a_t), (1, .int x1)] := hl
  generalize h9 : s.heap = H at h ⊢
  clear h9
  generalize h9 : ([] : List Loc) = locs at h ⊢
  clear h9
  unfold fX5_wrong at hf
  refine lv_iload_n hx hb dX5_wrong_0 rfl (lv_at hl 1 rfl) ?_
  obtain ⟨r1, k1, hg, hf⟩ := bR_inv hf
  refine q_ci (rest := []) (ws' := (wX5_wrong cI cJ cZ cS a_t a_s a_keptS a_statuses a_pile a_tape a_steps a_wish a_mark a_bitsOf a_sizeOf a_number a_moved v_isKept v_taped v_at v_fault v_laid v_open v_bitsOf)) (w1 := (wX5_isOne cI cJ cZ cS)) fx h [] rfl rfl rfl rfl (q_runS fx h hl.1 [] rfl rfl (tX5_isOne l D cI cJ cZ cS tb H.size x1 r1 k1 hg) msX5_isOne k_959 ⟨rfl, rfl⟩ ⟨Nat.le_of_ble_eq_true rfl, Nat.le_of_ble_eq_true rfl⟩ rfl rfl (Nat.le_of_ble_eq_true rfl) dX5_wrong_1 ⟨Nat.le_of_ble_eq_true rfl, Nat.le_of_ble_eq_true rfl⟩) (fun H locs h => ?_)
  refine lv_if_ne (tgt := 12) hx hb dX5_wrong_4 (by decide) (fun c2 => ?_) (fun c2 => ?_)
  · have hf := it_f c2 hf
    refine lv_aload_n hx hb dX5_wrong_12 rfl (lv_at hl 0 rfl) ?_
    refine q_get (v := .ref a_bitsOf) fx inX5 h 0 rfl rfl 14 (by decide) k_650 rfl dX5_wrong_13 ?_
    refine lv_iload_n hx hb dX5_wrong_16 rfl (lv_at hl 1 rfl) ?_
    obtain ⟨i3, hf⟩ := gIn_inv hf
    refine q_iald fx h 1 rfl i3 dX5_wrong_17 ?_
    refine lv_if_ne (tgt := 26) hx hb dX5_wrong_18 (by decide) (fun c4 => ?_) (fun c4 => ?_)
    · have hf := it_f c4 hf
      refine lv_iconst (v := 0) hx hb dX5_wrong_26 (by decide) ?_
      exact q_reti (fun k : Unit => (wX5_wrong cI cJ cZ cS a_t a_s a_keptS a_statuses a_pile a_tape a_steps a_wish a_mark a_bitsOf a_sizeOf a_number a_moved v_isKept v_taped v_at v_fault v_laid v_open v_bitsOf)) fx hf h dX5_wrong_27
    have hf := it_t c4 hf
    refine q_ldc fx k_971 dX5_wrong_21 ?_
    refine lv_goto (tgt := 27) hx hb dX5_wrong_23 (by decide) ?_
    exact q_reti (fun k : Unit => (wX5_wrong cI cJ cZ cS a_t a_s a_keptS a_statuses a_pile a_tape a_steps a_wish a_mark a_bitsOf a_sizeOf a_number a_moved v_isKept v_taped v_at v_fault v_laid v_open v_bitsOf)) fx hf h dX5_wrong_27
  have hf := it_t c2 hf
  refine q_ldc fx k_701 dX5_wrong_7 ?_
  refine lv_goto (tgt := 27) hx hb dX5_wrong_9 (by decide) ?_
  exact q_reti (fun k : Unit => (wX5_wrong cI cJ cZ cS a_t a_s a_keptS a_statuses a_pile a_tape a_steps a_wish a_mark a_bitsOf a_sizeOf a_number a_moved v_isKept v_taped v_at v_fault v_laid v_open v_bitsOf)) fx hf h dX5_wrong_27
end
section
/-! X5_write -/
abbrev wX5_write (cI cJ cZ cS : ClassId) (a_t a_s a_keptS a_statuses a_pile a_tape a_steps a_wish a_mark a_bitsOf a_sizeOf a_number a_moved : Nat) (v_isKept : Int32) (v_taped : Int32) (v_at : Int32) (v_fault : Int32) (v_laid : Int32) (v_open : Int32) (v_statuses : Nat → Int32) (v_bitsOf : Nat → Int32) (v_sizeOf : Nat → Int32) (v_number : Nat → Int64) : va_W := [(a_t, .inr (5, [.ref a_s, .ref a_keptS, .ref a_statuses, .int v_isKept, .ref a_pile, .ref a_tape, .ref a_steps, .int v_taped, .int v_at, .int v_fault, .int v_laid, .int v_open, .ref a_wish, .ref a_mark, .ref a_bitsOf, .ref a_sizeOf, .ref a_number, .ref a_moved])), (a_statuses, .inl (cI, 7, .inl v_statuses)), (a_bitsOf, .inl (cI, 4, .inl v_bitsOf)), (a_sizeOf, .inl (cI, 4, .inl v_sizeOf)), (a_number, .inl (cJ, 160, .inr (.inl v_number)))]
abbrev rX5_write : Room := { frames := 3, cells := 0, slots := 0, locals := 66 }
def fX5_write (v_statuses : Nat → Int32) (v_bitsOf : Nat → Int32) (v_sizeOf : Nat → Int32) (v_number : Nat → Int64) (x1 : Int32) (x2 : Int32) (x3 : Int64) : Option (Int64 × (Nat → Int32) × (Nat → Int64)) :=
  bR (fX5_wrong v_bitsOf x1) (fun r1 k1 =>
  (if r1 = 0 then (
  gIn x1 4 (
  bR (fX5_in (x2.toInt64) 0 (((v_sizeOf x1.toNatClampNeg) - 1).toInt64)) (fun r4 k4 =>
  (if r4 = 0 then (
  bR (fX5_finds v_statuses (-1000000001)) (fun r11 k11 =>
  some (r11.toInt64, (k11, v_number))))
  else (
  gIn ((40 * x1) + x2) 160 (
  nm (v_number ((40 * x1) + x2).toNatClampNeg) (fun u7 =>
  gIn x1 4 (
  bR (fX5_narrowed (v_bitsOf x1.toNatClampNeg) x3) (fun r9 k9 =>
  gIn ((40 * x1) + x2) 160 (
  some (u7, (v_statuses, (vp_updL v_number ((40 * x1) + x2).toNatClampNeg r9)))))))))))))
  else (
  bR (fX5_finds v_statuses r1) (fun r12 k12 =>
  some (r12.toInt64, (k12, v_number))))))
set_option maxRecDepth 100000 in
set_option maxHeartbeats 4000000 in
theorem tX5_write (l : Launch) (D : va_G) (cI cJ cZ cS : ClassId) (tb : Nat) (a_t a_s a_keptS a_statuses a_pile a_tape a_steps a_wish a_mark a_bitsOf a_sizeOf a_number a_moved : Nat) (sz : Nat) (v_isKept : Int32) (v_taped : Int32) (v_at : Int32) (v_fault : Int32) (v_laid : Int32) (v_open : Int32) (v_statuses : Nat → Int32) (v_bitsOf : Nat → Int32) (v_sizeOf : Nat → Int32) (v_number : Nat → Int64) (x1 : Int32) (x2 : Int32) (x3 : Int64) (rr : Int64) (kk' : (Nat → Int32) × (Nat → Int64)) (hf : fX5_write v_statuses v_bitsOf v_sizeOf v_number x1 x2 x3 = some (rr, kk')) : Met l yX5_write (Cond.code yX5_write cX5_write 8 (some .long) :: wA) rX5_write (q_Pre D cI cJ cZ cS tb [.ref a_t, .int x1, .int x2, .long x3] sz (wX5_write cI cJ cZ cS a_t a_s a_keptS a_statuses a_pile a_tape a_steps a_wish a_mark a_bitsOf a_sizeOf a_number a_moved v_isKept v_taped v_at v_fault v_laid v_open v_statuses v_bitsOf v_sizeOf v_number)) (q_Rl D rr (va_A (wX5_write cI cJ cZ cS a_t a_s a_keptS a_statuses a_pile a_tape a_steps a_wish a_mark a_bitsOf a_sizeOf a_number a_moved v_isKept v_taped v_at v_fault v_laid v_open v_statuses v_bitsOf v_sizeOf v_number) sz) ((fun k : (Nat → Int32) × (Nat → Int64) => (wX5_write cI cJ cZ cS a_t a_s a_keptS a_statuses a_pile a_tape a_steps a_wish a_mark a_bitsOf a_sizeOf a_number a_moved v_isKept v_taped v_at v_fault v_laid v_open k.1 v_bitsOf v_sizeOf k.2)) kk')) 0 0 (va_A (wX5_write cI cJ cZ cS a_t a_s a_keptS a_statuses a_pile a_tape a_steps a_wish a_mark a_bitsOf a_sizeOf a_number a_moved v_isKept v_taped v_at v_fault v_laid v_open v_statuses v_bitsOf v_sizeOf v_number) sz) := by
  refine q_enter (Qf := fun A => (q_Rl D rr A ((fun k : (Nat → Int32) × (Nat → Int64) => (wX5_write cI cJ cZ cS a_t a_s a_keptS a_statuses a_pile a_tape a_steps a_wish a_mark a_bitsOf a_sizeOf a_number a_moved v_isKept v_taped v_at v_fault v_laid v_open k.1 v_bitsOf v_sizeOf k.2)) kk'))) (by decide) rfl (Nat.le_of_ble_eq_true rfl) ?_
  intro p e s m below meth c A ls fx hname h hl
  have hx := fx.1
  have hb := fx.2.1
  have hl : lv_has ls 8 [(0, .ref a_t), (1, .int x1), (2, .int x2), (3, .long x3)] := hl
  generalize h9 : s.heap = H at h ⊢
  clear h9
  generalize h9 : ([] : List Loc) = locs at h ⊢
  clear h9
  unfold fX5_write at hf
  refine lv_aload_n hx hb dX5_write_0 rfl (lv_at hl 0 rfl) ?_
  refine lv_iload_n hx hb dX5_write_1 rfl (lv_at hl 1 rfl) ?_
  obtain ⟨r1, k1, hg, hf⟩ := bR_inv hf
  refine q_ci (rest := []) (ws' := (wX5_write cI cJ cZ cS a_t a_s a_keptS a_statuses a_pile a_tape a_steps a_wish a_mark a_bitsOf a_sizeOf a_number a_moved v_isKept v_taped v_at v_fault v_laid v_open v_statuses v_bitsOf v_sizeOf v_number)) (w1 := (wX5_wrong cI cJ cZ cS a_t a_s a_keptS a_statuses a_pile a_tape a_steps a_wish a_mark a_bitsOf a_sizeOf a_number a_moved v_isKept v_taped v_at v_fault v_laid v_open v_bitsOf)) fx h [0, 2] rfl rfl rfl rfl (q_runV fx h hl.1 [0, 2] rfl rfl (tX5_wrong l D cI cJ cZ cS tb a_t a_s a_keptS a_statuses a_pile a_tape a_steps a_wish a_mark a_bitsOf a_sizeOf a_number a_moved H.size v_isKept v_taped v_at v_fault v_laid v_open v_bitsOf x1 r1 k1 hg) mvX5_wrong k_967 ⟨rfl, rfl⟩ ⟨Nat.le_of_ble_eq_true rfl, Nat.le_of_ble_eq_true rfl⟩ rfl rfl rfl rfl (Nat.le_of_ble_eq_true rfl) dX5_write_2 ⟨Nat.le_of_ble_eq_true rfl, Nat.le_of_ble_eq_true rfl⟩) (fun H locs h => ?_)
  refine lv_istore (lv' := [(5, .int r1), (0, .ref a_t), (1, .int x1), (2, .int x2), (3, .long x3)]) hx hb dX5_write_5 hl (by decide) rfl (fun ls hl => ?_)
  refine lv_iload hx hb dX5_write_7 (lv_at hl 0 rfl) ?_
  refine lv_if_eq (tgt := 20) hx hb dX5_write_9 (by decide) (fun c2 => ?_) (fun c2 => ?_)
  · have hf := it_t c2 hf
    refine lv_iload_n hx hb dX5_write_20 rfl (lv_at hl 3 rfl) ?_
    refine lv_i2l hx hb dX5_write_21 rfl ?_
    refine lv_lconst (v := 0) hx hb dX5_write_22 (by decide) ?_
    refine lv_aload_n hx hb dX5_write_23 rfl (lv_at hl 1 rfl) ?_
    refine q_get (v := .ref a_sizeOf) fx inX5 h 0 rfl rfl 15 (by decide) k_651 rfl dX5_write_24 ?_
    refine lv_iload_n hx hb dX5_write_27 rfl (lv_at hl 2 rfl) ?_
    obtain ⟨i3, hf⟩ := gIn_inv hf
    refine q_iald fx h 3 rfl i3 dX5_write_28 ?_
    refine lv_iconst (v := 1) hx hb dX5_write_29 (by decide) ?_
    refine lv_isub hx hb dX5_write_30 ?_
    refine lv_i2l hx hb dX5_write_31 rfl ?_
    obtain ⟨r4, k4, hg, hf⟩ := bR_inv hf
    refine q_ci (rest := []) (ws' := (wX5_write cI cJ cZ cS a_t a_s a_keptS a_statuses a_pile a_tape a_steps a_wish a_mark a_bitsOf a_sizeOf a_number a_moved v_isKept v_taped v_at v_fault v_laid v_open v_statuses v_bitsOf v_sizeOf v_number)) (w1 := (wX5_in cI cJ cZ cS)) fx h [] rfl rfl rfl rfl (q_runS fx h hl.1 [] rfl rfl (tX5_in l D cI cJ cZ cS tb H.size (x2.toInt64) 0 (((v_sizeOf x1.toNatClampNeg) - 1).toInt64) r4 k4 hg) msX5_in k_697 ⟨rfl, rfl⟩ ⟨Nat.le_of_ble_eq_true rfl, Nat.le_of_ble_eq_true rfl⟩ rfl rfl (Nat.le_of_ble_eq_true rfl) dX5_write_32 ⟨Nat.le_of_ble_eq_true rfl, Nat.le_of_ble_eq_true rfl⟩) (fun H locs h => ?_)
    refine lv_if_ne (tgt := 46) hx hb dX5_write_35 (by decide) (fun c5 => ?_) (fun c5 => ?_)
    · have hf := it_f c5 hf
      refine lv_aload_n hx hb dX5_write_46 rfl (lv_at hl 1 rfl) ?_
      refine q_get (v := .ref a_number) fx inX5 h 0 rfl rfl 16 (by decide) k_652 rfl dX5_write_47 ?_
      refine lv_bipush (v := 40) hx hb dX5_write_50 (by decide) ?_
      refine lv_iload_n hx hb dX5_write_52 rfl (lv_at hl 2 rfl) ?_
      refine lv_imul hx hb dX5_write_53 ?_
      refine lv_iload_n hx hb dX5_write_54 rfl (lv_at hl 3 rfl) ?_
      refine lv_iadd hx hb dX5_write_55 ?_
      obtain ⟨i6, hf⟩ := gIn_inv hf
      refine q_lald fx h 4 rfl i6 dX5_write_56 ?_
      obtain ⟨u7, eu7, hf⟩ := nm_inv hf
      refine lv_eql eu7 ?_
      refine lv_lstore (lv' := [(6, .long u7), (5, .int r1), (0, .ref a_t), (1, .int x1), (2, .int x2), (3, .long x3)]) hx hb dX5_write_57 hl (by decide) rfl (fun ls hl => ?_)
      refine lv_aload_n hx hb dX5_write_59 rfl (lv_at hl 2 rfl) ?_
      refine q_get (v := .ref a_number) fx inX5 h 0 rfl rfl 16 (by decide) k_652 rfl dX5_write_60 ?_
      refine lv_bipush (v := 40) hx hb dX5_write_63 (by decide) ?_
      refine lv_iload_n hx hb dX5_write_65 rfl (lv_at hl 3 rfl) ?_
      refine lv_imul hx hb dX5_write_66 ?_
      refine lv_iload_n hx hb dX5_write_67 rfl (lv_at hl 4 rfl) ?_
      refine lv_iadd hx hb dX5_write_68 ?_
      refine lv_aload_n hx hb dX5_write_69 rfl (lv_at hl 2 rfl) ?_
      refine q_get (v := .ref a_bitsOf) fx inX5 h 0 rfl rfl 14 (by decide) k_650 rfl dX5_write_70 ?_
      refine lv_iload_n hx hb dX5_write_73 rfl (lv_at hl 3 rfl) ?_
      obtain ⟨i8, hf⟩ := gIn_inv hf
      refine q_iald fx h 2 rfl i8 dX5_write_74 ?_
      refine lv_lload_n hx hb dX5_write_75 rfl (lv_at hl 5 rfl) ?_
      obtain ⟨r9, k9, hg, hf⟩ := bR_inv hf
      refine q_cl (rest := [.int ((40 * x1) + x2), .ref a_number]) (ws' := (wX5_write cI cJ cZ cS a_t a_s a_keptS a_statuses a_pile a_tape a_steps a_wish a_mark a_bitsOf a_sizeOf a_number a_moved v_isKept v_taped v_at v_fault v_laid v_open v_statuses v_bitsOf v_sizeOf v_number)) (w1 := (wX5_narrowed cI cJ cZ cS)) fx h [] rfl rfl rfl rfl (q_runS fx h hl.1 [] rfl rfl (tX5_narrowed l D cI cJ cZ cS tb H.size (v_bitsOf x1.toNatClampNeg) x3 r9 k9 hg) msX5_narrowed k_972 ⟨rfl, rfl⟩ ⟨Nat.le_of_ble_eq_true rfl, Nat.le_of_ble_eq_true rfl⟩ rfl rfl (Nat.le_of_ble_eq_true rfl) dX5_write_76 ⟨Nat.le_of_ble_eq_true rfl, Nat.le_of_ble_eq_true rfl⟩) (fun H locs h => ?_)
      obtain ⟨i10, hf⟩ := gIn_inv hf
      refine q_last (ws' := (wX5_write cI cJ cZ cS a_t a_s a_keptS a_statuses a_pile a_tape a_steps a_wish a_mark a_bitsOf a_sizeOf a_number a_moved v_isKept v_taped v_at v_fault v_laid v_open v_statuses v_bitsOf v_sizeOf (vp_updL v_number ((40 * x1) + x2).toNatClampNeg r9))) fx h 4 rfl i10 rfl dX5_write_79 (fun H locs h => ?_)
      refine lv_lload hx hb dX5_write_80 (lv_at hl 0 rfl) ?_
      exact q_retl (fun k : (Nat → Int32) × (Nat → Int64) => (wX5_write cI cJ cZ cS a_t a_s a_keptS a_statuses a_pile a_tape a_steps a_wish a_mark a_bitsOf a_sizeOf a_number a_moved v_isKept v_taped v_at v_fault v_laid v_open k.1 v_bitsOf v_sizeOf k.2)) fx hf h dX5_write_82
    have hf := it_t c5 hf
    refine lv_aload_n hx hb dX5_write_38 rfl (lv_at hl 1 rfl) ?_
    refine q_ldc fx k_701 dX5_write_39 ?_
    obtain ⟨r11, k11, hg, hf⟩ := bR_inv hf
    refine q_ci (rest := []) (ws' := (wX5_write cI cJ cZ cS a_t a_s a_keptS a_statuses a_pile a_tape a_steps a_wish a_mark a_bitsOf a_sizeOf a_number a_moved v_isKept v_taped v_at v_fault v_laid v_open k11 v_bitsOf v_sizeOf v_number)) (w1 := (wX5_finds cI cJ cZ cS a_t a_s a_keptS a_statuses a_pile a_tape a_steps a_wish a_mark a_bitsOf a_sizeOf a_number a_moved v_isKept v_taped v_at v_fault v_laid v_open k11)) fx h [0, 1] rfl rfl rfl rfl (q_runV fx h hl.1 [0, 1] rfl rfl (tX5_finds l D cI cJ cZ cS tb a_t a_s a_keptS a_statuses a_pile a_tape a_steps a_wish a_mark a_bitsOf a_sizeOf a_number a_moved H.size v_isKept v_taped v_at v_fault v_laid v_open v_statuses (-1000000001) r11 k11 hg) mvX5_finds k_702 ⟨rfl, rfl⟩ ⟨Nat.le_of_ble_eq_true rfl, Nat.le_of_ble_eq_true rfl⟩ rfl rfl rfl rfl (Nat.le_of_ble_eq_true rfl) dX5_write_41 ⟨Nat.le_of_ble_eq_true rfl, Nat.le_of_ble_eq_true rfl⟩) (fun H locs h => ?_)
    refine lv_i2l hx hb dX5_write_44 rfl ?_
    exact q_retl (fun k : (Nat → Int32) × (Nat → Int64) => (wX5_write cI cJ cZ cS a_t a_s a_keptS a_statuses a_pile a_tape a_steps a_wish a_mark a_bitsOf a_sizeOf a_number a_moved v_isKept v_taped v_at v_fault v_laid v_open k.1 v_bitsOf v_sizeOf k.2)) fx hf h dX5_write_45
  have hf := it_f c2 hf
  refine lv_aload_n hx hb dX5_write_12 rfl (lv_at hl 1 rfl) ?_
  refine lv_iload hx hb dX5_write_13 (lv_at hl 0 rfl) ?_
  obtain ⟨r12, k12, hg, hf⟩ := bR_inv hf
  refine q_ci (rest := []) (ws' := (wX5_write cI cJ cZ cS a_t a_s a_keptS a_statuses a_pile a_tape a_steps a_wish a_mark a_bitsOf a_sizeOf a_number a_moved v_isKept v_taped v_at v_fault v_laid v_open k12 v_bitsOf v_sizeOf v_number)) (w1 := (wX5_finds cI cJ cZ cS a_t a_s a_keptS a_statuses a_pile a_tape a_steps a_wish a_mark a_bitsOf a_sizeOf a_number a_moved v_isKept v_taped v_at v_fault v_laid v_open k12)) fx h [0, 1] rfl rfl rfl rfl (q_runV fx h hl.1 [0, 1] rfl rfl (tX5_finds l D cI cJ cZ cS tb a_t a_s a_keptS a_statuses a_pile a_tape a_steps a_wish a_mark a_bitsOf a_sizeOf a_number a_moved H.size v_isKept v_taped v_at v_fault v_laid v_open v_statuses r1 r12 k12 hg) mvX5_finds k_702 ⟨rfl, rfl⟩ ⟨Nat.le_of_ble_eq_true rfl, Nat.le_of_ble_eq_true rfl⟩ rfl rfl rfl rfl (Nat.le_of_ble_eq_true rfl) dX5_write_15 ⟨Nat.le_of_ble_eq_true rfl, Nat.le_of_ble_eq_true rfl⟩) (fun H locs h => ?_)
  refine lv_i2l hx hb dX5_write_18 rfl ?_
  exact q_retl (fun k : (Nat → Int32) × (Nat → Int64) => (wX5_write cI cJ cZ cS a_t a_s a_keptS a_statuses a_pile a_tape a_steps a_wish a_mark a_bitsOf a_sizeOf a_number a_moved v_isKept v_taped v_at v_fault v_laid v_open k.1 v_bitsOf v_sizeOf k.2)) fx hf h dX5_write_19
/-! X5_copy -/
abbrev wX5_copy (cI cJ cZ cS : ClassId) (a_t a_s a_keptS a_statuses a_pile a_tape a_steps a_wish a_mark a_bitsOf a_sizeOf a_number a_moved : Nat) (v_isKept : Int32) (v_taped : Int32) (v_at : Int32) (v_fault : Int32) (v_laid : Int32) (v_open : Int32) (v_statuses : Nat → Int32) (v_bitsOf : Nat → Int32) (v_sizeOf : Nat → Int32) (v_number : Nat → Int64) (v_moved : Nat → Int64) : va_W := [(a_t, .inr (5, [.ref a_s, .ref a_keptS, .ref a_statuses, .int v_isKept, .ref a_pile, .ref a_tape, .ref a_steps, .int v_taped, .int v_at, .int v_fault, .int v_laid, .int v_open, .ref a_wish, .ref a_mark, .ref a_bitsOf, .ref a_sizeOf, .ref a_number, .ref a_moved])), (a_statuses, .inl (cI, 7, .inl v_statuses)), (a_bitsOf, .inl (cI, 4, .inl v_bitsOf)), (a_sizeOf, .inl (cI, 4, .inl v_sizeOf)), (a_number, .inl (cJ, 160, .inr (.inl v_number))), (a_moved, .inl (cJ, 40, .inr (.inl v_moved)))]
abbrev rX5_copy : Room := { frames := 2, cells := 0, slots := 0, locals := 45 }
def fX5_copy_156 (v_bitsOf : Nat → Int32) (v_sizeOf : Nat → Int32) (ag156 : (Nat → Int32) → (Nat → Int64) → (Nat → Int64) → Int32 → Int32 → Int32 → Int32 → Option (Int32 × (Nat → Int32) × (Nat → Int64) × (Nat → Int64))) (v_statuses : Nat → Int32) (v_number : Nat → Int64) (v_moved : Nat → Int64) (y3 : Int32) (y4 : Int32) (y5 : Int32) (y6 : Int32) : Option (Int32 × (Nat → Int32) × (Nat → Int64) × (Nat → Int64)) :=
  (if y5 ≤ y6 then (
  some (y5, (v_statuses, v_number, v_moved)))
  else (
  gIn y6 40 (
  gIn (((40 * y3) + y4) + y6) 160 (
  nm (y6 + 1) (fun u4 =>
  ag156 v_statuses (vp_updL v_number (((40 * y3) + y4) + y6).toNatClampNeg (v_moved y6.toNatClampNeg)) v_moved y3 y4 y5 u4)))))
set_option maxRecDepth 100000 in
set_option maxHeartbeats 4000000 in
theorem LX5_copy_156 {p : Program} {l : Launch} {e : Env} {s : State} {m : MethodId} {args : Array Value} {below : List Frame} {meth : Method} {c : Code} {D : va_G} {cI cJ cZ cS : ClassId} {tb : Nat} {A : Nat → Prop} {a_t a_s a_keptS a_statuses a_pile a_tape a_steps a_wish a_mark a_bitsOf a_sizeOf a_number a_moved : Nat} {v_isKept : Int32} {v_taped : Int32} {v_at : Int32} {v_fault : Int32} {v_laid : Int32} {v_open : Int32} {v_bitsOf : Nat → Int32} {v_sizeOf : Nat → Int32} {rr : Int32} {kk' : (Nat → Int32) × (Nat → Int64) × (Nat → Int64)} (fx : q_Fx p s m args meth c cX5_copy 7 RX5 (some .int) D cI cJ cZ cS tb A) {ag156 : (Nat → Int32) → (Nat → Int64) → (Nat → Int64) → Int32 → Int32 → Int32 → Int32 → Option (Int32 × (Nat → Int32) × (Nat → Int64) × (Nat → Int64))} (hag156 : ∀ {v_statuses : Nat → Int32} {v_number : Nat → Int64} {v_moved : Nat → Int64} {y3 : Int32} {y4 : Int32} {y5 : Int32} {y6 : Int32} {H : Heap} {locs : List Loc} {ls : Array Slot}, q_H D A s (wX5_copy cI cJ cZ cS a_t a_s a_keptS a_statuses a_pile a_tape a_steps a_wish a_mark a_bitsOf a_sizeOf a_number a_moved v_isKept v_taped v_at v_fault v_laid v_open v_statuses v_bitsOf v_sizeOf v_number v_moved) H locs → lv_has ls 7 [(0, .ref a_t), (3, .int y3), (4, .int y4), (5, .int y5), (6, .int y6)] → ag156 v_statuses v_number v_moved y3 y4 y5 y6 = some (rr, kk') → W p l e rX5_copy s m args below meth c H locs 0 0 (MQ below (q_Ri D rr A ((fun k : (Nat → Int32) × (Nat → Int64) × (Nat → Int64) => (wX5_copy cI cJ cZ cS a_t a_s a_keptS a_statuses a_pile a_tape a_steps a_wish a_mark a_bitsOf a_sizeOf a_number a_moved v_isKept v_taped v_at v_fault v_laid v_open k.1 v_bitsOf v_sizeOf k.2.1 k.2.2)) kk')) args s 0 0 A) (F0 m 156 ls [])) : ∀ {v_statuses : Nat → Int32} {v_number : Nat → Int64} {v_moved : Nat → Int64} {y3 : Int32} {y4 : Int32} {y5 : Int32} {y6 : Int32} {H : Heap} {locs : List Loc} {ls : Array Slot}, q_H D A s (wX5_copy cI cJ cZ cS a_t a_s a_keptS a_statuses a_pile a_tape a_steps a_wish a_mark a_bitsOf a_sizeOf a_number a_moved v_isKept v_taped v_at v_fault v_laid v_open v_statuses v_bitsOf v_sizeOf v_number v_moved) H locs → lv_has ls 7 [(0, .ref a_t), (3, .int y3), (4, .int y4), (5, .int y5), (6, .int y6)] → fX5_copy_156 v_bitsOf v_sizeOf ag156 v_statuses v_number v_moved y3 y4 y5 y6 = some (rr, kk') → W p l e rX5_copy s m args below meth c H locs 0 0 (MQ below (q_Ri D rr A ((fun k : (Nat → Int32) × (Nat → Int64) × (Nat → Int64) => (wX5_copy cI cJ cZ cS a_t a_s a_keptS a_statuses a_pile a_tape a_steps a_wish a_mark a_bitsOf a_sizeOf a_number a_moved v_isKept v_taped v_at v_fault v_laid v_open k.1 v_bitsOf v_sizeOf k.2.1 k.2.2)) kk')) args s 0 0 A) (F0 m 156 ls []) := by
  intro v_statuses v_number v_moved y3 y4 y5 y6 H locs ls h hl hf
  have hx := fx.1
  have hb := fx.2.1
  unfold fX5_copy_156 at hf
  refine lv_iload hx hb dX5_copy_156 (lv_at hl 4 rfl) ?_
  refine lv_iload hx hb dX5_copy_158 (lv_at hl 3 rfl) ?_
  refine lv_icmp_ge (tgt := 191) hx hb dX5_copy_160 (by decide) (fun c1 => ?_) (fun c1 => ?_)
  · have hf := it_t c1 hf
    refine lv_iload hx hb dX5_copy_191 (lv_at hl 3 rfl) ?_
    exact q_reti (fun k : (Nat → Int32) × (Nat → Int64) × (Nat → Int64) => (wX5_copy cI cJ cZ cS a_t a_s a_keptS a_statuses a_pile a_tape a_steps a_wish a_mark a_bitsOf a_sizeOf a_number a_moved v_isKept v_taped v_at v_fault v_laid v_open k.1 v_bitsOf v_sizeOf k.2.1 k.2.2)) fx hf h dX5_copy_193
  have hf := it_f c1 hf
  refine lv_aload_n hx hb dX5_copy_163 rfl (lv_at hl 0 rfl) ?_
  refine q_get (v := .ref a_number) fx inX5 h 0 rfl rfl 16 (by decide) k_652 rfl dX5_copy_164 ?_
  refine lv_bipush (v := 40) hx hb dX5_copy_167 (by decide) ?_
  refine lv_iload_n hx hb dX5_copy_169 rfl (lv_at hl 1 rfl) ?_
  refine lv_imul hx hb dX5_copy_170 ?_
  refine lv_iload hx hb dX5_copy_171 (lv_at hl 2 rfl) ?_
  refine lv_iadd hx hb dX5_copy_173 ?_
  refine lv_iload hx hb dX5_copy_174 (lv_at hl 4 rfl) ?_
  refine lv_iadd hx hb dX5_copy_176 ?_
  refine lv_aload_n hx hb dX5_copy_177 rfl (lv_at hl 0 rfl) ?_
  refine q_get (v := .ref a_moved) fx inX5 h 0 rfl rfl 17 (by decide) k_653 rfl dX5_copy_178 ?_
  refine lv_iload hx hb dX5_copy_181 (lv_at hl 4 rfl) ?_
  obtain ⟨i2, hf⟩ := gIn_inv hf
  refine q_lald fx h 5 rfl i2 dX5_copy_183 ?_
  obtain ⟨i3, hf⟩ := gIn_inv hf
  refine q_last (ws' := (wX5_copy cI cJ cZ cS a_t a_s a_keptS a_statuses a_pile a_tape a_steps a_wish a_mark a_bitsOf a_sizeOf a_number a_moved v_isKept v_taped v_at v_fault v_laid v_open v_statuses v_bitsOf v_sizeOf (vp_updL v_number (((40 * y3) + y4) + y6).toNatClampNeg (v_moved y6.toNatClampNeg)) v_moved)) fx h 4 rfl i3 rfl dX5_copy_184 (fun H locs h => ?_)
  obtain ⟨u4, eu4, hf⟩ := nm_inv hf
  refine lv_iinc (v := u4) (lv' := [(6, .int u4), (0, .ref a_t), (3, .int y3), (4, .int y4), (5, .int y5)]) hx hb dX5_copy_185 hl (k := 4) rfl (by rw [eu4]; rfl) (by decide) rfl (fun ls hl => ?_)
  refine lv_goto (tgt := 156) hx hb dX5_copy_188 (by decide) ?_
  exact hag156 h (lv_sub hl [1, 2, 3, 4, 0] rfl) hf
set_option maxRecDepth 100000 in
theorem EX5_copy_156 {p : Program} {l : Launch} {e : Env} {s : State} {m : MethodId} {args : Array Value} {below : List Frame} {meth : Method} {c : Code} {D : va_G} {cI cJ cZ cS : ClassId} {tb : Nat} {A : Nat → Prop} {a_t a_s a_keptS a_statuses a_pile a_tape a_steps a_wish a_mark a_bitsOf a_sizeOf a_number a_moved : Nat} {v_isKept : Int32} {v_taped : Int32} {v_at : Int32} {v_fault : Int32} {v_laid : Int32} {v_open : Int32} {v_bitsOf : Nat → Int32} {v_sizeOf : Nat → Int32} {rr : Int32} {kk' : (Nat → Int32) × (Nat → Int64) × (Nat → Int64)} (fx : q_Fx p s m args meth c cX5_copy 7 RX5 (some .int) D cI cJ cZ cS tb A) : ∀ (n : Nat), ∀ {v_statuses : Nat → Int32} {v_number : Nat → Int64} {v_moved : Nat → Int64} {y3 : Int32} {y4 : Int32} {y5 : Int32} {y6 : Int32} {H : Heap} {locs : List Loc} {ls : Array Slot}, q_H D A s (wX5_copy cI cJ cZ cS a_t a_s a_keptS a_statuses a_pile a_tape a_steps a_wish a_mark a_bitsOf a_sizeOf a_number a_moved v_isKept v_taped v_at v_fault v_laid v_open v_statuses v_bitsOf v_sizeOf v_number v_moved) H locs → lv_has ls 7 [(0, .ref a_t), (3, .int y3), (4, .int y4), (5, .int y5), (6, .int y6)] → ll7 (fX5_copy_156 v_bitsOf v_sizeOf) n v_statuses v_number v_moved y3 y4 y5 y6 = some (rr, kk') → W p l e rX5_copy s m args below meth c H locs 0 0 (MQ below (q_Ri D rr A ((fun k : (Nat → Int32) × (Nat → Int64) × (Nat → Int64) => (wX5_copy cI cJ cZ cS a_t a_s a_keptS a_statuses a_pile a_tape a_steps a_wish a_mark a_bitsOf a_sizeOf a_number a_moved v_isKept v_taped v_at v_fault v_laid v_open k.1 v_bitsOf v_sizeOf k.2.1 k.2.2)) kk')) args s 0 0 A) (F0 m 156 ls []) := by
  intro n
  induction n with
  | zero => intro v_statuses v_number v_moved y3 y4 y5 y6 H locs ls h hl hf; exact (ll7_z hf).elim
  | succ n ih => intro v_statuses v_number v_moved y3 y4 y5 y6 H locs ls h hl hf; exact LX5_copy_156 fx ih h hl (ll7_s hf)
def fX5_copy_119 (v_bitsOf : Nat → Int32) (v_sizeOf : Nat → Int32) (ag119 : (Nat → Int32) → (Nat → Int64) → (Nat → Int64) → Int32 → Int32 → Int32 → Int32 → Int32 → Int32 → Option (Int32 × (Nat → Int32) × (Nat → Int64) × (Nat → Int64))) (v_statuses : Nat → Int32) (v_number : Nat → Int64) (v_moved : Nat → Int64) (y1 : Int32) (y2 : Int32) (y3 : Int32) (y4 : Int32) (y5 : Int32) (y6 : Int32) : Option (Int32 × (Nat → Int32) × (Nat → Int64) × (Nat → Int64)) :=
  (if y5 ≤ y6 then (
  ll7 (fX5_copy_156 v_bitsOf v_sizeOf) qF v_statuses v_number v_moved y3 y4 y5 0)
  else (
  gIn (((40 * y1) + y2) + y6) 160 (
  gIn y6 40 (
  nm (y6 + 1) (fun u8 =>
  ag119 v_statuses v_number (vp_updL v_moved y6.toNatClampNeg (v_number (((40 * y1) + y2) + y6).toNatClampNeg)) y1 y2 y3 y4 y5 u8)))))
set_option maxRecDepth 100000 in
set_option maxHeartbeats 4000000 in
theorem LX5_copy_119 {p : Program} {l : Launch} {e : Env} {s : State} {m : MethodId} {args : Array Value} {below : List Frame} {meth : Method} {c : Code} {D : va_G} {cI cJ cZ cS : ClassId} {tb : Nat} {A : Nat → Prop} {a_t a_s a_keptS a_statuses a_pile a_tape a_steps a_wish a_mark a_bitsOf a_sizeOf a_number a_moved : Nat} {v_isKept : Int32} {v_taped : Int32} {v_at : Int32} {v_fault : Int32} {v_laid : Int32} {v_open : Int32} {v_bitsOf : Nat → Int32} {v_sizeOf : Nat → Int32} {rr : Int32} {kk' : (Nat → Int32) × (Nat → Int64) × (Nat → Int64)} (fx : q_Fx p s m args meth c cX5_copy 7 RX5 (some .int) D cI cJ cZ cS tb A) {ag119 : (Nat → Int32) → (Nat → Int64) → (Nat → Int64) → Int32 → Int32 → Int32 → Int32 → Int32 → Int32 → Option (Int32 × (Nat → Int32) × (Nat → Int64) × (Nat → Int64))} (hag119 : ∀ {v_statuses : Nat → Int32} {v_number : Nat → Int64} {v_moved : Nat → Int64} {y1 : Int32} {y2 : Int32} {y3 : Int32} {y4 : Int32} {y5 : Int32} {y6 : Int32} {H : Heap} {locs : List Loc} {ls : Array Slot}, q_H D A s (wX5_copy cI cJ cZ cS a_t a_s a_keptS a_statuses a_pile a_tape a_steps a_wish a_mark a_bitsOf a_sizeOf a_number a_moved v_isKept v_taped v_at v_fault v_laid v_open v_statuses v_bitsOf v_sizeOf v_number v_moved) H locs → lv_has ls 7 [(0, .ref a_t), (1, .int y1), (2, .int y2), (3, .int y3), (4, .int y4), (5, .int y5), (6, .int y6)] → ag119 v_statuses v_number v_moved y1 y2 y3 y4 y5 y6 = some (rr, kk') → W p l e rX5_copy s m args below meth c H locs 0 0 (MQ below (q_Ri D rr A ((fun k : (Nat → Int32) × (Nat → Int64) × (Nat → Int64) => (wX5_copy cI cJ cZ cS a_t a_s a_keptS a_statuses a_pile a_tape a_steps a_wish a_mark a_bitsOf a_sizeOf a_number a_moved v_isKept v_taped v_at v_fault v_laid v_open k.1 v_bitsOf v_sizeOf k.2.1 k.2.2)) kk')) args s 0 0 A) (F0 m 119 ls [])) : ∀ {v_statuses : Nat → Int32} {v_number : Nat → Int64} {v_moved : Nat → Int64} {y1 : Int32} {y2 : Int32} {y3 : Int32} {y4 : Int32} {y5 : Int32} {y6 : Int32} {H : Heap} {locs : List Loc} {ls : Array Slot}, q_H D A s (wX5_copy cI cJ cZ cS a_t a_s a_keptS a_statuses a_pile a_tape a_steps a_wish a_mark a_bitsOf a_sizeOf a_number a_moved v_isKept v_taped v_at v_fault v_laid v_open v_statuses v_bitsOf v_sizeOf v_number v_moved) H locs → lv_has ls 7 [(0, .ref a_t), (1, .int y1), (2, .int y2), (3, .int y3), (4, .int y4), (5, .int y5), (6, .int y6)] → fX5_copy_119 v_bitsOf v_sizeOf ag119 v_statuses v_number v_moved y1 y2 y3 y4 y5 y6 = some (rr, kk') → W p l e rX5_copy s m args below meth c H locs 0 0 (MQ below (q_Ri D rr A ((fun k : (Nat → Int32) × (Nat → Int64) × (Nat → Int64) => (wX5_copy cI cJ cZ cS a_t a_s a_keptS a_statuses a_pile a_tape a_steps a_wish a_mark a_bitsOf a_sizeOf a_number a_moved v_isKept v_taped v_at v_fault v_laid v_open k.1 v_bitsOf v_sizeOf k.2.1 k.2.2)) kk')) args s 0 0 A) (F0 m 119 ls []) := by
  intro v_statuses v_number v_moved y1 y2 y3 y4 y5 y6 H locs ls h hl hf
  have hx := fx.1
  have hb := fx.2.1
  unfold fX5_copy_119 at hf
  refine lv_iload hx hb dX5_copy_119 (lv_at hl 6 rfl) ?_
  refine lv_iload hx hb dX5_copy_121 (lv_at hl 5 rfl) ?_
  refine lv_icmp_ge (tgt := 153) hx hb dX5_copy_123 (by decide) (fun c5 => ?_) (fun c5 => ?_)
  · have hf := it_t c5 hf
    refine lv_iconst (v := 0) hx hb dX5_copy_153 (by decide) ?_
    refine lv_istore (lv' := [(6, .int 0), (0, .ref a_t), (1, .int y1), (2, .int y2), (3, .int y3), (4, .int y4), (5, .int y5)]) hx hb dX5_copy_154 hl (by decide) rfl (fun ls hl => ?_)
    exact EX5_copy_156 fx qF h (lv_sub hl [1, 4, 5, 6, 0] rfl) hf
  have hf := it_f c5 hf
  refine lv_aload_n hx hb dX5_copy_126 rfl (lv_at hl 0 rfl) ?_
  refine q_get (v := .ref a_moved) fx inX5 h 0 rfl rfl 17 (by decide) k_653 rfl dX5_copy_127 ?_
  refine lv_iload hx hb dX5_copy_130 (lv_at hl 6 rfl) ?_
  refine lv_aload_n hx hb dX5_copy_132 rfl (lv_at hl 0 rfl) ?_
  refine q_get (v := .ref a_number) fx inX5 h 0 rfl rfl 16 (by decide) k_652 rfl dX5_copy_133 ?_
  refine lv_bipush (v := 40) hx hb dX5_copy_136 (by decide) ?_
  refine lv_iload_n hx hb dX5_copy_138 rfl (lv_at hl 1 rfl) ?_
  refine lv_imul hx hb dX5_copy_139 ?_
  refine lv_iload_n hx hb dX5_copy_140 rfl (lv_at hl 2 rfl) ?_
  refine lv_iadd hx hb dX5_copy_141 ?_
  refine lv_iload hx hb dX5_copy_142 (lv_at hl 6 rfl) ?_
  refine lv_iadd hx hb dX5_copy_144 ?_
  obtain ⟨i6, hf⟩ := gIn_inv hf
  refine q_lald fx h 4 rfl i6 dX5_copy_145 ?_
  obtain ⟨i7, hf⟩ := gIn_inv hf
  refine q_last (ws' := (wX5_copy cI cJ cZ cS a_t a_s a_keptS a_statuses a_pile a_tape a_steps a_wish a_mark a_bitsOf a_sizeOf a_number a_moved v_isKept v_taped v_at v_fault v_laid v_open v_statuses v_bitsOf v_sizeOf v_number (vp_updL v_moved y6.toNatClampNeg (v_number (((40 * y1) + y2) + y6).toNatClampNeg)))) fx h 5 rfl i7 rfl dX5_copy_146 (fun H locs h => ?_)
  obtain ⟨u8, eu8, hf⟩ := nm_inv hf
  refine lv_iinc (v := u8) (lv' := [(6, .int u8), (0, .ref a_t), (1, .int y1), (2, .int y2), (3, .int y3), (4, .int y4), (5, .int y5)]) hx hb dX5_copy_147 hl (k := 6) rfl (by rw [eu8]; rfl) (by decide) rfl (fun ls hl => ?_)
  refine lv_goto (tgt := 119) hx hb dX5_copy_150 (by decide) ?_
  exact hag119 h (lv_sub hl [1, 2, 3, 4, 5, 6, 0] rfl) hf
set_option maxRecDepth 100000 in
theorem EX5_copy_119 {p : Program} {l : Launch} {e : Env} {s : State} {m : MethodId} {args : Array Value} {below : List Frame} {meth : Method} {c : Code} {D : va_G} {cI cJ cZ cS : ClassId} {tb : Nat} {A : Nat → Prop} {a_t a_s a_keptS a_statuses a_pile a_tape a_steps a_wish a_mark a_bitsOf a_sizeOf a_number a_moved : Nat} {v_isKept : Int32} {v_taped : Int32} {v_at : Int32} {v_fault : Int32} {v_laid : Int32} {v_open : Int32} {v_bitsOf : Nat → Int32} {v_sizeOf : Nat → Int32} {rr : Int32} {kk' : (Nat → Int32) × (Nat → Int64) × (Nat → Int64)} (fx : q_Fx p s m args meth c cX5_copy 7 RX5 (some .int) D cI cJ cZ cS tb A) : ∀ (n : Nat), ∀ {v_statuses : Nat → Int32} {v_number : Nat → Int64} {v_moved : Nat → Int64} {y1 : Int32} {y2 : Int32} {y3 : Int32} {y4 : Int32} {y5 : Int32} {y6 : Int32} {H : Heap} {locs : List Loc} {ls : Array Slot}, q_H D A s (wX5_copy cI cJ cZ cS a_t a_s a_keptS a_statuses a_pile a_tape a_steps a_wish a_mark a_bitsOf a_sizeOf a_number a_moved v_isKept v_taped v_at v_fault v_laid v_open v_statuses v_bitsOf v_sizeOf v_number v_moved) H locs → lv_has ls 7 [(0, .ref a_t), (1, .int y1), (2, .int y2), (3, .int y3), (4, .int y4), (5, .int y5), (6, .int y6)] → ll9 (fX5_copy_119 v_bitsOf v_sizeOf) n v_statuses v_number v_moved y1 y2 y3 y4 y5 y6 = some (rr, kk') → W p l e rX5_copy s m args below meth c H locs 0 0 (MQ below (q_Ri D rr A ((fun k : (Nat → Int32) × (Nat → Int64) × (Nat → Int64) => (wX5_copy cI cJ cZ cS a_t a_s a_keptS a_statuses a_pile a_tape a_steps a_wish a_mark a_bitsOf a_sizeOf a_number a_moved v_isKept v_taped v_at v_fault v_laid v_open k.1 v_bitsOf v_sizeOf k.2.1 k.2.2)) kk')) args s 0 0 A) (F0 m 119 ls []) := by
  intro n
  induction n with
  | zero => intro v_statuses v_number v_moved y1 y2 y3 y4 y5 y6 H locs ls h hl hf; exact (ll9_z hf).elim
  | succ n ih => intro v_statuses v_number v_moved y1 y2 y3 y4 y5 y6 H locs ls h hl hf; exact LX5_copy_119 fx ih h hl (ll9_s hf)
def fX5_copy_109 (v_bitsOf : Nat → Int32) (v_sizeOf : Nat → Int32) (v_statuses : Nat → Int32) (v_number : Nat → Int64) (v_moved : Nat → Int64) : Option (Int32 × (Nat → Int32) × (Nat → Int64) × (Nat → Int64)) :=
  bR (fX5_finds v_statuses (-1000000001)) (fun r9 k9 =>
  some (r9, (k9, v_number, v_moved)))
set_option maxRecDepth 100000 in
set_option maxHeartbeats 4000000 in
theorem LX5_copy_109 {p : Program} {l : Launch} {e : Env} {s : State} {m : MethodId} {args : Array Value} {below : List Frame} {meth : Method} {c : Code} {D : va_G} {cI cJ cZ cS : ClassId} {tb : Nat} {A : Nat → Prop} {a_t a_s a_keptS a_statuses a_pile a_tape a_steps a_wish a_mark a_bitsOf a_sizeOf a_number a_moved : Nat} {v_isKept : Int32} {v_taped : Int32} {v_at : Int32} {v_fault : Int32} {v_laid : Int32} {v_open : Int32} {v_bitsOf : Nat → Int32} {v_sizeOf : Nat → Int32} {rr : Int32} {kk' : (Nat → Int32) × (Nat → Int64) × (Nat → Int64)} (fx : q_Fx p s m args meth c cX5_copy 7 RX5 (some .int) D cI cJ cZ cS tb A) : ∀ {v_statuses : Nat → Int32} {v_number : Nat → Int64} {v_moved : Nat → Int64} {H : Heap} {locs : List Loc} {ls : Array Slot}, q_H D A s (wX5_copy cI cJ cZ cS a_t a_s a_keptS a_statuses a_pile a_tape a_steps a_wish a_mark a_bitsOf a_sizeOf a_number a_moved v_isKept v_taped v_at v_fault v_laid v_open v_statuses v_bitsOf v_sizeOf v_number v_moved) H locs → lv_has ls 7 [(0, .ref a_t)] → fX5_copy_109 v_bitsOf v_sizeOf v_statuses v_number v_moved = some (rr, kk') → W p l e rX5_copy s m args below meth c H locs 0 0 (MQ below (q_Ri D rr A ((fun k : (Nat → Int32) × (Nat → Int64) × (Nat → Int64) => (wX5_copy cI cJ cZ cS a_t a_s a_keptS a_statuses a_pile a_tape a_steps a_wish a_mark a_bitsOf a_sizeOf a_number a_moved v_isKept v_taped v_at v_fault v_laid v_open k.1 v_bitsOf v_sizeOf k.2.1 k.2.2)) kk')) args s 0 0 A) (F0 m 109 ls []) := by
  intro v_statuses v_number v_moved H locs ls h hl hf
  have hx := fx.1
  have hb := fx.2.1
  unfold fX5_copy_109 at hf
  refine lv_aload_n hx hb dX5_copy_109 rfl (lv_at hl 0 rfl) ?_
  refine q_ldc fx k_701 dX5_copy_110 ?_
  obtain ⟨r9, k9, hg, hf⟩ := bR_inv hf
  refine q_ci (rest := []) (ws' := (wX5_copy cI cJ cZ cS a_t a_s a_keptS a_statuses a_pile a_tape a_steps a_wish a_mark a_bitsOf a_sizeOf a_number a_moved v_isKept v_taped v_at v_fault v_laid v_open k9 v_bitsOf v_sizeOf v_number v_moved)) (w1 := (wX5_finds cI cJ cZ cS a_t a_s a_keptS a_statuses a_pile a_tape a_steps a_wish a_mark a_bitsOf a_sizeOf a_number a_moved v_isKept v_taped v_at v_fault v_laid v_open k9)) fx h [0, 1] rfl rfl rfl rfl (q_runV fx h hl.1 [0, 1] rfl rfl (tX5_finds l D cI cJ cZ cS tb a_t a_s a_keptS a_statuses a_pile a_tape a_steps a_wish a_mark a_bitsOf a_sizeOf a_number a_moved H.size v_isKept v_taped v_at v_fault v_laid v_open v_statuses (-1000000001) r9 k9 hg) mvX5_finds k_702 ⟨rfl, rfl⟩ ⟨Nat.le_of_ble_eq_true rfl, Nat.le_of_ble_eq_true rfl⟩ rfl rfl rfl rfl (Nat.le_of_ble_eq_true rfl) dX5_copy_112 ⟨Nat.le_of_ble_eq_true rfl, Nat.le_of_ble_eq_true rfl⟩) (fun H locs h => ?_)
  exact q_reti (fun k : (Nat → Int32) × (Nat → Int64) × (Nat → Int64) => (wX5_copy cI cJ cZ cS a_t a_s a_keptS a_statuses a_pile a_tape a_steps a_wish a_mark a_bitsOf a_sizeOf a_number a_moved v_isKept v_taped v_at v_fault v_laid v_open k.1 v_bitsOf v_sizeOf k.2.1 k.2.2)) fx hf h dX5_copy_115
def fX5_copy_39 (v_bitsOf : Nat → Int32) (v_sizeOf : Nat → Int32) (v_statuses : Nat → Int32) (v_number : Nat → Int64) (v_moved : Nat → Int64) : Option (Int32 × (Nat → Int32) × (Nat → Int64) × (Nat → Int64)) :=
  bR (fX5_finds v_statuses (-1000000006)) (fun r10 k10 =>
  some (r10, (k10, v_number, v_moved)))
set_option maxRecDepth 100000 in
set_option maxHeartbeats 4000000 in
theorem LX5_copy_39 {p : Program} {l : Launch} {e : Env} {s : State} {m : MethodId} {args : Array Value} {below : List Frame} {meth : Method} {c : Code} {D : va_G} {cI cJ cZ cS : ClassId} {tb : Nat} {A : Nat → Prop} {a_t a_s a_keptS a_statuses a_pile a_tape a_steps a_wish a_mark a_bitsOf a_sizeOf a_number a_moved : Nat} {v_isKept : Int32} {v_taped : Int32} {v_at : Int32} {v_fault : Int32} {v_laid : Int32} {v_open : Int32} {v_bitsOf : Nat → Int32} {v_sizeOf : Nat → Int32} {rr : Int32} {kk' : (Nat → Int32) × (Nat → Int64) × (Nat → Int64)} (fx : q_Fx p s m args meth c cX5_copy 7 RX5 (some .int) D cI cJ cZ cS tb A) : ∀ {v_statuses : Nat → Int32} {v_number : Nat → Int64} {v_moved : Nat → Int64} {H : Heap} {locs : List Loc} {ls : Array Slot}, q_H D A s (wX5_copy cI cJ cZ cS a_t a_s a_keptS a_statuses a_pile a_tape a_steps a_wish a_mark a_bitsOf a_sizeOf a_number a_moved v_isKept v_taped v_at v_fault v_laid v_open v_statuses v_bitsOf v_sizeOf v_number v_moved) H locs → lv_has ls 7 [(0, .ref a_t)] → fX5_copy_39 v_bitsOf v_sizeOf v_statuses v_number v_moved = some (rr, kk') → W p l e rX5_copy s m args below meth c H locs 0 0 (MQ below (q_Ri D rr A ((fun k : (Nat → Int32) × (Nat → Int64) × (Nat → Int64) => (wX5_copy cI cJ cZ cS a_t a_s a_keptS a_statuses a_pile a_tape a_steps a_wish a_mark a_bitsOf a_sizeOf a_number a_moved v_isKept v_taped v_at v_fault v_laid v_open k.1 v_bitsOf v_sizeOf k.2.1 k.2.2)) kk')) args s 0 0 A) (F0 m 39 ls []) := by
  intro v_statuses v_number v_moved H locs ls h hl hf
  have hx := fx.1
  have hb := fx.2.1
  unfold fX5_copy_39 at hf
  refine lv_aload_n hx hb dX5_copy_39 rfl (lv_at hl 0 rfl) ?_
  refine q_ldc fx k_971 dX5_copy_40 ?_
  obtain ⟨r10, k10, hg, hf⟩ := bR_inv hf
  refine q_ci (rest := []) (ws' := (wX5_copy cI cJ cZ cS a_t a_s a_keptS a_statuses a_pile a_tape a_steps a_wish a_mark a_bitsOf a_sizeOf a_number a_moved v_isKept v_taped v_at v_fault v_laid v_open k10 v_bitsOf v_sizeOf v_number v_moved)) (w1 := (wX5_finds cI cJ cZ cS a_t a_s a_keptS a_statuses a_pile a_tape a_steps a_wish a_mark a_bitsOf a_sizeOf a_number a_moved v_isKept v_taped v_at v_fault v_laid v_open k10)) fx h [0, 1] rfl rfl rfl rfl (q_runV fx h hl.1 [0, 1] rfl rfl (tX5_finds l D cI cJ cZ cS tb a_t a_s a_keptS a_statuses a_pile a_tape a_steps a_wish a_mark a_bitsOf a_sizeOf a_number a_moved H.size v_isKept v_taped v_at v_fault v_laid v_open v_statuses (-1000000006) r10 k10 hg) mvX5_finds k_702 ⟨rfl, rfl⟩ ⟨Nat.le_of_ble_eq_true rfl, Nat.le_of_ble_eq_true rfl⟩ rfl rfl rfl rfl (Nat.le_of_ble_eq_true rfl) dX5_copy_42 ⟨Nat.le_of_ble_eq_true rfl, Nat.le_of_ble_eq_true rfl⟩) (fun H locs h => ?_)
  exact q_reti (fun k : (Nat → Int32) × (Nat → Int64) × (Nat → Int64) => (wX5_copy cI cJ cZ cS a_t a_s a_keptS a_statuses a_pile a_tape a_steps a_wish a_mark a_bitsOf a_sizeOf a_number a_moved v_isKept v_taped v_at v_fault v_laid v_open k.1 v_bitsOf v_sizeOf k.2.1 k.2.2)) fx hf h dX5_copy_45
def fX5_copy_14 (v_bitsOf : Nat → Int32) (v_sizeOf : Nat → Int32) (v_statuses : Nat → Int32) (v_number : Nat → Int64) (v_moved : Nat → Int64) : Option (Int32 × (Nat → Int32) × (Nat → Int64) × (Nat → Int64)) :=
  bR (fX5_finds v_statuses (-1000000001)) (fun r11 k11 =>
  some (r11, (k11, v_number, v_moved)))
set_option maxRecDepth 100000 in
set_option maxHeartbeats 4000000 in
theorem LX5_copy_14 {p : Program} {l : Launch} {e : Env} {s : State} {m : MethodId} {args : Array Value} {below : List Frame} {meth : Method} {c : Code} {D : va_G} {cI cJ cZ cS : ClassId} {tb : Nat} {A : Nat → Prop} {a_t a_s a_keptS a_statuses a_pile a_tape a_steps a_wish a_mark a_bitsOf a_sizeOf a_number a_moved : Nat} {v_isKept : Int32} {v_taped : Int32} {v_at : Int32} {v_fault : Int32} {v_laid : Int32} {v_open : Int32} {v_bitsOf : Nat → Int32} {v_sizeOf : Nat → Int32} {rr : Int32} {kk' : (Nat → Int32) × (Nat → Int64) × (Nat → Int64)} (fx : q_Fx p s m args meth c cX5_copy 7 RX5 (some .int) D cI cJ cZ cS tb A) : ∀ {v_statuses : Nat → Int32} {v_number : Nat → Int64} {v_moved : Nat → Int64} {H : Heap} {locs : List Loc} {ls : Array Slot}, q_H D A s (wX5_copy cI cJ cZ cS a_t a_s a_keptS a_statuses a_pile a_tape a_steps a_wish a_mark a_bitsOf a_sizeOf a_number a_moved v_isKept v_taped v_at v_fault v_laid v_open v_statuses v_bitsOf v_sizeOf v_number v_moved) H locs → lv_has ls 7 [(0, .ref a_t)] → fX5_copy_14 v_bitsOf v_sizeOf v_statuses v_number v_moved = some (rr, kk') → W p l e rX5_copy s m args below meth c H locs 0 0 (MQ below (q_Ri D rr A ((fun k : (Nat → Int32) × (Nat → Int64) × (Nat → Int64) => (wX5_copy cI cJ cZ cS a_t a_s a_keptS a_statuses a_pile a_tape a_steps a_wish a_mark a_bitsOf a_sizeOf a_number a_moved v_isKept v_taped v_at v_fault v_laid v_open k.1 v_bitsOf v_sizeOf k.2.1 k.2.2)) kk')) args s 0 0 A) (F0 m 14 ls []) := by
  intro v_statuses v_number v_moved H locs ls h hl hf
  have hx := fx.1
  have hb := fx.2.1
  unfold fX5_copy_14 at hf
  refine lv_aload_n hx hb dX5_copy_14 rfl (lv_at hl 0 rfl) ?_
  refine q_ldc fx k_701 dX5_copy_15 ?_
  obtain ⟨r11, k11, hg, hf⟩ := bR_inv hf
  refine q_ci (rest := []) (ws' := (wX5_copy cI cJ cZ cS a_t a_s a_keptS a_statuses a_pile a_tape a_steps a_wish a_mark a_bitsOf a_sizeOf a_number a_moved v_isKept v_taped v_at v_fault v_laid v_open k11 v_bitsOf v_sizeOf v_number v_moved)) (w1 := (wX5_finds cI cJ cZ cS a_t a_s a_keptS a_statuses a_pile a_tape a_steps a_wish a_mark a_bitsOf a_sizeOf a_number a_moved v_isKept v_taped v_at v_fault v_laid v_open k11)) fx h [0, 1] rfl rfl rfl rfl (q_runV fx h hl.1 [0, 1] rfl rfl (tX5_finds l D cI cJ cZ cS tb a_t a_s a_keptS a_statuses a_pile a_tape a_steps a_wish a_mark a_bitsOf a_sizeOf a_number a_moved H.size v_isKept v_taped v_at v_fault v_laid v_open v_statuses (-1000000001) r11 k11 hg) mvX5_finds k_702 ⟨rfl, rfl⟩ ⟨Nat.le_of_ble_eq_true rfl, Nat.le_of_ble_eq_true rfl⟩ rfl rfl rfl rfl (Nat.le_of_ble_eq_true rfl) dX5_copy_17 ⟨Nat.le_of_ble_eq_true rfl, Nat.le_of_ble_eq_true rfl⟩) (fun H locs h => ?_)
  exact q_reti (fun k : (Nat → Int32) × (Nat → Int64) × (Nat → Int64) => (wX5_copy cI cJ cZ cS a_t a_s a_keptS a_statuses a_pile a_tape a_steps a_wish a_mark a_bitsOf a_sizeOf a_number a_moved v_isKept v_taped v_at v_fault v_laid v_open k.1 v_bitsOf v_sizeOf k.2.1 k.2.2)) fx hf h dX5_copy_20
def fX5_copy (v_statuses : Nat → Int32) (v_bitsOf : Nat → Int32) (v_sizeOf : Nat → Int32) (v_number : Nat → Int64) (v_moved : Nat → Int64) (x1 : Int32) (x2 : Int32) (x3 : Int32) (x4 : Int32) (x5 : Int32) : Option (Int32 × (Nat → Int32) × (Nat → Int64) × (Nat → Int64)) :=
  bR (fX5_isOne x1) (fun r12 k12 =>
  (if r12 = 0 then (
  fX5_copy_14 v_bitsOf v_sizeOf v_statuses v_number v_moved)
  else (
  bR (fX5_isOne x3) (fun r14 k14 =>
  (if r14 = 0 then (
  fX5_copy_14 v_bitsOf v_sizeOf v_statuses v_number v_moved)
  else (
  gIn x1 4 (
  (if (v_bitsOf x1.toNatClampNeg) = 0 then (
  fX5_copy_39 v_bitsOf v_sizeOf v_statuses v_number v_moved)
  else (
  gIn x3 4 (
  (if (v_bitsOf x3.toNatClampNeg) = 0 then (
  fX5_copy_39 v_bitsOf v_sizeOf v_statuses v_number v_moved)
  else (
  gIn x1 4 (
  gIn x3 4 (
  (if (v_bitsOf x1.toNatClampNeg) = (v_bitsOf x3.toNatClampNeg) then (
  (if x2 < 0 then (
  fX5_copy_109 v_bitsOf v_sizeOf v_statuses v_number v_moved)
  else (
  (if x4 < 0 then (
  fX5_copy_109 v_bitsOf v_sizeOf v_statuses v_number v_moved)
  else (
  (if x5 < 0 then (
  fX5_copy_109 v_bitsOf v_sizeOf v_statuses v_number v_moved)
  else (
  gIn x1 4 (
  (if ((v_sizeOf x1.toNatClampNeg) - x2) < x5 then (
  fX5_copy_109 v_bitsOf v_sizeOf v_statuses v_number v_moved)
  else (
  gIn x3 4 (
  (if x5 ≤ ((v_sizeOf x3.toNatClampNeg) - x4) then (
  ll9 (fX5_copy_119 v_bitsOf v_sizeOf) qF v_statuses v_number v_moved x1 x2 x3 x4 x5 0)
  else (
  fX5_copy_109 v_bitsOf v_sizeOf v_statuses v_number v_moved)))))))))))))
  else (
  bR (fX5_finds v_statuses (-1000000003)) (fun r30 k30 =>
  some (r30, (k30, v_number, v_moved)))))))))))))))))))
set_option maxRecDepth 100000 in
set_option maxHeartbeats 4000000 in
theorem tX5_copy (l : Launch) (D : va_G) (cI cJ cZ cS : ClassId) (tb : Nat) (a_t a_s a_keptS a_statuses a_pile a_tape a_steps a_wish a_mark a_bitsOf a_sizeOf a_number a_moved : Nat) (sz : Nat) (v_isKept : Int32) (v_taped : Int32) (v_at : Int32) (v_fault : Int32) (v_laid : Int32) (v_open : Int32) (v_statuses : Nat → Int32) (v_bitsOf : Nat → Int32) (v_sizeOf : Nat → Int32) (v_number : Nat → Int64) (v_moved : Nat → Int64) (x1 : Int32) (x2 : Int32) (x3 : Int32) (x4 : Int32) (x5 : Int32) (rr : Int32) (kk' : (Nat → Int32) × (Nat → Int64) × (Nat → Int64)) (hf : fX5_copy v_statuses v_bitsOf v_sizeOf v_number v_moved x1 x2 x3 x4 x5 = some (rr, kk')) : Met l yX5_copy (Cond.code yX5_copy cX5_copy 7 (some .int) :: wA) rX5_copy (q_Pre D cI cJ cZ cS tb [.ref a_t, .int x1, .int x2, .int x3, .int x4, .int x5] sz (wX5_copy cI cJ cZ cS a_t a_s a_keptS a_statuses a_pile a_tape a_steps a_wish a_mark a_bitsOf a_sizeOf a_number a_moved v_isKept v_taped v_at v_fault v_laid v_open v_statuses v_bitsOf v_sizeOf v_number v_moved)) (q_Ri D rr (va_A (wX5_copy cI cJ cZ cS a_t a_s a_keptS a_statuses a_pile a_tape a_steps a_wish a_mark a_bitsOf a_sizeOf a_number a_moved v_isKept v_taped v_at v_fault v_laid v_open v_statuses v_bitsOf v_sizeOf v_number v_moved) sz) ((fun k : (Nat → Int32) × (Nat → Int64) × (Nat → Int64) => (wX5_copy cI cJ cZ cS a_t a_s a_keptS a_statuses a_pile a_tape a_steps a_wish a_mark a_bitsOf a_sizeOf a_number a_moved v_isKept v_taped v_at v_fault v_laid v_open k.1 v_bitsOf v_sizeOf k.2.1 k.2.2)) kk')) 0 0 (va_A (wX5_copy cI cJ cZ cS a_t a_s a_keptS a_statuses a_pile a_tape a_steps a_wish a_mark a_bitsOf a_sizeOf a_number a_moved v_isKept v_taped v_at v_fault v_laid v_open v_statuses v_bitsOf v_sizeOf v_number v_moved) sz) := by
  refine q_enter (Qf := fun A => (q_Ri D rr A ((fun k : (Nat → Int32) × (Nat → Int64) × (Nat → Int64) => (wX5_copy cI cJ cZ cS a_t a_s a_keptS a_statuses a_pile a_tape a_steps a_wish a_mark a_bitsOf a_sizeOf a_number a_moved v_isKept v_taped v_at v_fault v_laid v_open k.1 v_bitsOf v_sizeOf k.2.1 k.2.2)) kk'))) (by decide) rfl (Nat.le_of_ble_eq_true rfl) ?_
  intro p e s m below meth c A ls fx hname h hl
  have hx := fx.1
  have hb := fx.2.1
  have hl : lv_has ls 7 [(0, .ref a_t), (1, .int x1), (2, .int x2), (3, .int x3), (4, .int x4), (5, .int x5)] := hl
  generalize h9 : s.heap = H at h ⊢
  clear h9
  generalize h9 : ([] : List Loc) = locs at h ⊢
  clear h9
  unfold fX5_copy at hf
  refine lv_iload_n hx hb dX5_copy_0 rfl (lv_at hl 1 rfl) ?_
  obtain ⟨r12, k12, hg, hf⟩ := bR_inv hf
  refine q_ci (rest := []) (ws' := (wX5_copy cI cJ cZ cS a_t a_s a_keptS a_statuses a_pile a_tape a_steps a_wish a_mark a_bitsOf a_sizeOf a_number a_moved v_isKept v_taped v_at v_fault v_laid v_open v_statuses v_bitsOf v_sizeOf v_number v_moved)) (w1 := (wX5_isOne cI cJ cZ cS)) fx h [] rfl rfl rfl rfl (q_runS fx h hl.1 [] rfl rfl (tX5_isOne l D cI cJ cZ cS tb H.size x1 r12 k12 hg) msX5_isOne k_959 ⟨rfl, rfl⟩ ⟨Nat.le_of_ble_eq_true rfl, Nat.le_of_ble_eq_true rfl⟩ rfl rfl (Nat.le_of_ble_eq_true rfl) dX5_copy_1 ⟨Nat.le_of_ble_eq_true rfl, Nat.le_of_ble_eq_true rfl⟩) (fun H locs h => ?_)
  refine lv_if_eq (tgt := 14) hx hb dX5_copy_4 (by decide) (fun c13 => ?_) (fun c13 => ?_)
  · have hf := it_t c13 hf
    exact LX5_copy_14 fx h (lv_sub hl [0] rfl) hf
  have hf := it_f c13 hf
  refine lv_iload_n hx hb dX5_copy_7 rfl (lv_at hl 3 rfl) ?_
  obtain ⟨r14, k14, hg, hf⟩ := bR_inv hf
  refine q_ci (rest := []) (ws' := (wX5_copy cI cJ cZ cS a_t a_s a_keptS a_statuses a_pile a_tape a_steps a_wish a_mark a_bitsOf a_sizeOf a_number a_moved v_isKept v_taped v_at v_fault v_laid v_open v_statuses v_bitsOf v_sizeOf v_number v_moved)) (w1 := (wX5_isOne cI cJ cZ cS)) fx h [] rfl rfl rfl rfl (q_runS fx h hl.1 [] rfl rfl (tX5_isOne l D cI cJ cZ cS tb H.size x3 r14 k14 hg) msX5_isOne k_959 ⟨rfl, rfl⟩ ⟨Nat.le_of_ble_eq_true rfl, Nat.le_of_ble_eq_true rfl⟩ rfl rfl (Nat.le_of_ble_eq_true rfl) dX5_copy_8 ⟨Nat.le_of_ble_eq_true rfl, Nat.le_of_ble_eq_true rfl⟩) (fun H locs h => ?_)
  refine lv_if_ne (tgt := 21) hx hb dX5_copy_11 (by decide) (fun c15 => ?_) (fun c15 => ?_)
  · have hf := it_f c15 hf
    refine lv_aload_n hx hb dX5_copy_21 rfl (lv_at hl 0 rfl) ?_
    refine q_get (v := .ref a_bitsOf) fx inX5 h 0 rfl rfl 14 (by decide) k_650 rfl dX5_copy_22 ?_
    refine lv_iload_n hx hb dX5_copy_25 rfl (lv_at hl 1 rfl) ?_
    obtain ⟨i16, hf⟩ := gIn_inv hf
    refine q_iald fx h 2 rfl i16 dX5_copy_26 ?_
    refine lv_if_eq (tgt := 39) hx hb dX5_copy_27 (by decide) (fun c17 => ?_) (fun c17 => ?_)
    · have hf := it_t c17 hf
      exact LX5_copy_39 fx h (lv_sub hl [0] rfl) hf
    have hf := it_f c17 hf
    refine lv_aload_n hx hb dX5_copy_30 rfl (lv_at hl 0 rfl) ?_
    refine q_get (v := .ref a_bitsOf) fx inX5 h 0 rfl rfl 14 (by decide) k_650 rfl dX5_copy_31 ?_
    refine lv_iload_n hx hb dX5_copy_34 rfl (lv_at hl 3 rfl) ?_
    obtain ⟨i18, hf⟩ := gIn_inv hf
    refine q_iald fx h 2 rfl i18 dX5_copy_35 ?_
    refine lv_if_ne (tgt := 46) hx hb dX5_copy_36 (by decide) (fun c19 => ?_) (fun c19 => ?_)
    · have hf := it_f c19 hf
      refine lv_aload_n hx hb dX5_copy_46 rfl (lv_at hl 0 rfl) ?_
      refine q_get (v := .ref a_bitsOf) fx inX5 h 0 rfl rfl 14 (by decide) k_650 rfl dX5_copy_47 ?_
      refine lv_iload_n hx hb dX5_copy_50 rfl (lv_at hl 1 rfl) ?_
      obtain ⟨i20, hf⟩ := gIn_inv hf
      refine q_iald fx h 2 rfl i20 dX5_copy_51 ?_
      refine lv_aload_n hx hb dX5_copy_52 rfl (lv_at hl 0 rfl) ?_
      refine q_get (v := .ref a_bitsOf) fx inX5 h 0 rfl rfl 14 (by decide) k_650 rfl dX5_copy_53 ?_
      refine lv_iload_n hx hb dX5_copy_56 rfl (lv_at hl 3 rfl) ?_
      obtain ⟨i21, hf⟩ := gIn_inv hf
      refine q_iald fx h 2 rfl i21 dX5_copy_57 ?_
      refine lv_icmp_eq (tgt := 68) hx hb dX5_copy_58 (by decide) (fun c22 => ?_) (fun c22 => ?_)
      · have hf := it_t c22 hf
        refine lv_iload_n hx hb dX5_copy_68 rfl (lv_at hl 2 rfl) ?_
        refine lv_if_lt (tgt := 109) hx hb dX5_copy_69 (by decide) (fun c23 => ?_) (fun c23 => ?_)
        · have hf := it_t c23 hf
          exact LX5_copy_109 fx h (lv_sub hl [0] rfl) hf
        have hf := it_f c23 hf
        refine lv_iload hx hb dX5_copy_72 (lv_at hl 4 rfl) ?_
        refine lv_if_lt (tgt := 109) hx hb dX5_copy_74 (by decide) (fun c24 => ?_) (fun c24 => ?_)
        · have hf := it_t c24 hf
          exact LX5_copy_109 fx h (lv_sub hl [0] rfl) hf
        have hf := it_f c24 hf
        refine lv_iload hx hb dX5_copy_77 (lv_at hl 5 rfl) ?_
        refine lv_if_lt (tgt := 109) hx hb dX5_copy_79 (by decide) (fun c25 => ?_) (fun c25 => ?_)
        · have hf := it_t c25 hf
          exact LX5_copy_109 fx h (lv_sub hl [0] rfl) hf
        have hf := it_f c25 hf
        refine lv_iload hx hb dX5_copy_82 (lv_at hl 5 rfl) ?_
        refine lv_aload_n hx hb dX5_copy_84 rfl (lv_at hl 0 rfl) ?_
        refine q_get (v := .ref a_sizeOf) fx inX5 h 0 rfl rfl 15 (by decide) k_651 rfl dX5_copy_85 ?_
        refine lv_iload_n hx hb dX5_copy_88 rfl (lv_at hl 1 rfl) ?_
        obtain ⟨i26, hf⟩ := gIn_inv hf
        refine q_iald fx h 3 rfl i26 dX5_copy_89 ?_
        refine lv_iload_n hx hb dX5_copy_90 rfl (lv_at hl 2 rfl) ?_
        refine lv_isub hx hb dX5_copy_91 ?_
        refine lv_icmp_gt (tgt := 109) hx hb dX5_copy_92 (by decide) (fun c27 => ?_) (fun c27 => ?_)
        · have hf := it_t c27 hf
          exact LX5_copy_109 fx h (lv_sub hl [0] rfl) hf
        have hf := it_f c27 hf
        refine lv_iload hx hb dX5_copy_95 (lv_at hl 5 rfl) ?_
        refine lv_aload_n hx hb dX5_copy_97 rfl (lv_at hl 0 rfl) ?_
        refine q_get (v := .ref a_sizeOf) fx inX5 h 0 rfl rfl 15 (by decide) k_651 rfl dX5_copy_98 ?_
        refine lv_iload_n hx hb dX5_copy_101 rfl (lv_at hl 3 rfl) ?_
        obtain ⟨i28, hf⟩ := gIn_inv hf
        refine q_iald fx h 3 rfl i28 dX5_copy_102 ?_
        refine lv_iload hx hb dX5_copy_103 (lv_at hl 4 rfl) ?_
        refine lv_isub hx hb dX5_copy_105 ?_
        refine lv_icmp_le (tgt := 116) hx hb dX5_copy_106 (by decide) (fun c29 => ?_) (fun c29 => ?_)
        · have hf := it_t c29 hf
          refine lv_iconst (v := 0) hx hb dX5_copy_116 (by decide) ?_
          refine lv_istore (lv' := [(6, .int 0), (0, .ref a_t), (1, .int x1), (2, .int x2), (3, .int x3), (4, .int x4), (5, .int x5)]) hx hb dX5_copy_117 hl (by decide) rfl (fun ls hl => ?_)
          exact EX5_copy_119 fx qF h (lv_sub hl [1, 2, 3, 4, 5, 6, 0] rfl) hf
        have hf := it_f c29 hf
        exact LX5_copy_109 fx h (lv_sub hl [0] rfl) hf
      have hf := it_f c22 hf
      refine lv_aload_n hx hb dX5_copy_61 rfl (lv_at hl 0 rfl) ?_
      refine q_ldc fx k_752 dX5_copy_62 ?_
      obtain ⟨r30, k30, hg, hf⟩ := bR_inv hf
      refine q_ci (rest := []) (ws' := (wX5_copy cI cJ cZ cS a_t a_s a_keptS a_statuses a_pile a_tape a_steps a_wish a_mark a_bitsOf a_sizeOf a_number a_moved v_isKept v_taped v_at v_fault v_laid v_open k30 v_bitsOf v_sizeOf v_number v_moved)) (w1 := (wX5_finds cI cJ cZ cS a_t a_s a_keptS a_statuses a_pile a_tape a_steps a_wish a_mark a_bitsOf a_sizeOf a_number a_moved v_isKept v_taped v_at v_fault v_laid v_open k30)) fx h [0, 1] rfl rfl rfl rfl (q_runV fx h hl.1 [0, 1] rfl rfl (tX5_finds l D cI cJ cZ cS tb a_t a_s a_keptS a_statuses a_pile a_tape a_steps a_wish a_mark a_bitsOf a_sizeOf a_number a_moved H.size v_isKept v_taped v_at v_fault v_laid v_open v_statuses (-1000000003) r30 k30 hg) mvX5_finds k_702 ⟨rfl, rfl⟩ ⟨Nat.le_of_ble_eq_true rfl, Nat.le_of_ble_eq_true rfl⟩ rfl rfl rfl rfl (Nat.le_of_ble_eq_true rfl) dX5_copy_64 ⟨Nat.le_of_ble_eq_true rfl, Nat.le_of_ble_eq_true rfl⟩) (fun H locs h => ?_)
      exact q_reti (fun k : (Nat → Int32) × (Nat → Int64) × (Nat → Int64) => (wX5_copy cI cJ cZ cS a_t a_s a_keptS a_statuses a_pile a_tape a_steps a_wish a_mark a_bitsOf a_sizeOf a_number a_moved v_isKept v_taped v_at v_fault v_laid v_open k.1 v_bitsOf v_sizeOf k.2.1 k.2.2)) fx hf h dX5_copy_67
    have hf := it_t c19 hf
    exact LX5_copy_39 fx h (lv_sub hl [0] rfl) hf
  have hf := it_t c15 hf
  exact LX5_copy_14 fx h (lv_sub hl [0] rfl) hf
/-! X5_lays -/
abbrev wX5_lays (cI cJ cZ cS : ClassId) (a_t a_s a_keptS a_statuses a_pile a_tape a_steps a_wish a_mark a_bitsOf a_sizeOf a_number a_moved : Nat) (v_isKept : Int32) (v_taped : Int32) (v_at : Int32) (v_fault : Int32) (v_laid : Int32) (v_open : Int32) (v_s : Nat → Int32) (v_statuses : Nat → Int32) (v_bitsOf : Nat → Int32) (v_sizeOf : Nat → Int32) (v_number : Nat → Int64) : va_W := [(a_t, .inr (5, [.ref a_s, .ref a_keptS, .ref a_statuses, .int v_isKept, .ref a_pile, .ref a_tape, .ref a_steps, .int v_taped, .int v_at, .int v_fault, .int v_laid, .int v_open, .ref a_wish, .ref a_mark, .ref a_bitsOf, .ref a_sizeOf, .ref a_number, .ref a_moved])), (a_s, .inl (cI, 538, .inl v_s)), (a_statuses, .inl (cI, 7, .inl v_statuses)), (a_bitsOf, .inl (cI, 4, .inl v_bitsOf)), (a_sizeOf, .inl (cI, 4, .inl v_sizeOf)), (a_number, .inl (cJ, 160, .inr (.inl v_number)))]
abbrev rX5_lays : Room := { frames := 3, cells := 0, slots := 0, locals := 66 }
def fX5_lays_77 (v_bitsOf : Nat → Int32) (v_sizeOf : Nat → Int32) (v_number : Nat → Int64) (v_s : Nat → Int32) (v_statuses : Nat → Int32) (y3 : Int32) : Option (Int32 × (Nat → Int32) × (Nat → Int32)) :=
  some (y3, ((upd v_s 1 y3), v_statuses))
set_option maxRecDepth 100000 in
set_option maxHeartbeats 4000000 in
theorem LX5_lays_77 {p : Program} {l : Launch} {e : Env} {s : State} {m : MethodId} {args : Array Value} {below : List Frame} {meth : Method} {c : Code} {D : va_G} {cI cJ cZ cS : ClassId} {tb : Nat} {A : Nat → Prop} {a_t a_s a_keptS a_statuses a_pile a_tape a_steps a_wish a_mark a_bitsOf a_sizeOf a_number a_moved : Nat} {v_isKept : Int32} {v_taped : Int32} {v_at : Int32} {v_fault : Int32} {v_laid : Int32} {v_open : Int32} {v_bitsOf : Nat → Int32} {v_sizeOf : Nat → Int32} {v_number : Nat → Int64} {rr : Int32} {kk' : (Nat → Int32) × (Nat → Int32)} (fx : q_Fx p s m args meth c cX5_lays 5 RX5 (some .int) D cI cJ cZ cS tb A) : ∀ {v_s : Nat → Int32} {v_statuses : Nat → Int32} {y3 : Int32} {H : Heap} {locs : List Loc} {ls : Array Slot}, q_H D A s (wX5_lays cI cJ cZ cS a_t a_s a_keptS a_statuses a_pile a_tape a_steps a_wish a_mark a_bitsOf a_sizeOf a_number a_moved v_isKept v_taped v_at v_fault v_laid v_open v_s v_statuses v_bitsOf v_sizeOf v_number) H locs → lv_has ls 5 [(0, .ref a_t), (3, .int y3)] → fX5_lays_77 v_bitsOf v_sizeOf v_number v_s v_statuses y3 = some (rr, kk') → W p l e rX5_lays s m args below meth c H locs 0 0 (MQ below (q_Ri D rr A ((fun k : (Nat → Int32) × (Nat → Int32) => (wX5_lays cI cJ cZ cS a_t a_s a_keptS a_statuses a_pile a_tape a_steps a_wish a_mark a_bitsOf a_sizeOf a_number a_moved v_isKept v_taped v_at v_fault v_laid v_open k.1 k.2 v_bitsOf v_sizeOf v_number)) kk')) args s 0 0 A) (F0 m 77 ls []) := by
  intro v_s v_statuses y3 H locs ls h hl hf
  have hx := fx.1
  have hb := fx.2.1
  unfold fX5_lays_77 at hf
  refine lv_aload_n hx hb dX5_lays_77 rfl (lv_at hl 0 rfl) ?_
  refine q_get (v := .ref a_s) fx inX5 h 0 rfl rfl 0 (by decide) k_636 rfl dX5_lays_78 ?_
  refine lv_iconst (v := 1) hx hb dX5_lays_81 (by decide) ?_
  refine lv_iload_n hx hb dX5_lays_82 rfl (lv_at hl 1 rfl) ?_
  refine q_iastK (ws' := (wX5_lays cI cJ cZ cS a_t a_s a_keptS a_statuses a_pile a_tape a_steps a_wish a_mark a_bitsOf a_sizeOf a_number a_moved v_isKept v_taped v_at v_fault v_laid v_open (upd v_s 1 y3) v_statuses v_bitsOf v_sizeOf v_number)) fx h 1 rfl 1 (vinK (by decide)) (by decide) rfl dX5_lays_83 (fun H locs h => ?_)
  refine lv_iload_n hx hb dX5_lays_84 rfl (lv_at hl 1 rfl) ?_
  exact q_reti (fun k : (Nat → Int32) × (Nat → Int32) => (wX5_lays cI cJ cZ cS a_t a_s a_keptS a_statuses a_pile a_tape a_steps a_wish a_mark a_bitsOf a_sizeOf a_number a_moved v_isKept v_taped v_at v_fault v_laid v_open k.1 k.2 v_bitsOf v_sizeOf v_number)) fx hf h dX5_lays_85
def fX5_lays_69 (v_bitsOf : Nat → Int32) (v_sizeOf : Nat → Int32) (v_number : Nat → Int64) (ag21 : (Nat → Int32) → (Nat → Int32) → Int32 → Int32 → Int32 → Option (Int32 × (Nat → Int32) × (Nat → Int32))) (v_s : Nat → Int32) (v_statuses : Nat → Int32) (s0 : Int32) (s1 : Int32) (y1 : Int32) (y4 : Int32) : Option (Int32 × (Nat → Int32) × (Nat → Int32)) :=
  nm (s0 ||| s1) (fun u1 =>
  nm (y4 + 1) (fun u2 =>
  ag21 v_s v_statuses y1 u1 u2))
set_option maxRecDepth 100000 in
set_option maxHeartbeats 4000000 in
theorem LX5_lays_69 {p : Program} {l : Launch} {e : Env} {s : State} {m : MethodId} {args : Array Value} {below : List Frame} {meth : Method} {c : Code} {D : va_G} {cI cJ cZ cS : ClassId} {tb : Nat} {A : Nat → Prop} {a_t a_s a_keptS a_statuses a_pile a_tape a_steps a_wish a_mark a_bitsOf a_sizeOf a_number a_moved : Nat} {v_isKept : Int32} {v_taped : Int32} {v_at : Int32} {v_fault : Int32} {v_laid : Int32} {v_open : Int32} {v_bitsOf : Nat → Int32} {v_sizeOf : Nat → Int32} {v_number : Nat → Int64} {rr : Int32} {kk' : (Nat → Int32) × (Nat → Int32)} (fx : q_Fx p s m args meth c cX5_lays 5 RX5 (some .int) D cI cJ cZ cS tb A) {ag21 : (Nat → Int32) → (Nat → Int32) → Int32 → Int32 → Int32 → Option (Int32 × (Nat → Int32) × (Nat → Int32))} (hag21 : ∀ {v_s : Nat → Int32} {v_statuses : Nat → Int32} {y1 : Int32} {y3 : Int32} {y4 : Int32} {H : Heap} {locs : List Loc} {ls : Array Slot}, q_H D A s (wX5_lays cI cJ cZ cS a_t a_s a_keptS a_statuses a_pile a_tape a_steps a_wish a_mark a_bitsOf a_sizeOf a_number a_moved v_isKept v_taped v_at v_fault v_laid v_open v_s v_statuses v_bitsOf v_sizeOf v_number) H locs → lv_has ls 5 [(0, .ref a_t), (1, .int y1), (3, .int y3), (4, .int y4)] → ag21 v_s v_statuses y1 y3 y4 = some (rr, kk') → W p l e rX5_lays s m args below meth c H locs 0 0 (MQ below (q_Ri D rr A ((fun k : (Nat → Int32) × (Nat → Int32) => (wX5_lays cI cJ cZ cS a_t a_s a_keptS a_statuses a_pile a_tape a_steps a_wish a_mark a_bitsOf a_sizeOf a_number a_moved v_isKept v_taped v_at v_fault v_laid v_open k.1 k.2 v_bitsOf v_sizeOf v_number)) kk')) args s 0 0 A) (F0 m 21 ls [])) : ∀ {v_s : Nat → Int32} {v_statuses : Nat → Int32} {s0 : Int32} {s1 : Int32} {y1 : Int32} {y4 : Int32} {H : Heap} {locs : List Loc} {ls : Array Slot}, q_H D A s (wX5_lays cI cJ cZ cS a_t a_s a_keptS a_statuses a_pile a_tape a_steps a_wish a_mark a_bitsOf a_sizeOf a_number a_moved v_isKept v_taped v_at v_fault v_laid v_open v_s v_statuses v_bitsOf v_sizeOf v_number) H locs → lv_has ls 5 [(0, .ref a_t), (1, .int y1), (4, .int y4)] → fX5_lays_69 v_bitsOf v_sizeOf v_number ag21 v_s v_statuses s0 s1 y1 y4 = some (rr, kk') → W p l e rX5_lays s m args below meth c H locs 0 0 (MQ below (q_Ri D rr A ((fun k : (Nat → Int32) × (Nat → Int32) => (wX5_lays cI cJ cZ cS a_t a_s a_keptS a_statuses a_pile a_tape a_steps a_wish a_mark a_bitsOf a_sizeOf a_number a_moved v_isKept v_taped v_at v_fault v_laid v_open k.1 k.2 v_bitsOf v_sizeOf v_number)) kk')) args s 0 0 A) (F0 m 69 ls [.int s1, .int s0]) := by
  intro v_s v_statuses s0 s1 y1 y4 H locs ls h hl hf
  have hx := fx.1
  have hb := fx.2.1
  unfold fX5_lays_69 at hf
  refine lv_ior hx hb dX5_lays_69 ?_
  obtain ⟨u1, eu1, hf⟩ := nm_inv hf
  refine lv_eqi eu1 ?_
  refine lv_istore_n (lv' := [(3, .int u1), (0, .ref a_t), (1, .int y1), (4, .int y4)]) hx hb dX5_lays_70 rfl hl (by decide) rfl (fun ls hl => ?_)
  obtain ⟨u2, eu2, hf⟩ := nm_inv hf
  refine lv_iinc (v := u2) (lv' := [(4, .int u2), (3, .int u1), (0, .ref a_t), (1, .int y1)]) hx hb dX5_lays_71 hl (k := 3) rfl (by rw [eu2]; rfl) (by decide) rfl (fun ls hl => ?_)
  refine lv_goto (tgt := 21) hx hb dX5_lays_74 (by decide) ?_
  exact hag21 h (lv_sub hl [2, 3, 1, 0] rfl) hf
def fX5_lays_21 (v_bitsOf : Nat → Int32) (v_sizeOf : Nat → Int32) (v_number : Nat → Int64) (ag21 : (Nat → Int32) → (Nat → Int32) → Int32 → Int32 → Int32 → Option (Int32 × (Nat → Int32) × (Nat → Int32))) (v_s : Nat → Int32) (v_statuses : Nat → Int32) (y1 : Int32) (y3 : Int32) (y4 : Int32) : Option (Int32 × (Nat → Int32) × (Nat → Int32)) :=
  (if (v_s 0) ≤ y4 then (
  fX5_lays_77 v_bitsOf v_sizeOf v_number v_s v_statuses y3)
  else (
  gIn y1 4 (
  (if (v_sizeOf y1.toNatClampNeg) ≤ y4 then (
  fX5_lays_77 v_bitsOf v_sizeOf v_number v_s v_statuses y3)
  else (
  gIn ((40 * y1) + y4) 160 (
  (if (lg_cmp (v_number ((40 * y1) + y4).toNatClampNeg) 0) = 0 then (
  fX5_lays_69 v_bitsOf v_sizeOf v_number ag21 v_s v_statuses y3 0 y1 y4)
  else (
  fX5_lays_69 v_bitsOf v_sizeOf v_number ag21 v_s v_statuses y3 (jshl 1 y4) y1 y4))))))))
set_option maxRecDepth 100000 in
set_option maxHeartbeats 4000000 in
theorem LX5_lays_21 {p : Program} {l : Launch} {e : Env} {s : State} {m : MethodId} {args : Array Value} {below : List Frame} {meth : Method} {c : Code} {D : va_G} {cI cJ cZ cS : ClassId} {tb : Nat} {A : Nat → Prop} {a_t a_s a_keptS a_statuses a_pile a_tape a_steps a_wish a_mark a_bitsOf a_sizeOf a_number a_moved : Nat} {v_isKept : Int32} {v_taped : Int32} {v_at : Int32} {v_fault : Int32} {v_laid : Int32} {v_open : Int32} {v_bitsOf : Nat → Int32} {v_sizeOf : Nat → Int32} {v_number : Nat → Int64} {rr : Int32} {kk' : (Nat → Int32) × (Nat → Int32)} (fx : q_Fx p s m args meth c cX5_lays 5 RX5 (some .int) D cI cJ cZ cS tb A) {ag21 : (Nat → Int32) → (Nat → Int32) → Int32 → Int32 → Int32 → Option (Int32 × (Nat → Int32) × (Nat → Int32))} (hag21 : ∀ {v_s : Nat → Int32} {v_statuses : Nat → Int32} {y1 : Int32} {y3 : Int32} {y4 : Int32} {H : Heap} {locs : List Loc} {ls : Array Slot}, q_H D A s (wX5_lays cI cJ cZ cS a_t a_s a_keptS a_statuses a_pile a_tape a_steps a_wish a_mark a_bitsOf a_sizeOf a_number a_moved v_isKept v_taped v_at v_fault v_laid v_open v_s v_statuses v_bitsOf v_sizeOf v_number) H locs → lv_has ls 5 [(0, .ref a_t), (1, .int y1), (3, .int y3), (4, .int y4)] → ag21 v_s v_statuses y1 y3 y4 = some (rr, kk') → W p l e rX5_lays s m args below meth c H locs 0 0 (MQ below (q_Ri D rr A ((fun k : (Nat → Int32) × (Nat → Int32) => (wX5_lays cI cJ cZ cS a_t a_s a_keptS a_statuses a_pile a_tape a_steps a_wish a_mark a_bitsOf a_sizeOf a_number a_moved v_isKept v_taped v_at v_fault v_laid v_open k.1 k.2 v_bitsOf v_sizeOf v_number)) kk')) args s 0 0 A) (F0 m 21 ls [])) : ∀ {v_s : Nat → Int32} {v_statuses : Nat → Int32} {y1 : Int32} {y3 : Int32} {y4 : Int32} {H : Heap} {locs : List Loc} {ls : Array Slot}, q_H D A s (wX5_lays cI cJ cZ cS a_t a_s a_keptS a_statuses a_pile a_tape a_steps a_wish a_mark a_bitsOf a_sizeOf a_number a_moved v_isKept v_taped v_at v_fault v_laid v_open v_s v_statuses v_bitsOf v_sizeOf v_number) H locs → lv_has ls 5 [(0, .ref a_t), (1, .int y1), (3, .int y3), (4, .int y4)] → fX5_lays_21 v_bitsOf v_sizeOf v_number ag21 v_s v_statuses y1 y3 y4 = some (rr, kk') → W p l e rX5_lays s m args below meth c H locs 0 0 (MQ below (q_Ri D rr A ((fun k : (Nat → Int32) × (Nat → Int32) => (wX5_lays cI cJ cZ cS a_t a_s a_keptS a_statuses a_pile a_tape a_steps a_wish a_mark a_bitsOf a_sizeOf a_number a_moved v_isKept v_taped v_at v_fault v_laid v_open k.1 k.2 v_bitsOf v_sizeOf v_number)) kk')) args s 0 0 A) (F0 m 21 ls []) := by
  intro v_s v_statuses y1 y3 y4 H locs ls h hl hf
  have hx := fx.1
  have hb := fx.2.1
  unfold fX5_lays_21 at hf
  refine lv_iload hx hb dX5_lays_21 (lv_at hl 3 rfl) ?_
  refine lv_aload_n hx hb dX5_lays_23 rfl (lv_at hl 0 rfl) ?_
  refine q_get (v := .ref a_s) fx inX5 h 0 rfl rfl 0 (by decide) k_636 rfl dX5_lays_24 ?_
  refine lv_iconst (v := 0) hx hb dX5_lays_27 (by decide) ?_
  refine q_ialdK fx h 1 rfl 0 (vinK (by decide)) (by decide) dX5_lays_28 ?_
  refine lv_icmp_ge (tgt := 77) hx hb dX5_lays_29 (by decide) (fun c3 => ?_) (fun c3 => ?_)
  · have hf := it_t c3 hf
    exact LX5_lays_77 fx h (lv_sub hl [0, 2] rfl) hf
  have hf := it_f c3 hf
  refine lv_iload hx hb dX5_lays_32 (lv_at hl 3 rfl) ?_
  refine lv_aload_n hx hb dX5_lays_34 rfl (lv_at hl 0 rfl) ?_
  refine q_get (v := .ref a_sizeOf) fx inX5 h 0 rfl rfl 15 (by decide) k_651 rfl dX5_lays_35 ?_
  refine lv_iload_n hx hb dX5_lays_38 rfl (lv_at hl 1 rfl) ?_
  obtain ⟨i4, hf⟩ := gIn_inv hf
  refine q_iald fx h 4 rfl i4 dX5_lays_39 ?_
  refine lv_icmp_ge (tgt := 77) hx hb dX5_lays_40 (by decide) (fun c5 => ?_) (fun c5 => ?_)
  · have hf := it_t c5 hf
    exact LX5_lays_77 fx h (lv_sub hl [0, 2] rfl) hf
  have hf := it_f c5 hf
  refine lv_iload_n hx hb dX5_lays_43 rfl (lv_at hl 2 rfl) ?_
  refine lv_aload_n hx hb dX5_lays_44 rfl (lv_at hl 0 rfl) ?_
  refine q_get (v := .ref a_number) fx inX5 h 0 rfl rfl 16 (by decide) k_652 rfl dX5_lays_45 ?_
  refine lv_bipush (v := 40) hx hb dX5_lays_48 (by decide) ?_
  refine lv_iload_n hx hb dX5_lays_50 rfl (lv_at hl 1 rfl) ?_
  refine lv_imul hx hb dX5_lays_51 ?_
  refine lv_iload hx hb dX5_lays_52 (lv_at hl 3 rfl) ?_
  refine lv_iadd hx hb dX5_lays_54 ?_
  obtain ⟨i6, hf⟩ := gIn_inv hf
  refine q_lald fx h 5 rfl i6 dX5_lays_55 ?_
  refine lv_lconst (v := 0) hx hb dX5_lays_56 (by decide) ?_
  refine W.lcmp hx hb dX5_lays_57 ?_
  refine lv_if_eq (tgt := 68) hx hb dX5_lays_58 (by decide) (fun c7 => ?_) (fun c7 => ?_)
  · have hf := it_t c7 hf
    refine lv_iconst (v := 0) hx hb dX5_lays_68 (by decide) ?_
    exact LX5_lays_69 fx hag21 h (lv_sub hl [0, 1, 3] rfl) hf
  have hf := it_f c7 hf
  refine lv_iconst (v := 1) hx hb dX5_lays_61 (by decide) ?_
  refine lv_iload hx hb dX5_lays_62 (lv_at hl 3 rfl) ?_
  refine lv_ishl hx hb dX5_lays_64 ?_
  refine lv_goto (tgt := 69) hx hb dX5_lays_65 (by decide) ?_
  exact LX5_lays_69 fx hag21 h (lv_sub hl [0, 1, 3] rfl) hf
set_option maxRecDepth 100000 in
theorem EX5_lays_21 {p : Program} {l : Launch} {e : Env} {s : State} {m : MethodId} {args : Array Value} {below : List Frame} {meth : Method} {c : Code} {D : va_G} {cI cJ cZ cS : ClassId} {tb : Nat} {A : Nat → Prop} {a_t a_s a_keptS a_statuses a_pile a_tape a_steps a_wish a_mark a_bitsOf a_sizeOf a_number a_moved : Nat} {v_isKept : Int32} {v_taped : Int32} {v_at : Int32} {v_fault : Int32} {v_laid : Int32} {v_open : Int32} {v_bitsOf : Nat → Int32} {v_sizeOf : Nat → Int32} {v_number : Nat → Int64} {rr : Int32} {kk' : (Nat → Int32) × (Nat → Int32)} (fx : q_Fx p s m args meth c cX5_lays 5 RX5 (some .int) D cI cJ cZ cS tb A) : ∀ (n : Nat), ∀ {v_s : Nat → Int32} {v_statuses : Nat → Int32} {y1 : Int32} {y3 : Int32} {y4 : Int32} {H : Heap} {locs : List Loc} {ls : Array Slot}, q_H D A s (wX5_lays cI cJ cZ cS a_t a_s a_keptS a_statuses a_pile a_tape a_steps a_wish a_mark a_bitsOf a_sizeOf a_number a_moved v_isKept v_taped v_at v_fault v_laid v_open v_s v_statuses v_bitsOf v_sizeOf v_number) H locs → lv_has ls 5 [(0, .ref a_t), (1, .int y1), (3, .int y3), (4, .int y4)] → ll5 (fX5_lays_21 v_bitsOf v_sizeOf v_number) n v_s v_statuses y1 y3 y4 = some (rr, kk') → W p l e rX5_lays s m args below meth c H locs 0 0 (MQ below (q_Ri D rr A ((fun k : (Nat → Int32) × (Nat → Int32) => (wX5_lays cI cJ cZ cS a_t a_s a_keptS a_statuses a_pile a_tape a_steps a_wish a_mark a_bitsOf a_sizeOf a_number a_moved v_isKept v_taped v_at v_fault v_laid v_open k.1 k.2 v_bitsOf v_sizeOf v_number)) kk')) args s 0 0 A) (F0 m 21 ls []) := by
  intro n
  induction n with
  | zero => intro v_s v_statuses y1 y3 y4 H locs ls h hl hf; exact (ll5_z hf).elim
  | succ n ih => intro v_s v_statuses y1 y3 y4 H locs ls h hl hf; exact LX5_lays_21 fx ih h hl (ll5_s hf)
def fX5_lays (v_s : Nat → Int32) (v_statuses : Nat → Int32) (v_bitsOf : Nat → Int32) (v_sizeOf : Nat → Int32) (v_number : Nat → Int64) (x1 : Int32) : Option (Int32 × (Nat → Int32) × (Nat → Int32)) :=
  bR (fX5_wrong v_bitsOf x1) (fun r8 k8 =>
  (if r8 = 0 then (
  ll5 (fX5_lays_21 v_bitsOf v_sizeOf v_number) qF v_s v_statuses x1 0 0)
  else (
  bR (fX5_finds v_statuses r8) (fun r10 k10 =>
  some (r10, (v_s, k10))))))
set_option maxRecDepth 100000 in
set_option maxHeartbeats 4000000 in
theorem tX5_lays (l : Launch) (D : va_G) (cI cJ cZ cS : ClassId) (tb : Nat) (a_t a_s a_keptS a_statuses a_pile a_tape a_steps a_wish a_mark a_bitsOf a_sizeOf a_number a_moved : Nat) (sz : Nat) (v_isKept : Int32) (v_taped : Int32) (v_at : Int32) (v_fault : Int32) (v_laid : Int32) (v_open : Int32) (v_s : Nat → Int32) (v_statuses : Nat → Int32) (v_bitsOf : Nat → Int32) (v_sizeOf : Nat → Int32) (v_number : Nat → Int64) (x1 : Int32) (rr : Int32) (kk' : (Nat → Int32) × (Nat → Int32)) (hf : fX5_lays v_s v_statuses v_bitsOf v_sizeOf v_number x1 = some (rr, kk')) : Met l yX5_lays (Cond.code yX5_lays cX5_lays 5 (some .int) :: wA) rX5_lays (q_Pre D cI cJ cZ cS tb [.ref a_t, .int x1] sz (wX5_lays cI cJ cZ cS a_t a_s a_keptS a_statuses a_pile a_tape a_steps a_wish a_mark a_bitsOf a_sizeOf a_number a_moved v_isKept v_taped v_at v_fault v_laid v_open v_s v_statuses v_bitsOf v_sizeOf v_number)) (q_Ri D rr (va_A (wX5_lays cI cJ cZ cS a_t a_s a_keptS a_statuses a_pile a_tape a_steps a_wish a_mark a_bitsOf a_sizeOf a_number a_moved v_isKept v_taped v_at v_fault v_laid v_open v_s v_statuses v_bitsOf v_sizeOf v_number) sz) ((fun k : (Nat → Int32) × (Nat → Int32) => (wX5_lays cI cJ cZ cS a_t a_s a_keptS a_statuses a_pile a_tape a_steps a_wish a_mark a_bitsOf a_sizeOf a_number a_moved v_isKept v_taped v_at v_fault v_laid v_open k.1 k.2 v_bitsOf v_sizeOf v_number)) kk')) 0 0 (va_A (wX5_lays cI cJ cZ cS a_t a_s a_keptS a_statuses a_pile a_tape a_steps a_wish a_mark a_bitsOf a_sizeOf a_number a_moved v_isKept v_taped v_at v_fault v_laid v_open v_s v_statuses v_bitsOf v_sizeOf v_number) sz) := by
  refine q_enter (Qf := fun A => (q_Ri D rr A ((fun k : (Nat → Int32) × (Nat → Int32) => (wX5_lays cI cJ cZ cS a_t a_s a_keptS a_statuses a_pile a_tape a_steps a_wish a_mark a_bitsOf a_sizeOf a_number a_moved v_isKept v_taped v_at v_fault v_laid v_open k.1 k.2 v_bitsOf v_sizeOf v_number)) kk'))) (by decide) rfl (Nat.le_of_ble_eq_true rfl) ?_
  intro p e s m below meth c A ls fx hname h hl
  have hx := fx.1
  have hb := fx.2.1
  have hl : lv_has ls 5 [(0, .ref a_t), (1, .int x1)] := hl
  generalize h9 : s.heap = H at h ⊢
  clear h9
  generalize h9 : ([] : List Loc) = locs at h ⊢
  clear h9
  unfold fX5_lays at hf
  refine lv_aload_n hx hb dX5_lays_0 rfl (lv_at hl 0 rfl) ?_
  refine lv_iload_n hx hb dX5_lays_1 rfl (lv_at hl 1 rfl) ?_
  obtain ⟨r8, k8, hg, hf⟩ := bR_inv hf
  refine q_ci (rest := []) (ws' := (wX5_lays cI cJ cZ cS a_t a_s a_keptS a_statuses a_pile a_tape a_steps a_wish a_mark a_bitsOf a_sizeOf a_number a_moved v_isKept v_taped v_at v_fault v_laid v_open v_s v_statuses v_bitsOf v_sizeOf v_number)) (w1 := (wX5_wrong cI cJ cZ cS a_t a_s a_keptS a_statuses a_pile a_tape a_steps a_wish a_mark a_bitsOf a_sizeOf a_number a_moved v_isKept v_taped v_at v_fault v_laid v_open v_bitsOf)) fx h [0, 3] rfl rfl rfl rfl (q_runV fx h hl.1 [0, 3] rfl rfl (tX5_wrong l D cI cJ cZ cS tb a_t a_s a_keptS a_statuses a_pile a_tape a_steps a_wish a_mark a_bitsOf a_sizeOf a_number a_moved H.size v_isKept v_taped v_at v_fault v_laid v_open v_bitsOf x1 r8 k8 hg) mvX5_wrong k_967 ⟨rfl, rfl⟩ ⟨Nat.le_of_ble_eq_true rfl, Nat.le_of_ble_eq_true rfl⟩ rfl rfl rfl rfl (Nat.le_of_ble_eq_true rfl) dX5_lays_2 ⟨Nat.le_of_ble_eq_true rfl, Nat.le_of_ble_eq_true rfl⟩) (fun H locs h => ?_)
  refine lv_istore_n (lv' := [(2, .int r8), (0, .ref a_t), (1, .int x1)]) hx hb dX5_lays_5 rfl hl (by decide) rfl (fun ls hl => ?_)
  refine lv_iload_n hx hb dX5_lays_6 rfl (lv_at hl 0 rfl) ?_
  refine lv_if_eq (tgt := 16) hx hb dX5_lays_7 (by decide) (fun c9 => ?_) (fun c9 => ?_)
  · have hf := it_t c9 hf
    refine lv_iconst (v := 0) hx hb dX5_lays_16 (by decide) ?_
    refine lv_istore_n (lv' := [(3, .int 0), (2, .int r8), (0, .ref a_t), (1, .int x1)]) hx hb dX5_lays_17 rfl hl (by decide) rfl (fun ls hl => ?_)
    refine lv_iconst (v := 0) hx hb dX5_lays_18 (by decide) ?_
    refine lv_istore (lv' := [(4, .int 0), (3, .int 0), (2, .int r8), (0, .ref a_t), (1, .int x1)]) hx hb dX5_lays_19 hl (by decide) rfl (fun ls hl => ?_)
    exact EX5_lays_21 fx qF h (lv_sub hl [3, 4, 1, 0] rfl) hf
  have hf := it_f c9 hf
  refine lv_aload_n hx hb dX5_lays_10 rfl (lv_at hl 1 rfl) ?_
  refine lv_iload_n hx hb dX5_lays_11 rfl (lv_at hl 0 rfl) ?_
  obtain ⟨r10, k10, hg, hf⟩ := bR_inv hf
  refine q_ci (rest := []) (ws' := (wX5_lays cI cJ cZ cS a_t a_s a_keptS a_statuses a_pile a_tape a_steps a_wish a_mark a_bitsOf a_sizeOf a_number a_moved v_isKept v_taped v_at v_fault v_laid v_open v_s k10 v_bitsOf v_sizeOf v_number)) (w1 := (wX5_finds cI cJ cZ cS a_t a_s a_keptS a_statuses a_pile a_tape a_steps a_wish a_mark a_bitsOf a_sizeOf a_number a_moved v_isKept v_taped v_at v_fault v_laid v_open k10)) fx h [0, 2] rfl rfl rfl rfl (q_runV fx h hl.1 [0, 2] rfl rfl (tX5_finds l D cI cJ cZ cS tb a_t a_s a_keptS a_statuses a_pile a_tape a_steps a_wish a_mark a_bitsOf a_sizeOf a_number a_moved H.size v_isKept v_taped v_at v_fault v_laid v_open v_statuses r8 r10 k10 hg) mvX5_finds k_702 ⟨rfl, rfl⟩ ⟨Nat.le_of_ble_eq_true rfl, Nat.le_of_ble_eq_true rfl⟩ rfl rfl rfl rfl (Nat.le_of_ble_eq_true rfl) dX5_lays_12 ⟨Nat.le_of_ble_eq_true rfl, Nat.le_of_ble_eq_true rfl⟩) (fun H locs h => ?_)
  exact q_reti (fun k : (Nat → Int32) × (Nat → Int32) => (wX5_lays cI cJ cZ cS a_t a_s a_keptS a_statuses a_pile a_tape a_steps a_wish a_mark a_bitsOf a_sizeOf a_number a_moved v_isKept v_taped v_at v_fault v_laid v_open k.1 k.2 v_bitsOf v_sizeOf v_number)) fx hf h dX5_lays_15
/-! X5_book -/
abbrev wX5_book (cI cJ cZ cS : ClassId) (a_t a_s a_keptS a_statuses a_pile a_tape a_steps a_wish a_mark a_bitsOf a_sizeOf a_number a_moved : Nat) (v_isKept : Int32) (v_taped : Int32) (v_at : Int32) (v_fault : Int32) (v_laid : Int32) (v_open : Int32) (v_s : Nat → Int32) (v_statuses : Nat → Int32) (v_pile : Nat → Int32) (v_bitsOf : Nat → Int32) (v_sizeOf : Nat → Int32) (v_number : Nat → Int64) : va_W := [(a_t, .inr (5, [.ref a_s, .ref a_keptS, .ref a_statuses, .int v_isKept, .ref a_pile, .ref a_tape, .ref a_steps, .int v_taped, .int v_at, .int v_fault, .int v_laid, .int v_open, .ref a_wish, .ref a_mark, .ref a_bitsOf, .ref a_sizeOf, .ref a_number, .ref a_moved])), (a_s, .inl (cI, 538, .inl v_s)), (a_statuses, .inl (cI, 7, .inl v_statuses)), (a_pile, .inl (cZ, 64, .inl v_pile)), (a_bitsOf, .inl (cI, 4, .inl v_bitsOf)), (a_sizeOf, .inl (cI, 4, .inl v_sizeOf)), (a_number, .inl (cJ, 160, .inr (.inl v_number)))]
abbrev rX5_book : Room := { frames := 5, cells := 0, slots := 0, locals := 116 }
def fX5_book_26 (v_s : Nat → Int32) (v_bitsOf : Nat → Int32) (v_sizeOf : Nat → Int32) (ag26 : (Nat → Int32) → (Nat → Int32) → (Nat → Int64) → Int32 → Int32 → Int32 → Option (Int32 × (Nat → Int32) × (Nat → Int32) × (Nat → Int64))) (v_statuses : Nat → Int32) (v_pile : Nat → Int32) (v_number : Nat → Int64) (y1 : Int32) (y3 : Int32) (y4 : Int32) : Option (Int32 × (Nat → Int32) × (Nat → Int32) × (Nat → Int64)) :=
  gIn y1 4 (
  (if (v_sizeOf y1.toNatClampNeg) ≤ y4 then (
  gIn y1 4 (
  some (v_sizeOf y1.toNatClampNeg, (v_statuses, v_pile, v_number))))
  else (
  gIn y1 4 (
  bR (fX5_narrowed (v_bitsOf y1.toNatClampNeg) (y3.toInt64)) (fun r5 k5 =>
  gIn ((40 * y1) + y4) 160 (
  bR (fX5_would v_s v_pile y3) (fun r7 k7 =>
  nm (y4 + 1) (fun u8 =>
  ag26 v_statuses k7 (vp_updL v_number ((40 * y1) + y4).toNatClampNeg r5) y1 r7 u8))))))))
set_option maxRecDepth 100000 in
set_option maxHeartbeats 4000000 in
theorem LX5_book_26 {p : Program} {l : Launch} {e : Env} {s : State} {m : MethodId} {args : Array Value} {below : List Frame} {meth : Method} {c : Code} {D : va_G} {cI cJ cZ cS : ClassId} {tb : Nat} {A : Nat → Prop} {a_t a_s a_keptS a_statuses a_pile a_tape a_steps a_wish a_mark a_bitsOf a_sizeOf a_number a_moved : Nat} {v_isKept : Int32} {v_taped : Int32} {v_at : Int32} {v_fault : Int32} {v_laid : Int32} {v_open : Int32} {v_s : Nat → Int32} {v_bitsOf : Nat → Int32} {v_sizeOf : Nat → Int32} {rr : Int32} {kk' : (Nat → Int32) × (Nat → Int32) × (Nat → Int64)} (fx : q_Fx p s m args meth c cX5_book 5 RX5 (some .int) D cI cJ cZ cS tb A) {ag26 : (Nat → Int32) → (Nat → Int32) → (Nat → Int64) → Int32 → Int32 → Int32 → Option (Int32 × (Nat → Int32) × (Nat → Int32) × (Nat → Int64))} (hag26 : ∀ {v_statuses : Nat → Int32} {v_pile : Nat → Int32} {v_number : Nat → Int64} {y1 : Int32} {y3 : Int32} {y4 : Int32} {H : Heap} {locs : List Loc} {ls : Array Slot}, q_H D A s (wX5_book cI cJ cZ cS a_t a_s a_keptS a_statuses a_pile a_tape a_steps a_wish a_mark a_bitsOf a_sizeOf a_number a_moved v_isKept v_taped v_at v_fault v_laid v_open v_s v_statuses v_pile v_bitsOf v_sizeOf v_number) H locs → lv_has ls 5 [(0, .ref a_t), (1, .int y1), (3, .int y3), (4, .int y4)] → ag26 v_statuses v_pile v_number y1 y3 y4 = some (rr, kk') → W p l e rX5_book s m args below meth c H locs 0 0 (MQ below (q_Ri D rr A ((fun k : (Nat → Int32) × (Nat → Int32) × (Nat → Int64) => (wX5_book cI cJ cZ cS a_t a_s a_keptS a_statuses a_pile a_tape a_steps a_wish a_mark a_bitsOf a_sizeOf a_number a_moved v_isKept v_taped v_at v_fault v_laid v_open v_s k.1 k.2.1 v_bitsOf v_sizeOf k.2.2)) kk')) args s 0 0 A) (F0 m 26 ls [])) : ∀ {v_statuses : Nat → Int32} {v_pile : Nat → Int32} {v_number : Nat → Int64} {y1 : Int32} {y3 : Int32} {y4 : Int32} {H : Heap} {locs : List Loc} {ls : Array Slot}, q_H D A s (wX5_book cI cJ cZ cS a_t a_s a_keptS a_statuses a_pile a_tape a_steps a_wish a_mark a_bitsOf a_sizeOf a_number a_moved v_isKept v_taped v_at v_fault v_laid v_open v_s v_statuses v_pile v_bitsOf v_sizeOf v_number) H locs → lv_has ls 5 [(0, .ref a_t), (1, .int y1), (3, .int y3), (4, .int y4)] → fX5_book_26 v_s v_bitsOf v_sizeOf ag26 v_statuses v_pile v_number y1 y3 y4 = some (rr, kk') → W p l e rX5_book s m args below meth c H locs 0 0 (MQ below (q_Ri D rr A ((fun k : (Nat → Int32) × (Nat → Int32) × (Nat → Int64) => (wX5_book cI cJ cZ cS a_t a_s a_keptS a_statuses a_pile a_tape a_steps a_wish a_mark a_bitsOf a_sizeOf a_number a_moved v_isKept v_taped v_at v_fault v_laid v_open v_s k.1 k.2.1 v_bitsOf v_sizeOf k.2.2)) kk')) args s 0 0 A) (F0 m 26 ls []) := by
  intro v_statuses v_pile v_number y1 y3 y4 H locs ls h hl hf
  have hx := fx.1
  have hb := fx.2.1
  unfold fX5_book_26 at hf
  refine lv_iload hx hb dX5_book_26 (lv_at hl 3 rfl) ?_
  refine lv_aload_n hx hb dX5_book_28 rfl (lv_at hl 0 rfl) ?_
  refine q_get (v := .ref a_sizeOf) fx inX5 h 0 rfl rfl 15 (by decide) k_651 rfl dX5_book_29 ?_
  refine lv_iload_n hx hb dX5_book_32 rfl (lv_at hl 1 rfl) ?_
  obtain ⟨i1, hf⟩ := gIn_inv hf
  refine q_iald fx h 5 rfl i1 dX5_book_33 ?_
  refine lv_icmp_ge (tgt := 72) hx hb dX5_book_34 (by decide) (fun c2 => ?_) (fun c2 => ?_)
  · have hf := it_t c2 hf
    refine lv_aload_n hx hb dX5_book_72 rfl (lv_at hl 0 rfl) ?_
    refine q_get (v := .ref a_sizeOf) fx inX5 h 0 rfl rfl 15 (by decide) k_651 rfl dX5_book_73 ?_
    refine lv_iload_n hx hb dX5_book_76 rfl (lv_at hl 1 rfl) ?_
    obtain ⟨i3, hf⟩ := gIn_inv hf
    refine q_iald fx h 5 rfl i3 dX5_book_77 ?_
    exact q_reti (fun k : (Nat → Int32) × (Nat → Int32) × (Nat → Int64) => (wX5_book cI cJ cZ cS a_t a_s a_keptS a_statuses a_pile a_tape a_steps a_wish a_mark a_bitsOf a_sizeOf a_number a_moved v_isKept v_taped v_at v_fault v_laid v_open v_s k.1 k.2.1 v_bitsOf v_sizeOf k.2.2)) fx hf h dX5_book_78
  have hf := it_f c2 hf
  refine lv_aload_n hx hb dX5_book_37 rfl (lv_at hl 0 rfl) ?_
  refine q_get (v := .ref a_number) fx inX5 h 0 rfl rfl 16 (by decide) k_652 rfl dX5_book_38 ?_
  refine lv_bipush (v := 40) hx hb dX5_book_41 (by decide) ?_
  refine lv_iload_n hx hb dX5_book_43 rfl (lv_at hl 1 rfl) ?_
  refine lv_imul hx hb dX5_book_44 ?_
  refine lv_iload hx hb dX5_book_45 (lv_at hl 3 rfl) ?_
  refine lv_iadd hx hb dX5_book_47 ?_
  refine lv_aload_n hx hb dX5_book_48 rfl (lv_at hl 0 rfl) ?_
  refine q_get (v := .ref a_bitsOf) fx inX5 h 0 rfl rfl 14 (by decide) k_650 rfl dX5_book_49 ?_
  refine lv_iload_n hx hb dX5_book_52 rfl (lv_at hl 1 rfl) ?_
  obtain ⟨i4, hf⟩ := gIn_inv hf
  refine q_iald fx h 4 rfl i4 dX5_book_53 ?_
  refine lv_iload_n hx hb dX5_book_54 rfl (lv_at hl 2 rfl) ?_
  refine lv_i2l hx hb dX5_book_55 rfl ?_
  obtain ⟨r5, k5, hg, hf⟩ := bR_inv hf
  refine q_cl (rest := [.int ((40 * y1) + y4), .ref a_number]) (ws' := (wX5_book cI cJ cZ cS a_t a_s a_keptS a_statuses a_pile a_tape a_steps a_wish a_mark a_bitsOf a_sizeOf a_number a_moved v_isKept v_taped v_at v_fault v_laid v_open v_s v_statuses v_pile v_bitsOf v_sizeOf v_number)) (w1 := (wX5_narrowed cI cJ cZ cS)) fx h [] rfl rfl rfl rfl (q_runS fx h hl.1 [] rfl rfl (tX5_narrowed l D cI cJ cZ cS tb H.size (v_bitsOf y1.toNatClampNeg) (y3.toInt64) r5 k5 hg) msX5_narrowed k_972 ⟨rfl, rfl⟩ ⟨Nat.le_of_ble_eq_true rfl, Nat.le_of_ble_eq_true rfl⟩ rfl rfl (Nat.le_of_ble_eq_true rfl) dX5_book_56 ⟨Nat.le_of_ble_eq_true rfl, Nat.le_of_ble_eq_true rfl⟩) (fun H locs h => ?_)
  obtain ⟨i6, hf⟩ := gIn_inv hf
  refine q_last (ws' := (wX5_book cI cJ cZ cS a_t a_s a_keptS a_statuses a_pile a_tape a_steps a_wish a_mark a_bitsOf a_sizeOf a_number a_moved v_isKept v_taped v_at v_fault v_laid v_open v_s v_statuses v_pile v_bitsOf v_sizeOf (vp_updL v_number ((40 * y1) + y4).toNatClampNeg r5))) fx h 6 rfl i6 rfl dX5_book_59 (fun H locs h => ?_)
  refine lv_aload_n hx hb dX5_book_60 rfl (lv_at hl 0 rfl) ?_
  refine lv_iload_n hx hb dX5_book_61 rfl (lv_at hl 2 rfl) ?_
  obtain ⟨r7, k7, hg, hf⟩ := bR_inv hf
  refine q_ci (rest := []) (ws' := (wX5_book cI cJ cZ cS a_t a_s a_keptS a_statuses a_pile a_tape a_steps a_wish a_mark a_bitsOf a_sizeOf a_number a_moved v_isKept v_taped v_at v_fault v_laid v_open v_s v_statuses k7 v_bitsOf v_sizeOf (vp_updL v_number ((40 * y1) + y4).toNatClampNeg r5))) (w1 := (wX5_would cI cJ cZ cS a_t a_s a_keptS a_statuses a_pile a_tape a_steps a_wish a_mark a_bitsOf a_sizeOf a_number a_moved v_isKept v_taped v_at v_fault v_laid v_open v_s k7)) fx h [0, 1, 3] rfl rfl rfl rfl (q_runV fx h hl.1 [0, 1, 3] rfl rfl (tX5_would l D cI cJ cZ cS tb a_t a_s a_keptS a_statuses a_pile a_tape a_steps a_wish a_mark a_bitsOf a_sizeOf a_number a_moved H.size v_isKept v_taped v_at v_fault v_laid v_open v_s v_pile y3 r7 k7 hg) mvX5_would k_818 ⟨rfl, rfl⟩ ⟨Nat.le_of_ble_eq_true rfl, Nat.le_of_ble_eq_true rfl⟩ rfl rfl rfl rfl (Nat.le_of_ble_eq_true rfl) dX5_book_62 ⟨Nat.le_of_ble_eq_true rfl, Nat.le_of_ble_eq_true rfl⟩) (fun H locs h => ?_)
  refine lv_istore_n (lv' := [(3, .int r7), (0, .ref a_t), (1, .int y1), (4, .int y4)]) hx hb dX5_book_65 rfl hl (by decide) rfl (fun ls hl => ?_)
  obtain ⟨u8, eu8, hf⟩ := nm_inv hf
  refine lv_iinc (v := u8) (lv' := [(4, .int u8), (3, .int r7), (0, .ref a_t), (1, .int y1)]) hx hb dX5_book_66 hl (k := 3) rfl (by rw [eu8]; rfl) (by decide) rfl (fun ls hl => ?_)
  refine lv_goto (tgt := 26) hx hb dX5_book_69 (by decide) ?_
  exact hag26 h (lv_sub hl [2, 3, 1, 0] rfl) hf
set_option maxRecDepth 100000 in
theorem EX5_book_26 {p : Program} {l : Launch} {e : Env} {s : State} {m : MethodId} {args : Array Value} {below : List Frame} {meth : Method} {c : Code} {D : va_G} {cI cJ cZ cS : ClassId} {tb : Nat} {A : Nat → Prop} {a_t a_s a_keptS a_statuses a_pile a_tape a_steps a_wish a_mark a_bitsOf a_sizeOf a_number a_moved : Nat} {v_isKept : Int32} {v_taped : Int32} {v_at : Int32} {v_fault : Int32} {v_laid : Int32} {v_open : Int32} {v_s : Nat → Int32} {v_bitsOf : Nat → Int32} {v_sizeOf : Nat → Int32} {rr : Int32} {kk' : (Nat → Int32) × (Nat → Int32) × (Nat → Int64)} (fx : q_Fx p s m args meth c cX5_book 5 RX5 (some .int) D cI cJ cZ cS tb A) : ∀ (n : Nat), ∀ {v_statuses : Nat → Int32} {v_pile : Nat → Int32} {v_number : Nat → Int64} {y1 : Int32} {y3 : Int32} {y4 : Int32} {H : Heap} {locs : List Loc} {ls : Array Slot}, q_H D A s (wX5_book cI cJ cZ cS a_t a_s a_keptS a_statuses a_pile a_tape a_steps a_wish a_mark a_bitsOf a_sizeOf a_number a_moved v_isKept v_taped v_at v_fault v_laid v_open v_s v_statuses v_pile v_bitsOf v_sizeOf v_number) H locs → lv_has ls 5 [(0, .ref a_t), (1, .int y1), (3, .int y3), (4, .int y4)] → ll6 (fX5_book_26 v_s v_bitsOf v_sizeOf) n v_statuses v_pile v_number y1 y3 y4 = some (rr, kk') → W p l e rX5_book s m args below meth c H locs 0 0 (MQ below (q_Ri D rr A ((fun k : (Nat → Int32) × (Nat → Int32) × (Nat → Int64) => (wX5_book cI cJ cZ cS a_t a_s a_keptS a_statuses a_pile a_tape a_steps a_wish a_mark a_bitsOf a_sizeOf a_number a_moved v_isKept v_taped v_at v_fault v_laid v_open v_s k.1 k.2.1 v_bitsOf v_sizeOf k.2.2)) kk')) args s 0 0 A) (F0 m 26 ls []) := by
  intro n
  induction n with
  | zero => intro v_statuses v_pile v_number y1 y3 y4 H locs ls h hl hf; exact (ll6_z hf).elim
  | succ n ih => intro v_statuses v_pile v_number y1 y3 y4 H locs ls h hl hf; exact LX5_book_26 fx ih h hl (ll6_s hf)
def fX5_book (v_s : Nat → Int32) (v_statuses : Nat → Int32) (v_pile : Nat → Int32) (v_bitsOf : Nat → Int32) (v_sizeOf : Nat → Int32) (v_number : Nat → Int64) (x1 : Int32) : Option (Int32 × (Nat → Int32) × (Nat → Int32) × (Nat → Int64)) :=
  bR (fX5_wrong v_bitsOf x1) (fun r9 k9 =>
  (if r9 = 0 then (
  nm (v_s 1) (fun u11 =>
  ll6 (fX5_book_26 v_s v_bitsOf v_sizeOf) qF v_statuses v_pile v_number x1 u11 0))
  else (
  bR (fX5_finds v_statuses r9) (fun r12 k12 =>
  some (r12, (k12, v_pile, v_number))))))
set_option maxRecDepth 100000 in
set_option maxHeartbeats 4000000 in
theorem tX5_book (l : Launch) (D : va_G) (cI cJ cZ cS : ClassId) (tb : Nat) (a_t a_s a_keptS a_statuses a_pile a_tape a_steps a_wish a_mark a_bitsOf a_sizeOf a_number a_moved : Nat) (sz : Nat) (v_isKept : Int32) (v_taped : Int32) (v_at : Int32) (v_fault : Int32) (v_laid : Int32) (v_open : Int32) (v_s : Nat → Int32) (v_statuses : Nat → Int32) (v_pile : Nat → Int32) (v_bitsOf : Nat → Int32) (v_sizeOf : Nat → Int32) (v_number : Nat → Int64) (x1 : Int32) (rr : Int32) (kk' : (Nat → Int32) × (Nat → Int32) × (Nat → Int64)) (hf : fX5_book v_s v_statuses v_pile v_bitsOf v_sizeOf v_number x1 = some (rr, kk')) : Met l yX5_book (Cond.code yX5_book cX5_book 5 (some .int) :: wA) rX5_book (q_Pre D cI cJ cZ cS tb [.ref a_t, .int x1] sz (wX5_book cI cJ cZ cS a_t a_s a_keptS a_statuses a_pile a_tape a_steps a_wish a_mark a_bitsOf a_sizeOf a_number a_moved v_isKept v_taped v_at v_fault v_laid v_open v_s v_statuses v_pile v_bitsOf v_sizeOf v_number)) (q_Ri D rr (va_A (wX5_book cI cJ cZ cS a_t a_s a_keptS a_statuses a_pile a_tape a_steps a_wish a_mark a_bitsOf a_sizeOf a_number a_moved v_isKept v_taped v_at v_fault v_laid v_open v_s v_statuses v_pile v_bitsOf v_sizeOf v_number) sz) ((fun k : (Nat → Int32) × (Nat → Int32) × (Nat → Int64) => (wX5_book cI cJ cZ cS a_t a_s a_keptS a_statuses a_pile a_tape a_steps a_wish a_mark a_bitsOf a_sizeOf a_number a_moved v_isKept v_taped v_at v_fault v_laid v_open v_s k.1 k.2.1 v_bitsOf v_sizeOf k.2.2)) kk')) 0 0 (va_A (wX5_book cI cJ cZ cS a_t a_s a_keptS a_statuses a_pile a_tape a_steps a_wish a_mark a_bitsOf a_sizeOf a_number a_moved v_isKept v_taped v_at v_fault v_laid v_open v_s v_statuses v_pile v_bitsOf v_sizeOf v_number) sz) := by
  refine q_enter (Qf := fun A => (q_Ri D rr A ((fun k : (Nat → Int32) × (Nat → Int32) × (Nat → Int64) => (wX5_book cI cJ cZ cS a_t a_s a_keptS a_statuses a_pile a_tape a_steps a_wish a_mark a_bitsOf a_sizeOf a_number a_moved v_isKept v_taped v_at v_fault v_laid v_open v_s k.1 k.2.1 v_bitsOf v_sizeOf k.2.2)) kk'))) (by decide) rfl (Nat.le_of_ble_eq_true rfl) ?_
  intro p e s m below meth c A ls fx hname h hl
  have hx := fx.1
  have hb := fx.2.1
  have hl : lv_has ls 5 [(0, .ref a_t), (1, .int x1)] := hl
  generalize h9 : s.heap = H at h ⊢
  clear h9
  generalize h9 : ([] : List Loc) = locs at h ⊢
  clear h9
  unfold fX5_book at hf
  refine lv_aload_n hx hb dX5_book_0 rfl (lv_at hl 0 rfl) ?_
  refine lv_iload_n hx hb dX5_book_1 rfl (lv_at hl 1 rfl) ?_
  obtain ⟨r9, k9, hg, hf⟩ := bR_inv hf
  refine q_ci (rest := []) (ws' := (wX5_book cI cJ cZ cS a_t a_s a_keptS a_statuses a_pile a_tape a_steps a_wish a_mark a_bitsOf a_sizeOf a_number a_moved v_isKept v_taped v_at v_fault v_laid v_open v_s v_statuses v_pile v_bitsOf v_sizeOf v_number)) (w1 := (wX5_wrong cI cJ cZ cS a_t a_s a_keptS a_statuses a_pile a_tape a_steps a_wish a_mark a_bitsOf a_sizeOf a_number a_moved v_isKept v_taped v_at v_fault v_laid v_open v_bitsOf)) fx h [0, 4] rfl rfl rfl rfl (q_runV fx h hl.1 [0, 4] rfl rfl (tX5_wrong l D cI cJ cZ cS tb a_t a_s a_keptS a_statuses a_pile a_tape a_steps a_wish a_mark a_bitsOf a_sizeOf a_number a_moved H.size v_isKept v_taped v_at v_fault v_laid v_open v_bitsOf x1 r9 k9 hg) mvX5_wrong k_967 ⟨rfl, rfl⟩ ⟨Nat.le_of_ble_eq_true rfl, Nat.le_of_ble_eq_true rfl⟩ rfl rfl rfl rfl (Nat.le_of_ble_eq_true rfl) dX5_book_2 ⟨Nat.le_of_ble_eq_true rfl, Nat.le_of_ble_eq_true rfl⟩) (fun H locs h => ?_)
  refine lv_istore_n (lv' := [(2, .int r9), (0, .ref a_t), (1, .int x1)]) hx hb dX5_book_5 rfl hl (by decide) rfl (fun ls hl => ?_)
  refine lv_iload_n hx hb dX5_book_6 rfl (lv_at hl 0 rfl) ?_
  refine lv_if_eq (tgt := 16) hx hb dX5_book_7 (by decide) (fun c10 => ?_) (fun c10 => ?_)
  · have hf := it_t c10 hf
    refine lv_aload_n hx hb dX5_book_16 rfl (lv_at hl 1 rfl) ?_
    refine q_get (v := .ref a_s) fx inX5 h 0 rfl rfl 0 (by decide) k_636 rfl dX5_book_17 ?_
    refine lv_iconst (v := 1) hx hb dX5_book_20 (by decide) ?_
    refine q_ialdK fx h 1 rfl 1 (vinK (by decide)) (by decide) dX5_book_21 ?_
    obtain ⟨u11, eu11, hf⟩ := nm_inv hf
    refine lv_eqi eu11 ?_
    refine lv_istore_n (lv' := [(3, .int u11), (2, .int r9), (0, .ref a_t), (1, .int x1)]) hx hb dX5_book_22 rfl hl (by decide) rfl (fun ls hl => ?_)
    refine lv_iconst (v := 0) hx hb dX5_book_23 (by decide) ?_
    refine lv_istore (lv' := [(4, .int 0), (3, .int u11), (2, .int r9), (0, .ref a_t), (1, .int x1)]) hx hb dX5_book_24 hl (by decide) rfl (fun ls hl => ?_)
    exact EX5_book_26 fx qF h (lv_sub hl [3, 4, 1, 0] rfl) hf
  have hf := it_f c10 hf
  refine lv_aload_n hx hb dX5_book_10 rfl (lv_at hl 1 rfl) ?_
  refine lv_iload_n hx hb dX5_book_11 rfl (lv_at hl 0 rfl) ?_
  obtain ⟨r12, k12, hg, hf⟩ := bR_inv hf
  refine q_ci (rest := []) (ws' := (wX5_book cI cJ cZ cS a_t a_s a_keptS a_statuses a_pile a_tape a_steps a_wish a_mark a_bitsOf a_sizeOf a_number a_moved v_isKept v_taped v_at v_fault v_laid v_open v_s k12 v_pile v_bitsOf v_sizeOf v_number)) (w1 := (wX5_finds cI cJ cZ cS a_t a_s a_keptS a_statuses a_pile a_tape a_steps a_wish a_mark a_bitsOf a_sizeOf a_number a_moved v_isKept v_taped v_at v_fault v_laid v_open k12)) fx h [0, 2] rfl rfl rfl rfl (q_runV fx h hl.1 [0, 2] rfl rfl (tX5_finds l D cI cJ cZ cS tb a_t a_s a_keptS a_statuses a_pile a_tape a_steps a_wish a_mark a_bitsOf a_sizeOf a_number a_moved H.size v_isKept v_taped v_at v_fault v_laid v_open v_statuses r9 r12 k12 hg) mvX5_finds k_702 ⟨rfl, rfl⟩ ⟨Nat.le_of_ble_eq_true rfl, Nat.le_of_ble_eq_true rfl⟩ rfl rfl rfl rfl (Nat.le_of_ble_eq_true rfl) dX5_book_12 ⟨Nat.le_of_ble_eq_true rfl, Nat.le_of_ble_eq_true rfl⟩) (fun H locs h => ?_)
  exact q_reti (fun k : (Nat → Int32) × (Nat → Int32) × (Nat → Int64) => (wX5_book cI cJ cZ cS a_t a_s a_keptS a_statuses a_pile a_tape a_steps a_wish a_mark a_bitsOf a_sizeOf a_number a_moved v_isKept v_taped v_at v_fault v_laid v_open v_s k.1 k.2.1 v_bitsOf v_sizeOf k.2.2)) fx hf h dX5_book_15
/-! X5_isRow -/
abbrev wX5_isRow (cI cJ cZ cS : ClassId) (a_t a_s a_keptS a_statuses a_pile a_tape a_steps a_wish a_mark a_bitsOf a_sizeOf a_number a_moved : Nat) (v_isKept : Int32) (v_taped : Int32) (v_at : Int32) (v_fault : Int32) (v_laid : Int32) (v_open : Int32) (v_s : Nat → Int32) (v_pile : Nat → Int32) (v_sizeOf : Nat → Int32) (v_number : Nat → Int64) : va_W := [(a_t, .inr (5, [.ref a_s, .ref a_keptS, .ref a_statuses, .int v_isKept, .ref a_pile, .ref a_tape, .ref a_steps, .int v_taped, .int v_at, .int v_fault, .int v_laid, .int v_open, .ref a_wish, .ref a_mark, .ref a_bitsOf, .ref a_sizeOf, .ref a_number, .ref a_moved])), (a_s, .inl (cI, 538, .inl v_s)), (a_pile, .inl (cZ, 64, .inl v_pile)), (a_sizeOf, .inl (cI, 4, .inl v_sizeOf)), (a_number, .inl (cJ, 160, .inr (.inl v_number)))]
abbrev rX5_isRow : Room := { frames := 5, cells := 0, slots := 0, locals := 116 }
def fX5_isRow_62 (v_s : Nat → Int32) (v_sizeOf : Nat → Int32) (v_number : Nat → Int64) (ag2 : (Nat → Int32) → Int32 → Int32 → Option (Int32 × (Nat → Int32))) (v_pile : Nat → Int32) (y1 : Int32) (y2 : Int32) : Option (Int32 × (Nat → Int32)) :=
  nm (y2 + 1) (fun u1 =>
  ag2 v_pile y1 u1)
set_option maxRecDepth 100000 in
set_option maxHeartbeats 4000000 in
theorem LX5_isRow_62 {p : Program} {l : Launch} {e : Env} {s : State} {m : MethodId} {args : Array Value} {below : List Frame} {meth : Method} {c : Code} {D : va_G} {cI cJ cZ cS : ClassId} {tb : Nat} {A : Nat → Prop} {a_t a_s a_keptS a_statuses a_pile a_tape a_steps a_wish a_mark a_bitsOf a_sizeOf a_number a_moved : Nat} {v_isKept : Int32} {v_taped : Int32} {v_at : Int32} {v_fault : Int32} {v_laid : Int32} {v_open : Int32} {v_s : Nat → Int32} {v_sizeOf : Nat → Int32} {v_number : Nat → Int64} {rr : Int32} {kk' : (Nat → Int32)} (fx : q_Fx p s m args meth c cX5_isRow 5 RX5 (some .boolean) D cI cJ cZ cS tb A) {ag2 : (Nat → Int32) → Int32 → Int32 → Option (Int32 × (Nat → Int32))} (hag2 : ∀ {v_pile : Nat → Int32} {y1 : Int32} {y2 : Int32} {H : Heap} {locs : List Loc} {ls : Array Slot}, q_H D A s (wX5_isRow cI cJ cZ cS a_t a_s a_keptS a_statuses a_pile a_tape a_steps a_wish a_mark a_bitsOf a_sizeOf a_number a_moved v_isKept v_taped v_at v_fault v_laid v_open v_s v_pile v_sizeOf v_number) H locs → lv_has ls 5 [(0, .ref a_t), (1, .int y1), (2, .int y2)] → ag2 v_pile y1 y2 = some (rr, kk') → W p l e rX5_isRow s m args below meth c H locs 0 0 (MQ below (q_Ri D rr A ((fun k : (Nat → Int32) => (wX5_isRow cI cJ cZ cS a_t a_s a_keptS a_statuses a_pile a_tape a_steps a_wish a_mark a_bitsOf a_sizeOf a_number a_moved v_isKept v_taped v_at v_fault v_laid v_open v_s k v_sizeOf v_number)) kk')) args s 0 0 A) (F0 m 2 ls [])) : ∀ {v_pile : Nat → Int32} {y1 : Int32} {y2 : Int32} {H : Heap} {locs : List Loc} {ls : Array Slot}, q_H D A s (wX5_isRow cI cJ cZ cS a_t a_s a_keptS a_statuses a_pile a_tape a_steps a_wish a_mark a_bitsOf a_sizeOf a_number a_moved v_isKept v_taped v_at v_fault v_laid v_open v_s v_pile v_sizeOf v_number) H locs → lv_has ls 5 [(0, .ref a_t), (1, .int y1), (2, .int y2)] → fX5_isRow_62 v_s v_sizeOf v_number ag2 v_pile y1 y2 = some (rr, kk') → W p l e rX5_isRow s m args below meth c H locs 0 0 (MQ below (q_Ri D rr A ((fun k : (Nat → Int32) => (wX5_isRow cI cJ cZ cS a_t a_s a_keptS a_statuses a_pile a_tape a_steps a_wish a_mark a_bitsOf a_sizeOf a_number a_moved v_isKept v_taped v_at v_fault v_laid v_open v_s k v_sizeOf v_number)) kk')) args s 0 0 A) (F0 m 62 ls []) := by
  intro v_pile y1 y2 H locs ls h hl hf
  have hx := fx.1
  have hb := fx.2.1
  unfold fX5_isRow_62 at hf
  obtain ⟨u1, eu1, hf⟩ := nm_inv hf
  refine lv_iinc (v := u1) (lv' := [(2, .int u1), (0, .ref a_t), (1, .int y1)]) hx hb dX5_isRow_62 hl (k := 2) rfl (by rw [eu1]; rfl) (by decide) rfl (fun ls hl => ?_)
  refine lv_goto (tgt := 2) hx hb dX5_isRow_65 (by decide) ?_
  exact hag2 h (lv_sub hl [1, 2, 0] rfl) hf
def fX5_isRow_2 (v_s : Nat → Int32) (v_sizeOf : Nat → Int32) (v_number : Nat → Int64) (ag2 : (Nat → Int32) → Int32 → Int32 → Option (Int32 × (Nat → Int32))) (v_pile : Nat → Int32) (y1 : Int32) (y2 : Int32) : Option (Int32 × (Nat → Int32)) :=
  gIn y1 4 (
  (if (v_sizeOf y1.toNatClampNeg) ≤ y2 then (
  some (1, v_pile))
  else (
  gIn ((40 * y1) + y2) 160 (
  nm (v_number ((40 * y1) + y2).toNatClampNeg) (fun u5 =>
  bR (fX5_isList v_s u5) (fun r6 k6 =>
  (if r6 = 0 then (
  some (0, v_pile))
  else (
  (if y2 ≤ 0 then (
  fX5_isRow_62 v_s v_sizeOf v_number ag2 v_pile y1 y2)
  else (
  gIn (((40 * y1) + y2) - 1) 160 (
  bR (fX5_would v_s v_pile ((v_number (((40 * y1) + y2) - 1).toNatClampNeg).toInt32)) (fun r10 k10 =>
  (if (lg_cmp u5 (r10.toInt64)) = 0 then (
  fX5_isRow_62 v_s v_sizeOf v_number ag2 k10 y1 y2)
  else (
  some (0, k10)))))))))))))))
set_option maxRecDepth 100000 in
set_option maxHeartbeats 4000000 in
theorem LX5_isRow_2 {p : Program} {l : Launch} {e : Env} {s : State} {m : MethodId} {args : Array Value} {below : List Frame} {meth : Method} {c : Code} {D : va_G} {cI cJ cZ cS : ClassId} {tb : Nat} {A : Nat → Prop} {a_t a_s a_keptS a_statuses a_pile a_tape a_steps a_wish a_mark a_bitsOf a_sizeOf a_number a_moved : Nat} {v_isKept : Int32} {v_taped : Int32} {v_at : Int32} {v_fault : Int32} {v_laid : Int32} {v_open : Int32} {v_s : Nat → Int32} {v_sizeOf : Nat → Int32} {v_number : Nat → Int64} {rr : Int32} {kk' : (Nat → Int32)} (fx : q_Fx p s m args meth c cX5_isRow 5 RX5 (some .boolean) D cI cJ cZ cS tb A) {ag2 : (Nat → Int32) → Int32 → Int32 → Option (Int32 × (Nat → Int32))} (hag2 : ∀ {v_pile : Nat → Int32} {y1 : Int32} {y2 : Int32} {H : Heap} {locs : List Loc} {ls : Array Slot}, q_H D A s (wX5_isRow cI cJ cZ cS a_t a_s a_keptS a_statuses a_pile a_tape a_steps a_wish a_mark a_bitsOf a_sizeOf a_number a_moved v_isKept v_taped v_at v_fault v_laid v_open v_s v_pile v_sizeOf v_number) H locs → lv_has ls 5 [(0, .ref a_t), (1, .int y1), (2, .int y2)] → ag2 v_pile y1 y2 = some (rr, kk') → W p l e rX5_isRow s m args below meth c H locs 0 0 (MQ below (q_Ri D rr A ((fun k : (Nat → Int32) => (wX5_isRow cI cJ cZ cS a_t a_s a_keptS a_statuses a_pile a_tape a_steps a_wish a_mark a_bitsOf a_sizeOf a_number a_moved v_isKept v_taped v_at v_fault v_laid v_open v_s k v_sizeOf v_number)) kk')) args s 0 0 A) (F0 m 2 ls [])) : ∀ {v_pile : Nat → Int32} {y1 : Int32} {y2 : Int32} {H : Heap} {locs : List Loc} {ls : Array Slot}, q_H D A s (wX5_isRow cI cJ cZ cS a_t a_s a_keptS a_statuses a_pile a_tape a_steps a_wish a_mark a_bitsOf a_sizeOf a_number a_moved v_isKept v_taped v_at v_fault v_laid v_open v_s v_pile v_sizeOf v_number) H locs → lv_has ls 5 [(0, .ref a_t), (1, .int y1), (2, .int y2)] → fX5_isRow_2 v_s v_sizeOf v_number ag2 v_pile y1 y2 = some (rr, kk') → W p l e rX5_isRow s m args below meth c H locs 0 0 (MQ below (q_Ri D rr A ((fun k : (Nat → Int32) => (wX5_isRow cI cJ cZ cS a_t a_s a_keptS a_statuses a_pile a_tape a_steps a_wish a_mark a_bitsOf a_sizeOf a_number a_moved v_isKept v_taped v_at v_fault v_laid v_open v_s k v_sizeOf v_number)) kk')) args s 0 0 A) (F0 m 2 ls []) := by
  intro v_pile y1 y2 H locs ls h hl hf
  have hx := fx.1
  have hb := fx.2.1
  unfold fX5_isRow_2 at hf
  refine lv_iload_n hx hb dX5_isRow_2 rfl (lv_at hl 2 rfl) ?_
  refine lv_aload_n hx hb dX5_isRow_3 rfl (lv_at hl 0 rfl) ?_
  refine q_get (v := .ref a_sizeOf) fx inX5 h 0 rfl rfl 15 (by decide) k_651 rfl dX5_isRow_4 ?_
  refine lv_iload_n hx hb dX5_isRow_7 rfl (lv_at hl 1 rfl) ?_
  obtain ⟨i2, hf⟩ := gIn_inv hf
  refine q_iald fx h 3 rfl i2 dX5_isRow_8 ?_
  refine lv_icmp_ge (tgt := 68) hx hb dX5_isRow_9 (by decide) (fun c3 => ?_) (fun c3 => ?_)
  · have hf := it_t c3 hf
    refine lv_iconst (v := 1) hx hb dX5_isRow_68 (by decide) ?_
    exact q_retz (fun k : (Nat → Int32) => (wX5_isRow cI cJ cZ cS a_t a_s a_keptS a_statuses a_pile a_tape a_steps a_wish a_mark a_bitsOf a_sizeOf a_number a_moved v_isKept v_taped v_at v_fault v_laid v_open v_s k v_sizeOf v_number)) fx rfl hf h dX5_isRow_69
  have hf := it_f c3 hf
  refine lv_aload_n hx hb dX5_isRow_12 rfl (lv_at hl 0 rfl) ?_
  refine q_get (v := .ref a_number) fx inX5 h 0 rfl rfl 16 (by decide) k_652 rfl dX5_isRow_13 ?_
  refine lv_bipush (v := 40) hx hb dX5_isRow_16 (by decide) ?_
  refine lv_iload_n hx hb dX5_isRow_18 rfl (lv_at hl 1 rfl) ?_
  refine lv_imul hx hb dX5_isRow_19 ?_
  refine lv_iload_n hx hb dX5_isRow_20 rfl (lv_at hl 2 rfl) ?_
  refine lv_iadd hx hb dX5_isRow_21 ?_
  obtain ⟨i4, hf⟩ := gIn_inv hf
  refine q_lald fx h 4 rfl i4 dX5_isRow_22 ?_
  obtain ⟨u5, eu5, hf⟩ := nm_inv hf
  refine lv_eql eu5 ?_
  refine lv_lstore_n (lv' := [(3, .long u5), (0, .ref a_t), (1, .int y1), (2, .int y2)]) hx hb dX5_isRow_23 rfl hl (by decide) rfl (fun ls hl => ?_)
  refine lv_aload_n hx hb dX5_isRow_24 rfl (lv_at hl 1 rfl) ?_
  refine lv_lload_n hx hb dX5_isRow_25 rfl (lv_at hl 0 rfl) ?_
  obtain ⟨r6, k6, hg, hf⟩ := bR_inv hf
  refine q_ci (rest := []) (ws' := (wX5_isRow cI cJ cZ cS a_t a_s a_keptS a_statuses a_pile a_tape a_steps a_wish a_mark a_bitsOf a_sizeOf a_number a_moved v_isKept v_taped v_at v_fault v_laid v_open v_s v_pile v_sizeOf v_number)) (w1 := (wX5_isList cI cJ cZ cS a_t a_s a_keptS a_statuses a_pile a_tape a_steps a_wish a_mark a_bitsOf a_sizeOf a_number a_moved v_isKept v_taped v_at v_fault v_laid v_open v_s)) fx h [0, 1] rfl rfl rfl rfl (q_runV fx h hl.1 [0, 1] rfl rfl (tX5_isList l D cI cJ cZ cS tb a_t a_s a_keptS a_statuses a_pile a_tape a_steps a_wish a_mark a_bitsOf a_sizeOf a_number a_moved H.size v_isKept v_taped v_at v_fault v_laid v_open v_s u5 r6 k6 hg) mvX5_isList k_806 ⟨rfl, rfl⟩ ⟨Nat.le_of_ble_eq_true rfl, Nat.le_of_ble_eq_true rfl⟩ rfl rfl rfl rfl (Nat.le_of_ble_eq_true rfl) dX5_isRow_26 ⟨Nat.le_of_ble_eq_true rfl, Nat.le_of_ble_eq_true rfl⟩) (fun H locs h => ?_)
  refine lv_if_eq (tgt := 60) hx hb dX5_isRow_29 (by decide) (fun c7 => ?_) (fun c7 => ?_)
  · have hf := it_t c7 hf
    refine lv_iconst (v := 0) hx hb dX5_isRow_60 (by decide) ?_
    exact q_retz (fun k : (Nat → Int32) => (wX5_isRow cI cJ cZ cS a_t a_s a_keptS a_statuses a_pile a_tape a_steps a_wish a_mark a_bitsOf a_sizeOf a_number a_moved v_isKept v_taped v_at v_fault v_laid v_open v_s k v_sizeOf v_number)) fx rfl hf h dX5_isRow_61
  have hf := it_f c7 hf
  refine lv_iload_n hx hb dX5_isRow_32 rfl (lv_at hl 3 rfl) ?_
  refine lv_if_le (tgt := 62) hx hb dX5_isRow_33 (by decide) (fun c8 => ?_) (fun c8 => ?_)
  · have hf := it_t c8 hf
    exact LX5_isRow_62 fx hag2 h (lv_sub hl [1, 2, 3] rfl) hf
  have hf := it_f c8 hf
  refine lv_lload_n hx hb dX5_isRow_36 rfl (lv_at hl 0 rfl) ?_
  refine lv_aload_n hx hb dX5_isRow_37 rfl (lv_at hl 1 rfl) ?_
  refine lv_aload_n hx hb dX5_isRow_38 rfl (lv_at hl 1 rfl) ?_
  refine q_get (v := .ref a_number) fx inX5 h 0 rfl rfl 16 (by decide) k_652 rfl dX5_isRow_39 ?_
  refine lv_bipush (v := 40) hx hb dX5_isRow_42 (by decide) ?_
  refine lv_iload_n hx hb dX5_isRow_44 rfl (lv_at hl 2 rfl) ?_
  refine lv_imul hx hb dX5_isRow_45 ?_
  refine lv_iload_n hx hb dX5_isRow_46 rfl (lv_at hl 3 rfl) ?_
  refine lv_iadd hx hb dX5_isRow_47 ?_
  refine lv_iconst (v := 1) hx hb dX5_isRow_48 (by decide) ?_
  refine lv_isub hx hb dX5_isRow_49 ?_
  obtain ⟨i9, hf⟩ := gIn_inv hf
  refine q_lald fx h 4 rfl i9 dX5_isRow_50 ?_
  refine lv_l2i hx hb dX5_isRow_51 rfl ?_
  obtain ⟨r10, k10, hg, hf⟩ := bR_inv hf
  refine q_ci (rest := [.long u5]) (ws' := (wX5_isRow cI cJ cZ cS a_t a_s a_keptS a_statuses a_pile a_tape a_steps a_wish a_mark a_bitsOf a_sizeOf a_number a_moved v_isKept v_taped v_at v_fault v_laid v_open v_s k10 v_sizeOf v_number)) (w1 := (wX5_would cI cJ cZ cS a_t a_s a_keptS a_statuses a_pile a_tape a_steps a_wish a_mark a_bitsOf a_sizeOf a_number a_moved v_isKept v_taped v_at v_fault v_laid v_open v_s k10)) fx h [0, 1, 2] rfl rfl rfl rfl (q_runV fx h hl.1 [0, 1, 2] rfl rfl (tX5_would l D cI cJ cZ cS tb a_t a_s a_keptS a_statuses a_pile a_tape a_steps a_wish a_mark a_bitsOf a_sizeOf a_number a_moved H.size v_isKept v_taped v_at v_fault v_laid v_open v_s v_pile ((v_number (((40 * y1) + y2) - 1).toNatClampNeg).toInt32) r10 k10 hg) mvX5_would k_818 ⟨rfl, rfl⟩ ⟨Nat.le_of_ble_eq_true rfl, Nat.le_of_ble_eq_true rfl⟩ rfl rfl rfl rfl (Nat.le_of_ble_eq_true rfl) dX5_isRow_52 ⟨Nat.le_of_ble_eq_true rfl, Nat.le_of_ble_eq_true rfl⟩) (fun H locs h => ?_)
  refine lv_i2l hx hb dX5_isRow_55 rfl ?_
  refine W.lcmp hx hb dX5_isRow_56 ?_
  refine lv_if_eq (tgt := 62) hx hb dX5_isRow_57 (by decide) (fun c11 => ?_) (fun c11 => ?_)
  · have hf := it_t c11 hf
    exact LX5_isRow_62 fx hag2 h (lv_sub hl [1, 2, 3] rfl) hf
  have hf := it_f c11 hf
  refine lv_iconst (v := 0) hx hb dX5_isRow_60 (by decide) ?_
  exact q_retz (fun k : (Nat → Int32) => (wX5_isRow cI cJ cZ cS a_t a_s a_keptS a_statuses a_pile a_tape a_steps a_wish a_mark a_bitsOf a_sizeOf a_number a_moved v_isKept v_taped v_at v_fault v_laid v_open v_s k v_sizeOf v_number)) fx rfl hf h dX5_isRow_61
set_option maxRecDepth 100000 in
theorem EX5_isRow_2 {p : Program} {l : Launch} {e : Env} {s : State} {m : MethodId} {args : Array Value} {below : List Frame} {meth : Method} {c : Code} {D : va_G} {cI cJ cZ cS : ClassId} {tb : Nat} {A : Nat → Prop} {a_t a_s a_keptS a_statuses a_pile a_tape a_steps a_wish a_mark a_bitsOf a_sizeOf a_number a_moved : Nat} {v_isKept : Int32} {v_taped : Int32} {v_at : Int32} {v_fault : Int32} {v_laid : Int32} {v_open : Int32} {v_s : Nat → Int32} {v_sizeOf : Nat → Int32} {v_number : Nat → Int64} {rr : Int32} {kk' : (Nat → Int32)} (fx : q_Fx p s m args meth c cX5_isRow 5 RX5 (some .boolean) D cI cJ cZ cS tb A) : ∀ (n : Nat), ∀ {v_pile : Nat → Int32} {y1 : Int32} {y2 : Int32} {H : Heap} {locs : List Loc} {ls : Array Slot}, q_H D A s (wX5_isRow cI cJ cZ cS a_t a_s a_keptS a_statuses a_pile a_tape a_steps a_wish a_mark a_bitsOf a_sizeOf a_number a_moved v_isKept v_taped v_at v_fault v_laid v_open v_s v_pile v_sizeOf v_number) H locs → lv_has ls 5 [(0, .ref a_t), (1, .int y1), (2, .int y2)] → ll3 (fX5_isRow_2 v_s v_sizeOf v_number) n v_pile y1 y2 = some (rr, kk') → W p l e rX5_isRow s m args below meth c H locs 0 0 (MQ below (q_Ri D rr A ((fun k : (Nat → Int32) => (wX5_isRow cI cJ cZ cS a_t a_s a_keptS a_statuses a_pile a_tape a_steps a_wish a_mark a_bitsOf a_sizeOf a_number a_moved v_isKept v_taped v_at v_fault v_laid v_open v_s k v_sizeOf v_number)) kk')) args s 0 0 A) (F0 m 2 ls []) := by
  intro n
  induction n with
  | zero => intro v_pile y1 y2 H locs ls h hl hf; exact (ll3_z hf).elim
  | succ n ih => intro v_pile y1 y2 H locs ls h hl hf; exact LX5_isRow_2 fx ih h hl (ll3_s hf)
def fX5_isRow (v_s : Nat → Int32) (v_pile : Nat → Int32) (v_sizeOf : Nat → Int32) (v_number : Nat → Int64) (x1 : Int32) : Option (Int32 × (Nat → Int32)) :=
  ll3 (fX5_isRow_2 v_s v_sizeOf v_number) qF v_pile x1 0
set_option maxRecDepth 100000 in
set_option maxHeartbeats 4000000 in
theorem tX5_isRow (l : Launch) (D : va_G) (cI cJ cZ cS : ClassId) (tb : Nat) (a_t a_s a_keptS a_statuses a_pile a_tape a_steps a_wish a_mark a_bitsOf a_sizeOf a_number a_moved : Nat) (sz : Nat) (v_isKept : Int32) (v_taped : Int32) (v_at : Int32) (v_fault : Int32) (v_laid : Int32) (v_open : Int32) (v_s : Nat → Int32) (v_pile : Nat → Int32) (v_sizeOf : Nat → Int32) (v_number : Nat → Int64) (x1 : Int32) (rr : Int32) (kk' : (Nat → Int32)) (hf : fX5_isRow v_s v_pile v_sizeOf v_number x1 = some (rr, kk')) : Met l yX5_isRow (Cond.code yX5_isRow cX5_isRow 5 (some .boolean) :: wA) rX5_isRow (q_Pre D cI cJ cZ cS tb [.ref a_t, .int x1] sz (wX5_isRow cI cJ cZ cS a_t a_s a_keptS a_statuses a_pile a_tape a_steps a_wish a_mark a_bitsOf a_sizeOf a_number a_moved v_isKept v_taped v_at v_fault v_laid v_open v_s v_pile v_sizeOf v_number)) (q_Ri D rr (va_A (wX5_isRow cI cJ cZ cS a_t a_s a_keptS a_statuses a_pile a_tape a_steps a_wish a_mark a_bitsOf a_sizeOf a_number a_moved v_isKept v_taped v_at v_fault v_laid v_open v_s v_pile v_sizeOf v_number) sz) ((fun k : (Nat → Int32) => (wX5_isRow cI cJ cZ cS a_t a_s a_keptS a_statuses a_pile a_tape a_steps a_wish a_mark a_bitsOf a_sizeOf a_number a_moved v_isKept v_taped v_at v_fault v_laid v_open v_s k v_sizeOf v_number)) kk')) 0 0 (va_A (wX5_isRow cI cJ cZ cS a_t a_s a_keptS a_statuses a_pile a_tape a_steps a_wish a_mark a_bitsOf a_sizeOf a_number a_moved v_isKept v_taped v_at v_fault v_laid v_open v_s v_pile v_sizeOf v_number) sz) := by
  refine q_enter (Qf := fun A => (q_Ri D rr A ((fun k : (Nat → Int32) => (wX5_isRow cI cJ cZ cS a_t a_s a_keptS a_statuses a_pile a_tape a_steps a_wish a_mark a_bitsOf a_sizeOf a_number a_moved v_isKept v_taped v_at v_fault v_laid v_open v_s k v_sizeOf v_number)) kk'))) (by decide) rfl (Nat.le_of_ble_eq_true rfl) ?_
  intro p e s m below meth c A ls fx hname h hl
  have hx := fx.1
  have hb := fx.2.1
  have hl : lv_has ls 5 [(0, .ref a_t), (1, .int x1)] := hl
  generalize h9 : s.heap = H at h ⊢
  clear h9
  generalize h9 : ([] : List Loc) = locs at h ⊢
  clear h9
  unfold fX5_isRow at hf
  refine lv_iconst (v := 0) hx hb dX5_isRow_0 (by decide) ?_
  refine lv_istore_n (lv' := [(2, .int 0), (0, .ref a_t), (1, .int x1)]) hx hb dX5_isRow_1 rfl hl (by decide) rfl (fun ls hl => ?_)
  exact EX5_isRow_2 fx qF h (lv_sub hl [1, 2, 0] rfl) hf
/-! X5_read -/
abbrev wX5_read (cI cJ cZ cS : ClassId) (a_t a_s a_keptS a_statuses a_pile a_tape a_steps a_wish a_mark a_bitsOf a_sizeOf a_number a_moved : Nat) (v_isKept : Int32) (v_taped : Int32) (v_at : Int32) (v_fault : Int32) (v_laid : Int32) (v_open : Int32) (v_s : Nat → Int32) (v_statuses : Nat → Int32) (v_pile : Nat → Int32) (v_bitsOf : Nat → Int32) (v_sizeOf : Nat → Int32) (v_number : Nat → Int64) : va_W := [(a_t, .inr (5, [.ref a_s, .ref a_keptS, .ref a_statuses, .int v_isKept, .ref a_pile, .ref a_tape, .ref a_steps, .int v_taped, .int v_at, .int v_fault, .int v_laid, .int v_open, .ref a_wish, .ref a_mark, .ref a_bitsOf, .ref a_sizeOf, .ref a_number, .ref a_moved])), (a_s, .inl (cI, 538, .inl v_s)), (a_statuses, .inl (cI, 7, .inl v_statuses)), (a_pile, .inl (cZ, 64, .inl v_pile)), (a_bitsOf, .inl (cI, 4, .inl v_bitsOf)), (a_sizeOf, .inl (cI, 4, .inl v_sizeOf)), (a_number, .inl (cJ, 160, .inr (.inl v_number)))]
abbrev rX5_read : Room := { frames := 6, cells := 0, slots := 0, locals := 140 }
def fX5_read_78 (v_bitsOf : Nat → Int32) (v_sizeOf : Nat → Int32) (v_number : Nat → Int64) (ag21 : (Nat → Int32) → (Nat → Int32) → (Nat → Int32) → Int32 → Int32 → Int32 → Option (Int32 × (Nat → Int32) × (Nat → Int32) × (Nat → Int32))) (ag44 : (Nat → Int32) → (Nat → Int32) → (Nat → Int32) → Int32 → Int32 → Int32 → Int32 → Int32 → Option (Int32 × (Nat → Int32) × (Nat → Int32) × (Nat → Int32))) (v_s : Nat → Int32) (v_statuses : Nat → Int32) (v_pile : Nat → Int32) (s0 : Int32) (s1 : Int32) (y1 : Int32) (y4 : Int32) (y5 : Int32) (y6 : Int32) : Option (Int32 × (Nat → Int32) × (Nat → Int32) × (Nat → Int32)) :=
  nm (s0 + s1) (fun u1 =>
  nm (y6 + 1) (fun u2 =>
  ag44 v_s v_statuses v_pile y1 u1 y4 y5 u2))
set_option maxRecDepth 100000 in
set_option maxHeartbeats 4000000 in
theorem LX5_read_78 {p : Program} {l : Launch} {e : Env} {s : State} {m : MethodId} {args : Array Value} {below : List Frame} {meth : Method} {c : Code} {D : va_G} {cI cJ cZ cS : ClassId} {tb : Nat} {A : Nat → Prop} {a_t a_s a_keptS a_statuses a_pile a_tape a_steps a_wish a_mark a_bitsOf a_sizeOf a_number a_moved : Nat} {v_isKept : Int32} {v_taped : Int32} {v_at : Int32} {v_fault : Int32} {v_laid : Int32} {v_open : Int32} {v_bitsOf : Nat → Int32} {v_sizeOf : Nat → Int32} {v_number : Nat → Int64} {rr : Int32} {kk' : (Nat → Int32) × (Nat → Int32) × (Nat → Int32)} (fx : q_Fx p s m args meth c cX5_read 7 RX5 (some .int) D cI cJ cZ cS tb A) {ag21 : (Nat → Int32) → (Nat → Int32) → (Nat → Int32) → Int32 → Int32 → Int32 → Option (Int32 × (Nat → Int32) × (Nat → Int32) × (Nat → Int32))} (hag21 : ∀ {v_s : Nat → Int32} {v_statuses : Nat → Int32} {v_pile : Nat → Int32} {y1 : Int32} {y3 : Int32} {y4 : Int32} {H : Heap} {locs : List Loc} {ls : Array Slot}, q_H D A s (wX5_read cI cJ cZ cS a_t a_s a_keptS a_statuses a_pile a_tape a_steps a_wish a_mark a_bitsOf a_sizeOf a_number a_moved v_isKept v_taped v_at v_fault v_laid v_open v_s v_statuses v_pile v_bitsOf v_sizeOf v_number) H locs → lv_has ls 7 [(0, .ref a_t), (1, .int y1), (3, .int y3), (4, .int y4)] → ag21 v_s v_statuses v_pile y1 y3 y4 = some (rr, kk') → W p l e rX5_read s m args below meth c H locs 0 0 (MQ below (q_Ri D rr A ((fun k : (Nat → Int32) × (Nat → Int32) × (Nat → Int32) => (wX5_read cI cJ cZ cS a_t a_s a_keptS a_statuses a_pile a_tape a_steps a_wish a_mark a_bitsOf a_sizeOf a_number a_moved v_isKept v_taped v_at v_fault v_laid v_open k.1 k.2.1 k.2.2 v_bitsOf v_sizeOf v_number)) kk')) args s 0 0 A) (F0 m 21 ls [])) {ag44 : (Nat → Int32) → (Nat → Int32) → (Nat → Int32) → Int32 → Int32 → Int32 → Int32 → Int32 → Option (Int32 × (Nat → Int32) × (Nat → Int32) × (Nat → Int32))} (hag44 : ∀ {v_s : Nat → Int32} {v_statuses : Nat → Int32} {v_pile : Nat → Int32} {y1 : Int32} {y3 : Int32} {y4 : Int32} {y5 : Int32} {y6 : Int32} {H : Heap} {locs : List Loc} {ls : Array Slot}, q_H D A s (wX5_read cI cJ cZ cS a_t a_s a_keptS a_statuses a_pile a_tape a_steps a_wish a_mark a_bitsOf a_sizeOf a_number a_moved v_isKept v_taped v_at v_fault v_laid v_open v_s v_statuses v_pile v_bitsOf v_sizeOf v_number) H locs → lv_has ls 7 [(0, .ref a_t), (1, .int y1), (3, .int y3), (4, .int y4), (5, .int y5), (6, .int y6)] → ag44 v_s v_statuses v_pile y1 y3 y4 y5 y6 = some (rr, kk') → W p l e rX5_read s m args below meth c H locs 0 0 (MQ below (q_Ri D rr A ((fun k : (Nat → Int32) × (Nat → Int32) × (Nat → Int32) => (wX5_read cI cJ cZ cS a_t a_s a_keptS a_statuses a_pile a_tape a_steps a_wish a_mark a_bitsOf a_sizeOf a_number a_moved v_isKept v_taped v_at v_fault v_laid v_open k.1 k.2.1 k.2.2 v_bitsOf v_sizeOf v_number)) kk')) args s 0 0 A) (F0 m 44 ls [])) : ∀ {v_s : Nat → Int32} {v_statuses : Nat → Int32} {v_pile : Nat → Int32} {s0 : Int32} {s1 : Int32} {y1 : Int32} {y4 : Int32} {y5 : Int32} {y6 : Int32} {H : Heap} {locs : List Loc} {ls : Array Slot}, q_H D A s (wX5_read cI cJ cZ cS a_t a_s a_keptS a_statuses a_pile a_tape a_steps a_wish a_mark a_bitsOf a_sizeOf a_number a_moved v_isKept v_taped v_at v_fault v_laid v_open v_s v_statuses v_pile v_bitsOf v_sizeOf v_number) H locs → lv_has ls 7 [(0, .ref a_t), (1, .int y1), (4, .int y4), (5, .int y5), (6, .int y6)] → fX5_read_78 v_bitsOf v_sizeOf v_number ag21 ag44 v_s v_statuses v_pile s0 s1 y1 y4 y5 y6 = some (rr, kk') → W p l e rX5_read s m args below meth c H locs 0 0 (MQ below (q_Ri D rr A ((fun k : (Nat → Int32) × (Nat → Int32) × (Nat → Int32) => (wX5_read cI cJ cZ cS a_t a_s a_keptS a_statuses a_pile a_tape a_steps a_wish a_mark a_bitsOf a_sizeOf a_number a_moved v_isKept v_taped v_at v_fault v_laid v_open k.1 k.2.1 k.2.2 v_bitsOf v_sizeOf v_number)) kk')) args s 0 0 A) (F0 m 78 ls [.int s1, .int s0]) := by
  intro v_s v_statuses v_pile s0 s1 y1 y4 y5 y6 H locs ls h hl hf
  have hx := fx.1
  have hb := fx.2.1
  unfold fX5_read_78 at hf
  refine lv_iadd hx hb dX5_read_78 ?_
  obtain ⟨u1, eu1, hf⟩ := nm_inv hf
  refine lv_eqi eu1 ?_
  refine lv_istore_n (lv' := [(3, .int u1), (0, .ref a_t), (1, .int y1), (4, .int y4), (5, .int y5), (6, .int y6)]) hx hb dX5_read_79 rfl hl (by decide) rfl (fun ls hl => ?_)
  obtain ⟨u2, eu2, hf⟩ := nm_inv hf
  refine lv_iinc (v := u2) (lv' := [(6, .int u2), (3, .int u1), (0, .ref a_t), (1, .int y1), (4, .int y4), (5, .int y5)]) hx hb dX5_read_80 hl (k := 5) rfl (by rw [eu2]; rfl) (by decide) rfl (fun ls hl => ?_)
  refine lv_goto (tgt := 44) hx hb dX5_read_83 (by decide) ?_
  exact hag44 h (lv_sub hl [2, 3, 1, 4, 5, 0] rfl) hf
def fX5_read_44 (v_bitsOf : Nat → Int32) (v_sizeOf : Nat → Int32) (v_number : Nat → Int64) (ag21 : (Nat → Int32) → (Nat → Int32) → (Nat → Int32) → Int32 → Int32 → Int32 → Option (Int32 × (Nat → Int32) × (Nat → Int32) × (Nat → Int32))) (ag44 : (Nat → Int32) → (Nat → Int32) → (Nat → Int32) → Int32 → Int32 → Int32 → Int32 → Int32 → Option (Int32 × (Nat → Int32) × (Nat → Int32) × (Nat → Int32))) (v_s : Nat → Int32) (v_statuses : Nat → Int32) (v_pile : Nat → Int32) (y1 : Int32) (y3 : Int32) (y4 : Int32) (y5 : Int32) (y6 : Int32) : Option (Int32 × (Nat → Int32) × (Nat → Int32) × (Nat → Int32)) :=
  (if (6 : Int32) ≤ y6 then (
  gIn (2 + (3 * y4)) 538 (
  nm (y4 + 1) (fun u5 =>
  ag21 (upd v_s (2 + (3 * y4)).toNatClampNeg y5) v_statuses v_pile y1 y3 u5)))
  else (
  gIn (2 + (3 * y4)) 538 (
  bR (fX5_isRow (upd v_s (2 + (3 * y4)).toNatClampNeg y6) v_pile v_sizeOf v_number y1) (fun r7 k7 =>
  (if r7 = 0 then (
  fX5_read_78 v_bitsOf v_sizeOf v_number ag21 ag44 (upd v_s (2 + (3 * y4)).toNatClampNeg y6) v_statuses k7 y3 0 y1 y4 y5 y6)
  else (
  fX5_read_78 v_bitsOf v_sizeOf v_number ag21 ag44 (upd v_s (2 + (3 * y4)).toNatClampNeg y6) v_statuses k7 y3 1 y1 y4 y5 y6))))))
set_option maxRecDepth 100000 in
set_option maxHeartbeats 4000000 in
theorem LX5_read_44 {p : Program} {l : Launch} {e : Env} {s : State} {m : MethodId} {args : Array Value} {below : List Frame} {meth : Method} {c : Code} {D : va_G} {cI cJ cZ cS : ClassId} {tb : Nat} {A : Nat → Prop} {a_t a_s a_keptS a_statuses a_pile a_tape a_steps a_wish a_mark a_bitsOf a_sizeOf a_number a_moved : Nat} {v_isKept : Int32} {v_taped : Int32} {v_at : Int32} {v_fault : Int32} {v_laid : Int32} {v_open : Int32} {v_bitsOf : Nat → Int32} {v_sizeOf : Nat → Int32} {v_number : Nat → Int64} {rr : Int32} {kk' : (Nat → Int32) × (Nat → Int32) × (Nat → Int32)} (fx : q_Fx p s m args meth c cX5_read 7 RX5 (some .int) D cI cJ cZ cS tb A) {ag21 : (Nat → Int32) → (Nat → Int32) → (Nat → Int32) → Int32 → Int32 → Int32 → Option (Int32 × (Nat → Int32) × (Nat → Int32) × (Nat → Int32))} (hag21 : ∀ {v_s : Nat → Int32} {v_statuses : Nat → Int32} {v_pile : Nat → Int32} {y1 : Int32} {y3 : Int32} {y4 : Int32} {H : Heap} {locs : List Loc} {ls : Array Slot}, q_H D A s (wX5_read cI cJ cZ cS a_t a_s a_keptS a_statuses a_pile a_tape a_steps a_wish a_mark a_bitsOf a_sizeOf a_number a_moved v_isKept v_taped v_at v_fault v_laid v_open v_s v_statuses v_pile v_bitsOf v_sizeOf v_number) H locs → lv_has ls 7 [(0, .ref a_t), (1, .int y1), (3, .int y3), (4, .int y4)] → ag21 v_s v_statuses v_pile y1 y3 y4 = some (rr, kk') → W p l e rX5_read s m args below meth c H locs 0 0 (MQ below (q_Ri D rr A ((fun k : (Nat → Int32) × (Nat → Int32) × (Nat → Int32) => (wX5_read cI cJ cZ cS a_t a_s a_keptS a_statuses a_pile a_tape a_steps a_wish a_mark a_bitsOf a_sizeOf a_number a_moved v_isKept v_taped v_at v_fault v_laid v_open k.1 k.2.1 k.2.2 v_bitsOf v_sizeOf v_number)) kk')) args s 0 0 A) (F0 m 21 ls [])) {ag44 : (Nat → Int32) → (Nat → Int32) → (Nat → Int32) → Int32 → Int32 → Int32 → Int32 → Int32 → Option (Int32 × (Nat → Int32) × (Nat → Int32) × (Nat → Int32))} (hag44 : ∀ {v_s : Nat → Int32} {v_statuses : Nat → Int32} {v_pile : Nat → Int32} {y1 : Int32} {y3 : Int32} {y4 : Int32} {y5 : Int32} {y6 : Int32} {H : Heap} {locs : List Loc} {ls : Array Slot}, q_H D A s (wX5_read cI cJ cZ cS a_t a_s a_keptS a_statuses a_pile a_tape a_steps a_wish a_mark a_bitsOf a_sizeOf a_number a_moved v_isKept v_taped v_at v_fault v_laid v_open v_s v_statuses v_pile v_bitsOf v_sizeOf v_number) H locs → lv_has ls 7 [(0, .ref a_t), (1, .int y1), (3, .int y3), (4, .int y4), (5, .int y5), (6, .int y6)] → ag44 v_s v_statuses v_pile y1 y3 y4 y5 y6 = some (rr, kk') → W p l e rX5_read s m args below meth c H locs 0 0 (MQ below (q_Ri D rr A ((fun k : (Nat → Int32) × (Nat → Int32) × (Nat → Int32) => (wX5_read cI cJ cZ cS a_t a_s a_keptS a_statuses a_pile a_tape a_steps a_wish a_mark a_bitsOf a_sizeOf a_number a_moved v_isKept v_taped v_at v_fault v_laid v_open k.1 k.2.1 k.2.2 v_bitsOf v_sizeOf v_number)) kk')) args s 0 0 A) (F0 m 44 ls [])) : ∀ {v_s : Nat → Int32} {v_statuses : Nat → Int32} {v_pile : Nat → Int32} {y1 : Int32} {y3 : Int32} {y4 : Int32} {y5 : Int32} {y6 : Int32} {H : Heap} {locs : List Loc} {ls : Array Slot}, q_H D A s (wX5_read cI cJ cZ cS a_t a_s a_keptS a_statuses a_pile a_tape a_steps a_wish a_mark a_bitsOf a_sizeOf a_number a_moved v_isKept v_taped v_at v_fault v_laid v_open v_s v_statuses v_pile v_bitsOf v_sizeOf v_number) H locs → lv_has ls 7 [(0, .ref a_t), (1, .int y1), (3, .int y3), (4, .int y4), (5, .int y5), (6, .int y6)] → fX5_read_44 v_bitsOf v_sizeOf v_number ag21 ag44 v_s v_statuses v_pile y1 y3 y4 y5 y6 = some (rr, kk') → W p l e rX5_read s m args below meth c H locs 0 0 (MQ below (q_Ri D rr A ((fun k : (Nat → Int32) × (Nat → Int32) × (Nat → Int32) => (wX5_read cI cJ cZ cS a_t a_s a_keptS a_statuses a_pile a_tape a_steps a_wish a_mark a_bitsOf a_sizeOf a_number a_moved v_isKept v_taped v_at v_fault v_laid v_open k.1 k.2.1 k.2.2 v_bitsOf v_sizeOf v_number)) kk')) args s 0 0 A) (F0 m 44 ls []) := by
  intro v_s v_statuses v_pile y1 y3 y4 y5 y6 H locs ls h hl hf
  have hx := fx.1
  have hb := fx.2.1
  unfold fX5_read_44 at hf
  refine lv_iload hx hb dX5_read_44 (lv_at hl 5 rfl) ?_
  refine lv_bipush (v := 6) hx hb dX5_read_46 (by decide) ?_
  refine lv_icmp_ge (tgt := 86) hx hb dX5_read_48 (by decide) (fun c3 => ?_) (fun c3 => ?_)
  · have hf := it_t c3 hf
    refine lv_aload_n hx hb dX5_read_86 rfl (lv_at hl 0 rfl) ?_
    refine q_get (v := .ref a_s) fx inX5 h 0 rfl rfl 0 (by decide) k_636 rfl dX5_read_87 ?_
    refine lv_iconst (v := 2) hx hb dX5_read_90 (by decide) ?_
    refine lv_iconst (v := 3) hx hb dX5_read_91 (by decide) ?_
    refine lv_iload hx hb dX5_read_92 (lv_at hl 3 rfl) ?_
    refine lv_imul hx hb dX5_read_94 ?_
    refine lv_iadd hx hb dX5_read_95 ?_
    refine lv_iload hx hb dX5_read_96 (lv_at hl 4 rfl) ?_
    obtain ⟨i4, hf⟩ := gIn_inv hf
    refine q_iast (ws' := (wX5_read cI cJ cZ cS a_t a_s a_keptS a_statuses a_pile a_tape a_steps a_wish a_mark a_bitsOf a_sizeOf a_number a_moved v_isKept v_taped v_at v_fault v_laid v_open (upd v_s (2 + (3 * y4)).toNatClampNeg y5) v_statuses v_pile v_bitsOf v_sizeOf v_number)) fx h 1 rfl i4 rfl dX5_read_98 (fun H locs h => ?_)
    obtain ⟨u5, eu5, hf⟩ := nm_inv hf
    refine lv_iinc (v := u5) (lv' := [(4, .int u5), (0, .ref a_t), (1, .int y1), (3, .int y3), (5, .int y5), (6, .int y6)]) hx hb dX5_read_99 hl (k := 3) rfl (by rw [eu5]; rfl) (by decide) rfl (fun ls hl => ?_)
    refine lv_goto (tgt := 21) hx hb dX5_read_102 (by decide) ?_
    exact hag21 h (lv_sub hl [1, 2, 3, 0] rfl) hf
  have hf := it_f c3 hf
  refine lv_aload_n hx hb dX5_read_51 rfl (lv_at hl 0 rfl) ?_
  refine q_get (v := .ref a_s) fx inX5 h 0 rfl rfl 0 (by decide) k_636 rfl dX5_read_52 ?_
  refine lv_iconst (v := 2) hx hb dX5_read_55 (by decide) ?_
  refine lv_iconst (v := 3) hx hb dX5_read_56 (by decide) ?_
  refine lv_iload hx hb dX5_read_57 (lv_at hl 3 rfl) ?_
  refine lv_imul hx hb dX5_read_59 ?_
  refine lv_iadd hx hb dX5_read_60 ?_
  refine lv_iload hx hb dX5_read_61 (lv_at hl 5 rfl) ?_
  obtain ⟨i6, hf⟩ := gIn_inv hf
  refine q_iast (ws' := (wX5_read cI cJ cZ cS a_t a_s a_keptS a_statuses a_pile a_tape a_steps a_wish a_mark a_bitsOf a_sizeOf a_number a_moved v_isKept v_taped v_at v_fault v_laid v_open (upd v_s (2 + (3 * y4)).toNatClampNeg y6) v_statuses v_pile v_bitsOf v_sizeOf v_number)) fx h 1 rfl i6 rfl dX5_read_63 (fun H locs h => ?_)
  refine lv_iload_n hx hb dX5_read_64 rfl (lv_at hl 2 rfl) ?_
  refine lv_aload_n hx hb dX5_read_65 rfl (lv_at hl 0 rfl) ?_
  refine lv_iload_n hx hb dX5_read_66 rfl (lv_at hl 1 rfl) ?_
  obtain ⟨r7, k7, hg, hf⟩ := bR_inv hf
  refine q_ci (rest := [.int y3]) (ws' := (wX5_read cI cJ cZ cS a_t a_s a_keptS a_statuses a_pile a_tape a_steps a_wish a_mark a_bitsOf a_sizeOf a_number a_moved v_isKept v_taped v_at v_fault v_laid v_open (upd v_s (2 + (3 * y4)).toNatClampNeg y6) v_statuses k7 v_bitsOf v_sizeOf v_number)) (w1 := (wX5_isRow cI cJ cZ cS a_t a_s a_keptS a_statuses a_pile a_tape a_steps a_wish a_mark a_bitsOf a_sizeOf a_number a_moved v_isKept v_taped v_at v_fault v_laid v_open (upd v_s (2 + (3 * y4)).toNatClampNeg y6) k7 v_sizeOf v_number)) fx h [0, 1, 3, 5, 6] rfl rfl rfl rfl (q_runV fx h hl.1 [0, 1, 3, 5, 6] rfl rfl (tX5_isRow l D cI cJ cZ cS tb a_t a_s a_keptS a_statuses a_pile a_tape a_steps a_wish a_mark a_bitsOf a_sizeOf a_number a_moved H.size v_isKept v_taped v_at v_fault v_laid v_open (upd v_s (2 + (3 * y4)).toNatClampNeg y6) v_pile v_sizeOf v_number y1 r7 k7 hg) mvX5_isRow k_991 ⟨rfl, rfl⟩ ⟨Nat.le_of_ble_eq_true rfl, Nat.le_of_ble_eq_true rfl⟩ rfl rfl rfl rfl (Nat.le_of_ble_eq_true rfl) dX5_read_67 ⟨Nat.le_of_ble_eq_true rfl, Nat.le_of_ble_eq_true rfl⟩) (fun H locs h => ?_)
  refine lv_if_eq (tgt := 77) hx hb dX5_read_70 (by decide) (fun c8 => ?_) (fun c8 => ?_)
  · have hf := it_t c8 hf
    refine lv_iconst (v := 0) hx hb dX5_read_77 (by decide) ?_
    exact LX5_read_78 fx hag21 hag44 h (lv_sub hl [0, 1, 3, 4, 5] rfl) hf
  have hf := it_f c8 hf
  refine lv_iconst (v := 1) hx hb dX5_read_73 (by decide) ?_
  refine lv_goto (tgt := 78) hx hb dX5_read_74 (by decide) ?_
  exact LX5_read_78 fx hag21 hag44 h (lv_sub hl [0, 1, 3, 4, 5] rfl) hf
set_option maxRecDepth 100000 in
theorem EX5_read_44 {p : Program} {l : Launch} {e : Env} {s : State} {m : MethodId} {args : Array Value} {below : List Frame} {meth : Method} {c : Code} {D : va_G} {cI cJ cZ cS : ClassId} {tb : Nat} {A : Nat → Prop} {a_t a_s a_keptS a_statuses a_pile a_tape a_steps a_wish a_mark a_bitsOf a_sizeOf a_number a_moved : Nat} {v_isKept : Int32} {v_taped : Int32} {v_at : Int32} {v_fault : Int32} {v_laid : Int32} {v_open : Int32} {v_bitsOf : Nat → Int32} {v_sizeOf : Nat → Int32} {v_number : Nat → Int64} {rr : Int32} {kk' : (Nat → Int32) × (Nat → Int32) × (Nat → Int32)} (fx : q_Fx p s m args meth c cX5_read 7 RX5 (some .int) D cI cJ cZ cS tb A) {ag21 : (Nat → Int32) → (Nat → Int32) → (Nat → Int32) → Int32 → Int32 → Int32 → Option (Int32 × (Nat → Int32) × (Nat → Int32) × (Nat → Int32))} (hag21 : ∀ {v_s : Nat → Int32} {v_statuses : Nat → Int32} {v_pile : Nat → Int32} {y1 : Int32} {y3 : Int32} {y4 : Int32} {H : Heap} {locs : List Loc} {ls : Array Slot}, q_H D A s (wX5_read cI cJ cZ cS a_t a_s a_keptS a_statuses a_pile a_tape a_steps a_wish a_mark a_bitsOf a_sizeOf a_number a_moved v_isKept v_taped v_at v_fault v_laid v_open v_s v_statuses v_pile v_bitsOf v_sizeOf v_number) H locs → lv_has ls 7 [(0, .ref a_t), (1, .int y1), (3, .int y3), (4, .int y4)] → ag21 v_s v_statuses v_pile y1 y3 y4 = some (rr, kk') → W p l e rX5_read s m args below meth c H locs 0 0 (MQ below (q_Ri D rr A ((fun k : (Nat → Int32) × (Nat → Int32) × (Nat → Int32) => (wX5_read cI cJ cZ cS a_t a_s a_keptS a_statuses a_pile a_tape a_steps a_wish a_mark a_bitsOf a_sizeOf a_number a_moved v_isKept v_taped v_at v_fault v_laid v_open k.1 k.2.1 k.2.2 v_bitsOf v_sizeOf v_number)) kk')) args s 0 0 A) (F0 m 21 ls [])) : ∀ (n : Nat), ∀ {v_s : Nat → Int32} {v_statuses : Nat → Int32} {v_pile : Nat → Int32} {y1 : Int32} {y3 : Int32} {y4 : Int32} {y5 : Int32} {y6 : Int32} {H : Heap} {locs : List Loc} {ls : Array Slot}, q_H D A s (wX5_read cI cJ cZ cS a_t a_s a_keptS a_statuses a_pile a_tape a_steps a_wish a_mark a_bitsOf a_sizeOf a_number a_moved v_isKept v_taped v_at v_fault v_laid v_open v_s v_statuses v_pile v_bitsOf v_sizeOf v_number) H locs → lv_has ls 7 [(0, .ref a_t), (1, .int y1), (3, .int y3), (4, .int y4), (5, .int y5), (6, .int y6)] → ll8 (fX5_read_44 v_bitsOf v_sizeOf v_number ag21) n v_s v_statuses v_pile y1 y3 y4 y5 y6 = some (rr, kk') → W p l e rX5_read s m args below meth c H locs 0 0 (MQ below (q_Ri D rr A ((fun k : (Nat → Int32) × (Nat → Int32) × (Nat → Int32) => (wX5_read cI cJ cZ cS a_t a_s a_keptS a_statuses a_pile a_tape a_steps a_wish a_mark a_bitsOf a_sizeOf a_number a_moved v_isKept v_taped v_at v_fault v_laid v_open k.1 k.2.1 k.2.2 v_bitsOf v_sizeOf v_number)) kk')) args s 0 0 A) (F0 m 44 ls []) := by
  intro n
  induction n with
  | zero => intro v_s v_statuses v_pile y1 y3 y4 y5 y6 H locs ls h hl hf; exact (ll8_z hf).elim
  | succ n ih => intro v_s v_statuses v_pile y1 y3 y4 y5 y6 H locs ls h hl hf; exact LX5_read_44 fx hag21 ih h hl (ll8_s hf)
def fX5_read_21 (v_bitsOf : Nat → Int32) (v_sizeOf : Nat → Int32) (v_number : Nat → Int64) (ag21 : (Nat → Int32) → (Nat → Int32) → (Nat → Int32) → Int32 → Int32 → Int32 → Option (Int32 × (Nat → Int32) × (Nat → Int32) × (Nat → Int32))) (v_s : Nat → Int32) (v_statuses : Nat → Int32) (v_pile : Nat → Int32) (y1 : Int32) (y3 : Int32) (y4 : Int32) : Option (Int32 × (Nat → Int32) × (Nat → Int32) × (Nat → Int32)) :=
  (if (v_s 0) ≤ y4 then (
  some (y3, (v_s, v_statuses, v_pile)))
  else (
  bR (fX5_its v_s y4 0) (fun r10 k10 =>
  ll8 (fX5_read_44 v_bitsOf v_sizeOf v_number ag21) qF v_s v_statuses v_pile y1 y3 y4 r10 0)))
set_option maxRecDepth 100000 in
set_option maxHeartbeats 4000000 in
theorem LX5_read_21 {p : Program} {l : Launch} {e : Env} {s : State} {m : MethodId} {args : Array Value} {below : List Frame} {meth : Method} {c : Code} {D : va_G} {cI cJ cZ cS : ClassId} {tb : Nat} {A : Nat → Prop} {a_t a_s a_keptS a_statuses a_pile a_tape a_steps a_wish a_mark a_bitsOf a_sizeOf a_number a_moved : Nat} {v_isKept : Int32} {v_taped : Int32} {v_at : Int32} {v_fault : Int32} {v_laid : Int32} {v_open : Int32} {v_bitsOf : Nat → Int32} {v_sizeOf : Nat → Int32} {v_number : Nat → Int64} {rr : Int32} {kk' : (Nat → Int32) × (Nat → Int32) × (Nat → Int32)} (fx : q_Fx p s m args meth c cX5_read 7 RX5 (some .int) D cI cJ cZ cS tb A) {ag21 : (Nat → Int32) → (Nat → Int32) → (Nat → Int32) → Int32 → Int32 → Int32 → Option (Int32 × (Nat → Int32) × (Nat → Int32) × (Nat → Int32))} (hag21 : ∀ {v_s : Nat → Int32} {v_statuses : Nat → Int32} {v_pile : Nat → Int32} {y1 : Int32} {y3 : Int32} {y4 : Int32} {H : Heap} {locs : List Loc} {ls : Array Slot}, q_H D A s (wX5_read cI cJ cZ cS a_t a_s a_keptS a_statuses a_pile a_tape a_steps a_wish a_mark a_bitsOf a_sizeOf a_number a_moved v_isKept v_taped v_at v_fault v_laid v_open v_s v_statuses v_pile v_bitsOf v_sizeOf v_number) H locs → lv_has ls 7 [(0, .ref a_t), (1, .int y1), (3, .int y3), (4, .int y4)] → ag21 v_s v_statuses v_pile y1 y3 y4 = some (rr, kk') → W p l e rX5_read s m args below meth c H locs 0 0 (MQ below (q_Ri D rr A ((fun k : (Nat → Int32) × (Nat → Int32) × (Nat → Int32) => (wX5_read cI cJ cZ cS a_t a_s a_keptS a_statuses a_pile a_tape a_steps a_wish a_mark a_bitsOf a_sizeOf a_number a_moved v_isKept v_taped v_at v_fault v_laid v_open k.1 k.2.1 k.2.2 v_bitsOf v_sizeOf v_number)) kk')) args s 0 0 A) (F0 m 21 ls [])) : ∀ {v_s : Nat → Int32} {v_statuses : Nat → Int32} {v_pile : Nat → Int32} {y1 : Int32} {y3 : Int32} {y4 : Int32} {H : Heap} {locs : List Loc} {ls : Array Slot}, q_H D A s (wX5_read cI cJ cZ cS a_t a_s a_keptS a_statuses a_pile a_tape a_steps a_wish a_mark a_bitsOf a_sizeOf a_number a_moved v_isKept v_taped v_at v_fault v_laid v_open v_s v_statuses v_pile v_bitsOf v_sizeOf v_number) H locs → lv_has ls 7 [(0, .ref a_t), (1, .int y1), (3, .int y3), (4, .int y4)] → fX5_read_21 v_bitsOf v_sizeOf v_number ag21 v_s v_statuses v_pile y1 y3 y4 = some (rr, kk') → W p l e rX5_read s m args below meth c H locs 0 0 (MQ below (q_Ri D rr A ((fun k : (Nat → Int32) × (Nat → Int32) × (Nat → Int32) => (wX5_read cI cJ cZ cS a_t a_s a_keptS a_statuses a_pile a_tape a_steps a_wish a_mark a_bitsOf a_sizeOf a_number a_moved v_isKept v_taped v_at v_fault v_laid v_open k.1 k.2.1 k.2.2 v_bitsOf v_sizeOf v_number)) kk')) args s 0 0 A) (F0 m 21 ls []) := by
  intro v_s v_statuses v_pile y1 y3 y4 H locs ls h hl hf
  have hx := fx.1
  have hb := fx.2.1
  unfold fX5_read_21 at hf
  refine lv_iload hx hb dX5_read_21 (lv_at hl 3 rfl) ?_
  refine lv_aload_n hx hb dX5_read_23 rfl (lv_at hl 0 rfl) ?_
  refine q_get (v := .ref a_s) fx inX5 h 0 rfl rfl 0 (by decide) k_636 rfl dX5_read_24 ?_
  refine lv_iconst (v := 0) hx hb dX5_read_27 (by decide) ?_
  refine q_ialdK fx h 1 rfl 0 (vinK (by decide)) (by decide) dX5_read_28 ?_
  refine lv_icmp_ge (tgt := 105) hx hb dX5_read_29 (by decide) (fun c9 => ?_) (fun c9 => ?_)
  · have hf := it_t c9 hf
    refine lv_iload_n hx hb dX5_read_105 rfl (lv_at hl 2 rfl) ?_
    exact q_reti (fun k : (Nat → Int32) × (Nat → Int32) × (Nat → Int32) => (wX5_read cI cJ cZ cS a_t a_s a_keptS a_statuses a_pile a_tape a_steps a_wish a_mark a_bitsOf a_sizeOf a_number a_moved v_isKept v_taped v_at v_fault v_laid v_open k.1 k.2.1 k.2.2 v_bitsOf v_sizeOf v_number)) fx hf h dX5_read_106
  have hf := it_f c9 hf
  refine lv_aload_n hx hb dX5_read_32 rfl (lv_at hl 0 rfl) ?_
  refine lv_iload hx hb dX5_read_33 (lv_at hl 3 rfl) ?_
  refine lv_iconst (v := 0) hx hb dX5_read_35 (by decide) ?_
  obtain ⟨r10, k10, hg, hf⟩ := bR_inv hf
  refine q_ci (rest := []) (ws' := (wX5_read cI cJ cZ cS a_t a_s a_keptS a_statuses a_pile a_tape a_steps a_wish a_mark a_bitsOf a_sizeOf a_number a_moved v_isKept v_taped v_at v_fault v_laid v_open v_s v_statuses v_pile v_bitsOf v_sizeOf v_number)) (w1 := (wX5_its cI cJ cZ cS a_t a_s a_keptS a_statuses a_pile a_tape a_steps a_wish a_mark a_bitsOf a_sizeOf a_number a_moved v_isKept v_taped v_at v_fault v_laid v_open v_s)) fx h [0, 1] rfl rfl rfl rfl (q_runV fx h hl.1 [0, 1] rfl rfl (tX5_its l D cI cJ cZ cS tb a_t a_s a_keptS a_statuses a_pile a_tape a_steps a_wish a_mark a_bitsOf a_sizeOf a_number a_moved H.size v_isKept v_taped v_at v_fault v_laid v_open v_s y4 0 r10 k10 hg) mvX5_its k_725 ⟨rfl, rfl⟩ ⟨Nat.le_of_ble_eq_true rfl, Nat.le_of_ble_eq_true rfl⟩ rfl rfl rfl rfl (Nat.le_of_ble_eq_true rfl) dX5_read_36 ⟨Nat.le_of_ble_eq_true rfl, Nat.le_of_ble_eq_true rfl⟩) (fun H locs h => ?_)
  refine lv_istore (lv' := [(5, .int r10), (0, .ref a_t), (1, .int y1), (3, .int y3), (4, .int y4)]) hx hb dX5_read_39 hl (by decide) rfl (fun ls hl => ?_)
  refine lv_iconst (v := 0) hx hb dX5_read_41 (by decide) ?_
  refine lv_istore (lv' := [(6, .int 0), (5, .int r10), (0, .ref a_t), (1, .int y1), (3, .int y3), (4, .int y4)]) hx hb dX5_read_42 hl (by decide) rfl (fun ls hl => ?_)
  exact EX5_read_44 fx hag21 qF h (lv_sub hl [2, 3, 4, 5, 1, 0] rfl) hf
set_option maxRecDepth 100000 in
theorem EX5_read_21 {p : Program} {l : Launch} {e : Env} {s : State} {m : MethodId} {args : Array Value} {below : List Frame} {meth : Method} {c : Code} {D : va_G} {cI cJ cZ cS : ClassId} {tb : Nat} {A : Nat → Prop} {a_t a_s a_keptS a_statuses a_pile a_tape a_steps a_wish a_mark a_bitsOf a_sizeOf a_number a_moved : Nat} {v_isKept : Int32} {v_taped : Int32} {v_at : Int32} {v_fault : Int32} {v_laid : Int32} {v_open : Int32} {v_bitsOf : Nat → Int32} {v_sizeOf : Nat → Int32} {v_number : Nat → Int64} {rr : Int32} {kk' : (Nat → Int32) × (Nat → Int32) × (Nat → Int32)} (fx : q_Fx p s m args meth c cX5_read 7 RX5 (some .int) D cI cJ cZ cS tb A) : ∀ (n : Nat), ∀ {v_s : Nat → Int32} {v_statuses : Nat → Int32} {v_pile : Nat → Int32} {y1 : Int32} {y3 : Int32} {y4 : Int32} {H : Heap} {locs : List Loc} {ls : Array Slot}, q_H D A s (wX5_read cI cJ cZ cS a_t a_s a_keptS a_statuses a_pile a_tape a_steps a_wish a_mark a_bitsOf a_sizeOf a_number a_moved v_isKept v_taped v_at v_fault v_laid v_open v_s v_statuses v_pile v_bitsOf v_sizeOf v_number) H locs → lv_has ls 7 [(0, .ref a_t), (1, .int y1), (3, .int y3), (4, .int y4)] → ll6 (fX5_read_21 v_bitsOf v_sizeOf v_number) n v_s v_statuses v_pile y1 y3 y4 = some (rr, kk') → W p l e rX5_read s m args below meth c H locs 0 0 (MQ below (q_Ri D rr A ((fun k : (Nat → Int32) × (Nat → Int32) × (Nat → Int32) => (wX5_read cI cJ cZ cS a_t a_s a_keptS a_statuses a_pile a_tape a_steps a_wish a_mark a_bitsOf a_sizeOf a_number a_moved v_isKept v_taped v_at v_fault v_laid v_open k.1 k.2.1 k.2.2 v_bitsOf v_sizeOf v_number)) kk')) args s 0 0 A) (F0 m 21 ls []) := by
  intro n
  induction n with
  | zero => intro v_s v_statuses v_pile y1 y3 y4 H locs ls h hl hf; exact (ll6_z hf).elim
  | succ n ih => intro v_s v_statuses v_pile y1 y3 y4 H locs ls h hl hf; exact LX5_read_21 fx ih h hl (ll6_s hf)
def fX5_read (v_s : Nat → Int32) (v_statuses : Nat → Int32) (v_pile : Nat → Int32) (v_bitsOf : Nat → Int32) (v_sizeOf : Nat → Int32) (v_number : Nat → Int64) (x1 : Int32) : Option (Int32 × (Nat → Int32) × (Nat → Int32) × (Nat → Int32)) :=
  bR (fX5_wrong v_bitsOf x1) (fun r11 k11 =>
  (if r11 = 0 then (
  ll6 (fX5_read_21 v_bitsOf v_sizeOf v_number) qF v_s v_statuses v_pile x1 0 0)
  else (
  bR (fX5_finds v_statuses r11) (fun r13 k13 =>
  some (r13, (v_s, k13, v_pile))))))
set_option maxRecDepth 100000 in
set_option maxHeartbeats 4000000 in
theorem tX5_read (l : Launch) (D : va_G) (cI cJ cZ cS : ClassId) (tb : Nat) (a_t a_s a_keptS a_statuses a_pile a_tape a_steps a_wish a_mark a_bitsOf a_sizeOf a_number a_moved : Nat) (sz : Nat) (v_isKept : Int32) (v_taped : Int32) (v_at : Int32) (v_fault : Int32) (v_laid : Int32) (v_open : Int32) (v_s : Nat → Int32) (v_statuses : Nat → Int32) (v_pile : Nat → Int32) (v_bitsOf : Nat → Int32) (v_sizeOf : Nat → Int32) (v_number : Nat → Int64) (x1 : Int32) (rr : Int32) (kk' : (Nat → Int32) × (Nat → Int32) × (Nat → Int32)) (hf : fX5_read v_s v_statuses v_pile v_bitsOf v_sizeOf v_number x1 = some (rr, kk')) : Met l yX5_read (Cond.code yX5_read cX5_read 7 (some .int) :: wA) rX5_read (q_Pre D cI cJ cZ cS tb [.ref a_t, .int x1] sz (wX5_read cI cJ cZ cS a_t a_s a_keptS a_statuses a_pile a_tape a_steps a_wish a_mark a_bitsOf a_sizeOf a_number a_moved v_isKept v_taped v_at v_fault v_laid v_open v_s v_statuses v_pile v_bitsOf v_sizeOf v_number)) (q_Ri D rr (va_A (wX5_read cI cJ cZ cS a_t a_s a_keptS a_statuses a_pile a_tape a_steps a_wish a_mark a_bitsOf a_sizeOf a_number a_moved v_isKept v_taped v_at v_fault v_laid v_open v_s v_statuses v_pile v_bitsOf v_sizeOf v_number) sz) ((fun k : (Nat → Int32) × (Nat → Int32) × (Nat → Int32) => (wX5_read cI cJ cZ cS a_t a_s a_keptS a_statuses a_pile a_tape a_steps a_wish a_mark a_bitsOf a_sizeOf a_number a_moved v_isKept v_taped v_at v_fault v_laid v_open k.1 k.2.1 k.2.2 v_bitsOf v_sizeOf v_number)) kk')) 0 0 (va_A (wX5_read cI cJ cZ cS a_t a_s a_keptS a_statuses a_pile a_tape a_steps a_wish a_mark a_bitsOf a_sizeOf a_number a_moved v_isKept v_taped v_at v_fault v_laid v_open v_s v_statuses v_pile v_bitsOf v_sizeOf v_number) sz) := by
  refine q_enter (Qf := fun A => (q_Ri D rr A ((fun k : (Nat → Int32) × (Nat → Int32) × (Nat → Int32) => (wX5_read cI cJ cZ cS a_t a_s a_keptS a_statuses a_pile a_tape a_steps a_wish a_mark a_bitsOf a_sizeOf a_number a_moved v_isKept v_taped v_at v_fault v_laid v_open k.1 k.2.1 k.2.2 v_bitsOf v_sizeOf v_number)) kk'))) (by decide) rfl (Nat.le_of_ble_eq_true rfl) ?_
  intro p e s m below meth c A ls fx hname h hl
  have hx := fx.1
  have hb := fx.2.1
  have hl : lv_has ls 7 [(0, .ref a_t), (1, .int x1)] := hl
  generalize h9 : s.heap = H at h ⊢
  clear h9
  generalize h9 : ([] : List Loc) = locs at h ⊢
  clear h9
  unfold fX5_read at hf
  refine lv_aload_n hx hb dX5_read_0 rfl (lv_at hl 0 rfl) ?_
  refine lv_iload_n hx hb dX5_read_1 rfl (lv_at hl 1 rfl) ?_
  obtain ⟨r11, k11, hg, hf⟩ := bR_inv hf
  refine q_ci (rest := []) (ws' := (wX5_read cI cJ cZ cS a_t a_s a_keptS a_statuses a_pile a_tape a_steps a_wish a_mark a_bitsOf a_sizeOf a_number a_moved v_isKept v_taped v_at v_fault v_laid v_open v_s v_statuses v_pile v_bitsOf v_sizeOf v_number)) (w1 := (wX5_wrong cI cJ cZ cS a_t a_s a_keptS a_statuses a_pile a_tape a_steps a_wish a_mark a_bitsOf a_sizeOf a_number a_moved v_isKept v_taped v_at v_fault v_laid v_open v_bitsOf)) fx h [0, 4] rfl rfl rfl rfl (q_runV fx h hl.1 [0, 4] rfl rfl (tX5_wrong l D cI cJ cZ cS tb a_t a_s a_keptS a_statuses a_pile a_tape a_steps a_wish a_mark a_bitsOf a_sizeOf a_number a_moved H.size v_isKept v_taped v_at v_fault v_laid v_open v_bitsOf x1 r11 k11 hg) mvX5_wrong k_967 ⟨rfl, rfl⟩ ⟨Nat.le_of_ble_eq_true rfl, Nat.le_of_ble_eq_true rfl⟩ rfl rfl rfl rfl (Nat.le_of_ble_eq_true rfl) dX5_read_2 ⟨Nat.le_of_ble_eq_true rfl, Nat.le_of_ble_eq_true rfl⟩) (fun H locs h => ?_)
  refine lv_istore_n (lv' := [(2, .int r11), (0, .ref a_t), (1, .int x1)]) hx hb dX5_read_5 rfl hl (by decide) rfl (fun ls hl => ?_)
  refine lv_iload_n hx hb dX5_read_6 rfl (lv_at hl 0 rfl) ?_
  refine lv_if_eq (tgt := 16) hx hb dX5_read_7 (by decide) (fun c12 => ?_) (fun c12 => ?_)
  · have hf := it_t c12 hf
    refine lv_iconst (v := 0) hx hb dX5_read_16 (by decide) ?_
    refine lv_istore_n (lv' := [(3, .int 0), (2, .int r11), (0, .ref a_t), (1, .int x1)]) hx hb dX5_read_17 rfl hl (by decide) rfl (fun ls hl => ?_)
    refine lv_iconst (v := 0) hx hb dX5_read_18 (by decide) ?_
    refine lv_istore (lv' := [(4, .int 0), (3, .int 0), (2, .int r11), (0, .ref a_t), (1, .int x1)]) hx hb dX5_read_19 hl (by decide) rfl (fun ls hl => ?_)
    exact EX5_read_21 fx qF h (lv_sub hl [3, 4, 1, 0] rfl) hf
  have hf := it_f c12 hf
  refine lv_aload_n hx hb dX5_read_10 rfl (lv_at hl 1 rfl) ?_
  refine lv_iload_n hx hb dX5_read_11 rfl (lv_at hl 0 rfl) ?_
  obtain ⟨r13, k13, hg, hf⟩ := bR_inv hf
  refine q_ci (rest := []) (ws' := (wX5_read cI cJ cZ cS a_t a_s a_keptS a_statuses a_pile a_tape a_steps a_wish a_mark a_bitsOf a_sizeOf a_number a_moved v_isKept v_taped v_at v_fault v_laid v_open v_s k13 v_pile v_bitsOf v_sizeOf v_number)) (w1 := (wX5_finds cI cJ cZ cS a_t a_s a_keptS a_statuses a_pile a_tape a_steps a_wish a_mark a_bitsOf a_sizeOf a_number a_moved v_isKept v_taped v_at v_fault v_laid v_open k13)) fx h [0, 2] rfl rfl rfl rfl (q_runV fx h hl.1 [0, 2] rfl rfl (tX5_finds l D cI cJ cZ cS tb a_t a_s a_keptS a_statuses a_pile a_tape a_steps a_wish a_mark a_bitsOf a_sizeOf a_number a_moved H.size v_isKept v_taped v_at v_fault v_laid v_open v_statuses r11 r13 k13 hg) mvX5_finds k_702 ⟨rfl, rfl⟩ ⟨Nat.le_of_ble_eq_true rfl, Nat.le_of_ble_eq_true rfl⟩ rfl rfl rfl rfl (Nat.le_of_ble_eq_true rfl) dX5_read_12 ⟨Nat.le_of_ble_eq_true rfl, Nat.le_of_ble_eq_true rfl⟩) (fun H locs h => ?_)
  exact q_reti (fun k : (Nat → Int32) × (Nat → Int32) × (Nat → Int32) => (wX5_read cI cJ cZ cS a_t a_s a_keptS a_statuses a_pile a_tape a_steps a_wish a_mark a_bitsOf a_sizeOf a_number a_moved v_isKept v_taped v_at v_fault v_laid v_open k.1 k.2.1 k.2.2 v_bitsOf v_sizeOf v_number)) fx hf h dX5_read_15
/-! X5_image -/
abbrev wX5_image (cI cJ cZ cS : ClassId) (a_t a_s a_keptS a_statuses a_pile a_tape a_steps a_wish a_mark a_bitsOf a_sizeOf a_number a_moved : Nat) (v_isKept : Int32) (v_taped : Int32) (v_at : Int32) (v_fault : Int32) (v_laid : Int32) (v_open : Int32) (v_s : Nat → Int32) (v_keptS : Nat → Int32) : va_W := [(a_t, .inr (5, [.ref a_s, .ref a_keptS, .ref a_statuses, .int v_isKept, .ref a_pile, .ref a_tape, .ref a_steps, .int v_taped, .int v_at, .int v_fault, .int v_laid, .int v_open, .ref a_wish, .ref a_mark, .ref a_bitsOf, .ref a_sizeOf, .ref a_number, .ref a_moved])), (a_s, .inl (cI, 538, .inl v_s)), (a_keptS, .inl (cI, 538, .inl v_keptS))]
abbrev rX5_image : Room := { frames := 0, cells := 0, slots := 0, locals := 0 }
def fX5_image_2 (v_s : Nat → Int32) (ag2 : Int32 → (Nat → Int32) → Int32 → Option (Int32 × Int32 × (Nat → Int32))) (v_isKept : Int32) (v_keptS : Nat → Int32) (y1 : Int32) : Option (Int32 × Int32 × (Nat → Int32)) :=
  (if (538 : Int32) ≤ y1 then (
  some (1, (1, v_keptS)))
  else (
  gIn y1 538 (
  gIn y1 538 (
  nm (y1 + 1) (fun u4 =>
  ag2 v_isKept (upd v_keptS y1.toNatClampNeg (v_s y1.toNatClampNeg)) u4)))))
set_option maxRecDepth 100000 in
set_option maxHeartbeats 4000000 in
theorem LX5_image_2 {p : Program} {l : Launch} {e : Env} {s : State} {m : MethodId} {args : Array Value} {below : List Frame} {meth : Method} {c : Code} {D : va_G} {cI cJ cZ cS : ClassId} {tb : Nat} {A : Nat → Prop} {a_t a_s a_keptS a_statuses a_pile a_tape a_steps a_wish a_mark a_bitsOf a_sizeOf a_number a_moved : Nat} {v_taped : Int32} {v_at : Int32} {v_fault : Int32} {v_laid : Int32} {v_open : Int32} {v_s : Nat → Int32} {rr : Int32} {kk' : Int32 × (Nat → Int32)} (fx : q_Fx p s m args meth c cX5_image 2 RX5 (some .int) D cI cJ cZ cS tb A) {ag2 : Int32 → (Nat → Int32) → Int32 → Option (Int32 × Int32 × (Nat → Int32))} (hag2 : ∀ {v_isKept : Int32} {v_keptS : Nat → Int32} {y1 : Int32} {H : Heap} {locs : List Loc} {ls : Array Slot}, q_H D A s (wX5_image cI cJ cZ cS a_t a_s a_keptS a_statuses a_pile a_tape a_steps a_wish a_mark a_bitsOf a_sizeOf a_number a_moved v_isKept v_taped v_at v_fault v_laid v_open v_s v_keptS) H locs → lv_has ls 2 [(0, .ref a_t), (1, .int y1)] → ag2 v_isKept v_keptS y1 = some (rr, kk') → W p l e rX5_image s m args below meth c H locs 0 0 (MQ below (q_Ri D rr A ((fun k : Int32 × (Nat → Int32) => (wX5_image cI cJ cZ cS a_t a_s a_keptS a_statuses a_pile a_tape a_steps a_wish a_mark a_bitsOf a_sizeOf a_number a_moved k.1 v_taped v_at v_fault v_laid v_open v_s k.2)) kk')) args s 0 0 A) (F0 m 2 ls [])) : ∀ {v_isKept : Int32} {v_keptS : Nat → Int32} {y1 : Int32} {H : Heap} {locs : List Loc} {ls : Array Slot}, q_H D A s (wX5_image cI cJ cZ cS a_t a_s a_keptS a_statuses a_pile a_tape a_steps a_wish a_mark a_bitsOf a_sizeOf a_number a_moved v_isKept v_taped v_at v_fault v_laid v_open v_s v_keptS) H locs → lv_has ls 2 [(0, .ref a_t), (1, .int y1)] → fX5_image_2 v_s ag2 v_isKept v_keptS y1 = some (rr, kk') → W p l e rX5_image s m args below meth c H locs 0 0 (MQ below (q_Ri D rr A ((fun k : Int32 × (Nat → Int32) => (wX5_image cI cJ cZ cS a_t a_s a_keptS a_statuses a_pile a_tape a_steps a_wish a_mark a_bitsOf a_sizeOf a_number a_moved k.1 v_taped v_at v_fault v_laid v_open v_s k.2)) kk')) args s 0 0 A) (F0 m 2 ls []) := by
  intro v_isKept v_keptS y1 H locs ls h hl hf
  have hx := fx.1
  have hb := fx.2.1
  unfold fX5_image_2 at hf
  refine lv_iload_n hx hb dX5_image_2 rfl (lv_at hl 1 rfl) ?_
  refine lv_sipush (v := 538) hx hb dX5_image_3 (by decide) ?_
  refine lv_icmp_ge (tgt := 27) hx hb dX5_image_6 (by decide) (fun c1 => ?_) (fun c1 => ?_)
  · have hf := it_t c1 hf
    refine lv_aload_n hx hb dX5_image_27 rfl (lv_at hl 0 rfl) ?_
    refine lv_iconst (v := 1) hx hb dX5_image_28 (by decide) ?_
    refine q_put (v := .int 1) (ws' := (wX5_image cI cJ cZ cS a_t a_s a_keptS a_statuses a_pile a_tape a_steps a_wish a_mark a_bitsOf a_sizeOf a_number a_moved 1 v_taped v_at v_fault v_laid v_open v_s v_keptS)) fx inX5 tyX5 tyX5_ok nmX5 h 0 rfl rfl 3 (by decide) k_639 rfl rfl rfl (Nat.le_of_ble_eq_true rfl) rfl dX5_image_29 (fun H locs h => ?_)
    refine lv_iconst (v := 1) hx hb dX5_image_32 (by decide) ?_
    exact q_reti (fun k : Int32 × (Nat → Int32) => (wX5_image cI cJ cZ cS a_t a_s a_keptS a_statuses a_pile a_tape a_steps a_wish a_mark a_bitsOf a_sizeOf a_number a_moved k.1 v_taped v_at v_fault v_laid v_open v_s k.2)) fx hf h dX5_image_33
  have hf := it_f c1 hf
  refine lv_aload_n hx hb dX5_image_9 rfl (lv_at hl 0 rfl) ?_
  refine q_get (v := .ref a_keptS) fx inX5 h 0 rfl rfl 1 (by decide) k_637 rfl dX5_image_10 ?_
  refine lv_iload_n hx hb dX5_image_13 rfl (lv_at hl 1 rfl) ?_
  refine lv_aload_n hx hb dX5_image_14 rfl (lv_at hl 0 rfl) ?_
  refine q_get (v := .ref a_s) fx inX5 h 0 rfl rfl 0 (by decide) k_636 rfl dX5_image_15 ?_
  refine lv_iload_n hx hb dX5_image_18 rfl (lv_at hl 1 rfl) ?_
  obtain ⟨i2, hf⟩ := gIn_inv hf
  refine q_iald fx h 1 rfl i2 dX5_image_19 ?_
  obtain ⟨i3, hf⟩ := gIn_inv hf
  refine q_iast (ws' := (wX5_image cI cJ cZ cS a_t a_s a_keptS a_statuses a_pile a_tape a_steps a_wish a_mark a_bitsOf a_sizeOf a_number a_moved v_isKept v_taped v_at v_fault v_laid v_open v_s (upd v_keptS y1.toNatClampNeg (v_s y1.toNatClampNeg)))) fx h 2 rfl i3 rfl dX5_image_20 (fun H locs h => ?_)
  obtain ⟨u4, eu4, hf⟩ := nm_inv hf
  refine lv_iinc (v := u4) (lv' := [(1, .int u4), (0, .ref a_t)]) hx hb dX5_image_21 hl (k := 1) rfl (by rw [eu4]; rfl) (by decide) rfl (fun ls hl => ?_)
  refine lv_goto (tgt := 2) hx hb dX5_image_24 (by decide) ?_
  exact hag2 h (lv_sub hl [1, 0] rfl) hf
set_option maxRecDepth 100000 in
theorem EX5_image_2 {p : Program} {l : Launch} {e : Env} {s : State} {m : MethodId} {args : Array Value} {below : List Frame} {meth : Method} {c : Code} {D : va_G} {cI cJ cZ cS : ClassId} {tb : Nat} {A : Nat → Prop} {a_t a_s a_keptS a_statuses a_pile a_tape a_steps a_wish a_mark a_bitsOf a_sizeOf a_number a_moved : Nat} {v_taped : Int32} {v_at : Int32} {v_fault : Int32} {v_laid : Int32} {v_open : Int32} {v_s : Nat → Int32} {rr : Int32} {kk' : Int32 × (Nat → Int32)} (fx : q_Fx p s m args meth c cX5_image 2 RX5 (some .int) D cI cJ cZ cS tb A) : ∀ (n : Nat), ∀ {v_isKept : Int32} {v_keptS : Nat → Int32} {y1 : Int32} {H : Heap} {locs : List Loc} {ls : Array Slot}, q_H D A s (wX5_image cI cJ cZ cS a_t a_s a_keptS a_statuses a_pile a_tape a_steps a_wish a_mark a_bitsOf a_sizeOf a_number a_moved v_isKept v_taped v_at v_fault v_laid v_open v_s v_keptS) H locs → lv_has ls 2 [(0, .ref a_t), (1, .int y1)] → ll3 (fX5_image_2 v_s) n v_isKept v_keptS y1 = some (rr, kk') → W p l e rX5_image s m args below meth c H locs 0 0 (MQ below (q_Ri D rr A ((fun k : Int32 × (Nat → Int32) => (wX5_image cI cJ cZ cS a_t a_s a_keptS a_statuses a_pile a_tape a_steps a_wish a_mark a_bitsOf a_sizeOf a_number a_moved k.1 v_taped v_at v_fault v_laid v_open v_s k.2)) kk')) args s 0 0 A) (F0 m 2 ls []) := by
  intro n
  induction n with
  | zero => intro v_isKept v_keptS y1 H locs ls h hl hf; exact (ll3_z hf).elim
  | succ n ih => intro v_isKept v_keptS y1 H locs ls h hl hf; exact LX5_image_2 fx ih h hl (ll3_s hf)
def fX5_image (v_isKept : Int32) (v_s : Nat → Int32) (v_keptS : Nat → Int32) : Option (Int32 × Int32 × (Nat → Int32)) :=
  ll3 (fX5_image_2 v_s) qF v_isKept v_keptS 0
set_option maxRecDepth 100000 in
set_option maxHeartbeats 4000000 in
theorem tX5_image (l : Launch) (D : va_G) (cI cJ cZ cS : ClassId) (tb : Nat) (a_t a_s a_keptS a_statuses a_pile a_tape a_steps a_wish a_mark a_bitsOf a_sizeOf a_number a_moved : Nat) (sz : Nat) (v_isKept : Int32) (v_taped : Int32) (v_at : Int32) (v_fault : Int32) (v_laid : Int32) (v_open : Int32) (v_s : Nat → Int32) (v_keptS : Nat → Int32) (rr : Int32) (kk' : Int32 × (Nat → Int32)) (hf : fX5_image v_isKept v_s v_keptS = some (rr, kk')) : Met l yX5_image (Cond.code yX5_image cX5_image 2 (some .int) :: wA) rX5_image (q_Pre D cI cJ cZ cS tb [.ref a_t] sz (wX5_image cI cJ cZ cS a_t a_s a_keptS a_statuses a_pile a_tape a_steps a_wish a_mark a_bitsOf a_sizeOf a_number a_moved v_isKept v_taped v_at v_fault v_laid v_open v_s v_keptS)) (q_Ri D rr (va_A (wX5_image cI cJ cZ cS a_t a_s a_keptS a_statuses a_pile a_tape a_steps a_wish a_mark a_bitsOf a_sizeOf a_number a_moved v_isKept v_taped v_at v_fault v_laid v_open v_s v_keptS) sz) ((fun k : Int32 × (Nat → Int32) => (wX5_image cI cJ cZ cS a_t a_s a_keptS a_statuses a_pile a_tape a_steps a_wish a_mark a_bitsOf a_sizeOf a_number a_moved k.1 v_taped v_at v_fault v_laid v_open v_s k.2)) kk')) 0 0 (va_A (wX5_image cI cJ cZ cS a_t a_s a_keptS a_statuses a_pile a_tape a_steps a_wish a_mark a_bitsOf a_sizeOf a_number a_moved v_isKept v_taped v_at v_fault v_laid v_open v_s v_keptS) sz) := by
  refine q_enter (Qf := fun A => (q_Ri D rr A ((fun k : Int32 × (Nat → Int32) => (wX5_image cI cJ cZ cS a_t a_s a_keptS a_statuses a_pile a_tape a_steps a_wish a_mark a_bitsOf a_sizeOf a_number a_moved k.1 v_taped v_at v_fault v_laid v_open v_s k.2)) kk'))) (by decide) rfl (Nat.le_of_ble_eq_true rfl) ?_
  intro p e s m below meth c A ls fx hname h hl
  have hx := fx.1
  have hb := fx.2.1
  have hl : lv_has ls 2 [(0, .ref a_t)] := hl
  generalize h9 : s.heap = H at h ⊢
  clear h9
  generalize h9 : ([] : List Loc) = locs at h ⊢
  clear h9
  unfold fX5_image at hf
  refine lv_iconst (v := 0) hx hb dX5_image_0 (by decide) ?_
  refine lv_istore_n (lv' := [(1, .int 0), (0, .ref a_t)]) hx hb dX5_image_1 rfl hl (by decide) rfl (fun ls hl => ?_)
  exact EX5_image_2 fx qF h (lv_sub hl [1, 0] rfl) hf
end
section
/-! X5_undo -/
abbrev wX5_undo (cI cJ cZ cS : ClassId) (a_t a_s a_keptS a_statuses a_pile a_tape a_steps a_wish a_mark a_bitsOf a_sizeOf a_number a_moved : Nat) (v_isKept : Int32) (v_taped : Int32) (v_at : Int32) (v_fault : Int32) (v_laid : Int32) (v_open : Int32) (v_s : Nat → Int32) (v_keptS : Nat → Int32) (v_statuses : Nat → Int32) : va_W := [(a_t, .inr (5, [.ref a_s, .ref a_keptS, .ref a_statuses, .int v_isKept, .ref a_pile, .ref a_tape, .ref a_steps, .int v_taped, .int v_at, .int v_fault, .int v_laid, .int v_open, .ref a_wish, .ref a_mark, .ref a_bitsOf, .ref a_sizeOf, .ref a_number, .ref a_moved])), (a_s, .inl (cI, 538, .inl v_s)), (a_keptS, .inl (cI, 538, .inl v_keptS)), (a_statuses, .inl (cI, 7, .inl v_statuses))]
abbrev rX5_undo : Room := { frames := 1, cells := 0, slots := 0, locals := 21 }
def fX5_undo_16 (v_isKept : Int32) (v_keptS : Nat → Int32) (ag16 : (Nat → Int32) → (Nat → Int32) → Int32 → Option (Int32 × (Nat → Int32) × (Nat → Int32))) (v_s : Nat → Int32) (v_statuses : Nat → Int32) (y1 : Int32) : Option (Int32 × (Nat → Int32) × (Nat → Int32)) :=
  (if (538 : Int32) ≤ y1 then (
  some (v_s 0, (v_s, v_statuses)))
  else (
  gIn y1 538 (
  gIn y1 538 (
  nm (y1 + 1) (fun u4 =>
  ag16 (upd v_s y1.toNatClampNeg (v_keptS y1.toNatClampNeg)) v_statuses u4)))))
set_option maxRecDepth 100000 in
set_option maxHeartbeats 4000000 in
theorem LX5_undo_16 {p : Program} {l : Launch} {e : Env} {s : State} {m : MethodId} {args : Array Value} {below : List Frame} {meth : Method} {c : Code} {D : va_G} {cI cJ cZ cS : ClassId} {tb : Nat} {A : Nat → Prop} {a_t a_s a_keptS a_statuses a_pile a_tape a_steps a_wish a_mark a_bitsOf a_sizeOf a_number a_moved : Nat} {v_isKept : Int32} {v_taped : Int32} {v_at : Int32} {v_fault : Int32} {v_laid : Int32} {v_open : Int32} {v_keptS : Nat → Int32} {rr : Int32} {kk' : (Nat → Int32) × (Nat → Int32)} (fx : q_Fx p s m args meth c cX5_undo 2 RX5 (some .int) D cI cJ cZ cS tb A) {ag16 : (Nat → Int32) → (Nat → Int32) → Int32 → Option (Int32 × (Nat → Int32) × (Nat → Int32))} (hag16 : ∀ {v_s : Nat → Int32} {v_statuses : Nat → Int32} {y1 : Int32} {H : Heap} {locs : List Loc} {ls : Array Slot}, q_H D A s (wX5_undo cI cJ cZ cS a_t a_s a_keptS a_statuses a_pile a_tape a_steps a_wish a_mark a_bitsOf a_sizeOf a_number a_moved v_isKept v_taped v_at v_fault v_laid v_open v_s v_keptS v_statuses) H locs → lv_has ls 2 [(0, .ref a_t), (1, .int y1)] → ag16 v_s v_statuses y1 = some (rr, kk') → W p l e rX5_undo s m args below meth c H locs 0 0 (MQ below (q_Ri D rr A ((fun k : (Nat → Int32) × (Nat → Int32) => (wX5_undo cI cJ cZ cS a_t a_s a_keptS a_statuses a_pile a_tape a_steps a_wish a_mark a_bitsOf a_sizeOf a_number a_moved v_isKept v_taped v_at v_fault v_laid v_open k.1 v_keptS k.2)) kk')) args s 0 0 A) (F0 m 16 ls [])) : ∀ {v_s : Nat → Int32} {v_statuses : Nat → Int32} {y1 : Int32} {H : Heap} {locs : List Loc} {ls : Array Slot}, q_H D A s (wX5_undo cI cJ cZ cS a_t a_s a_keptS a_statuses a_pile a_tape a_steps a_wish a_mark a_bitsOf a_sizeOf a_number a_moved v_isKept v_taped v_at v_fault v_laid v_open v_s v_keptS v_statuses) H locs → lv_has ls 2 [(0, .ref a_t), (1, .int y1)] → fX5_undo_16 v_isKept v_keptS ag16 v_s v_statuses y1 = some (rr, kk') → W p l e rX5_undo s m args below meth c H locs 0 0 (MQ below (q_Ri D rr A ((fun k : (Nat → Int32) × (Nat → Int32) => (wX5_undo cI cJ cZ cS a_t a_s a_keptS a_statuses a_pile a_tape a_steps a_wish a_mark a_bitsOf a_sizeOf a_number a_moved v_isKept v_taped v_at v_fault v_laid v_open k.1 v_keptS k.2)) kk')) args s 0 0 A) (F0 m 16 ls []) := by
  intro v_s v_statuses y1 H locs ls h hl hf
  have hx := fx.1
  have hb := fx.2.1
  unfold fX5_undo_16 at hf
  refine lv_iload_n hx hb dX5_undo_16 rfl (lv_at hl 1 rfl) ?_
  refine lv_sipush (v := 538) hx hb dX5_undo_17 (by decide) ?_
  refine lv_icmp_ge (tgt := 41) hx hb dX5_undo_20 (by decide) (fun c1 => ?_) (fun c1 => ?_)
  · have hf := it_t c1 hf
    refine lv_aload_n hx hb dX5_undo_41 rfl (lv_at hl 0 rfl) ?_
    refine q_get (v := .ref a_s) fx inX5 h 0 rfl rfl 0 (by decide) k_636 rfl dX5_undo_42 ?_
    refine lv_iconst (v := 0) hx hb dX5_undo_45 (by decide) ?_
    refine q_ialdK fx h 1 rfl 0 (vinK (by decide)) (by decide) dX5_undo_46 ?_
    exact q_reti (fun k : (Nat → Int32) × (Nat → Int32) => (wX5_undo cI cJ cZ cS a_t a_s a_keptS a_statuses a_pile a_tape a_steps a_wish a_mark a_bitsOf a_sizeOf a_number a_moved v_isKept v_taped v_at v_fault v_laid v_open k.1 v_keptS k.2)) fx hf h dX5_undo_47
  have hf := it_f c1 hf
  refine lv_aload_n hx hb dX5_undo_23 rfl (lv_at hl 0 rfl) ?_
  refine q_get (v := .ref a_s) fx inX5 h 0 rfl rfl 0 (by decide) k_636 rfl dX5_undo_24 ?_
  refine lv_iload_n hx hb dX5_undo_27 rfl (lv_at hl 1 rfl) ?_
  refine lv_aload_n hx hb dX5_undo_28 rfl (lv_at hl 0 rfl) ?_
  refine q_get (v := .ref a_keptS) fx inX5 h 0 rfl rfl 1 (by decide) k_637 rfl dX5_undo_29 ?_
  refine lv_iload_n hx hb dX5_undo_32 rfl (lv_at hl 1 rfl) ?_
  obtain ⟨i2, hf⟩ := gIn_inv hf
  refine q_iald fx h 2 rfl i2 dX5_undo_33 ?_
  obtain ⟨i3, hf⟩ := gIn_inv hf
  refine q_iast (ws' := (wX5_undo cI cJ cZ cS a_t a_s a_keptS a_statuses a_pile a_tape a_steps a_wish a_mark a_bitsOf a_sizeOf a_number a_moved v_isKept v_taped v_at v_fault v_laid v_open (upd v_s y1.toNatClampNeg (v_keptS y1.toNatClampNeg)) v_keptS v_statuses)) fx h 1 rfl i3 rfl dX5_undo_34 (fun H locs h => ?_)
  obtain ⟨u4, eu4, hf⟩ := nm_inv hf
  refine lv_iinc (v := u4) (lv' := [(1, .int u4), (0, .ref a_t)]) hx hb dX5_undo_35 hl (k := 1) rfl (by rw [eu4]; rfl) (by decide) rfl (fun ls hl => ?_)
  refine lv_goto (tgt := 16) hx hb dX5_undo_38 (by decide) ?_
  exact hag16 h (lv_sub hl [1, 0] rfl) hf
set_option maxRecDepth 100000 in
theorem EX5_undo_16 {p : Program} {l : Launch} {e : Env} {s : State} {m : MethodId} {args : Array Value} {below : List Frame} {meth : Method} {c : Code} {D : va_G} {cI cJ cZ cS : ClassId} {tb : Nat} {A : Nat → Prop} {a_t a_s a_keptS a_statuses a_pile a_tape a_steps a_wish a_mark a_bitsOf a_sizeOf a_number a_moved : Nat} {v_isKept : Int32} {v_taped : Int32} {v_at : Int32} {v_fault : Int32} {v_laid : Int32} {v_open : Int32} {v_keptS : Nat → Int32} {rr : Int32} {kk' : (Nat → Int32) × (Nat → Int32)} (fx : q_Fx p s m args meth c cX5_undo 2 RX5 (some .int) D cI cJ cZ cS tb A) : ∀ (n : Nat), ∀ {v_s : Nat → Int32} {v_statuses : Nat → Int32} {y1 : Int32} {H : Heap} {locs : List Loc} {ls : Array Slot}, q_H D A s (wX5_undo cI cJ cZ cS a_t a_s a_keptS a_statuses a_pile a_tape a_steps a_wish a_mark a_bitsOf a_sizeOf a_number a_moved v_isKept v_taped v_at v_fault v_laid v_open v_s v_keptS v_statuses) H locs → lv_has ls 2 [(0, .ref a_t), (1, .int y1)] → ll3 (fX5_undo_16 v_isKept v_keptS) n v_s v_statuses y1 = some (rr, kk') → W p l e rX5_undo s m args below meth c H locs 0 0 (MQ below (q_Ri D rr A ((fun k : (Nat → Int32) × (Nat → Int32) => (wX5_undo cI cJ cZ cS a_t a_s a_keptS a_statuses a_pile a_tape a_steps a_wish a_mark a_bitsOf a_sizeOf a_number a_moved v_isKept v_taped v_at v_fault v_laid v_open k.1 v_keptS k.2)) kk')) args s 0 0 A) (F0 m 16 ls []) := by
  intro n
  induction n with
  | zero => intro v_s v_statuses y1 H locs ls h hl hf; exact (ll3_z hf).elim
  | succ n ih => intro v_s v_statuses y1 H locs ls h hl hf; exact LX5_undo_16 fx ih h hl (ll3_s hf)
def fX5_undo (v_isKept : Int32) (v_s : Nat → Int32) (v_keptS : Nat → Int32) (v_statuses : Nat → Int32) : Option (Int32 × (Nat → Int32) × (Nat → Int32)) :=
  (if v_isKept = 0 then (
  bR (fX5_finds v_statuses (-1000000004)) (fun r6 k6 =>
  some (r6, (v_s, k6))))
  else (
  ll3 (fX5_undo_16 v_isKept v_keptS) qF v_s v_statuses 0))
set_option maxRecDepth 100000 in
set_option maxHeartbeats 4000000 in
theorem tX5_undo (l : Launch) (D : va_G) (cI cJ cZ cS : ClassId) (tb : Nat) (a_t a_s a_keptS a_statuses a_pile a_tape a_steps a_wish a_mark a_bitsOf a_sizeOf a_number a_moved : Nat) (sz : Nat) (v_isKept : Int32) (v_taped : Int32) (v_at : Int32) (v_fault : Int32) (v_laid : Int32) (v_open : Int32) (v_s : Nat → Int32) (v_keptS : Nat → Int32) (v_statuses : Nat → Int32) (rr : Int32) (kk' : (Nat → Int32) × (Nat → Int32)) (hf : fX5_undo v_isKept v_s v_keptS v_statuses = some (rr, kk')) : Met l yX5_undo (Cond.code yX5_undo cX5_undo 2 (some .int) :: wA) rX5_undo (q_Pre D cI cJ cZ cS tb [.ref a_t] sz (wX5_undo cI cJ cZ cS a_t a_s a_keptS a_statuses a_pile a_tape a_steps a_wish a_mark a_bitsOf a_sizeOf a_number a_moved v_isKept v_taped v_at v_fault v_laid v_open v_s v_keptS v_statuses)) (q_Ri D rr (va_A (wX5_undo cI cJ cZ cS a_t a_s a_keptS a_statuses a_pile a_tape a_steps a_wish a_mark a_bitsOf a_sizeOf a_number a_moved v_isKept v_taped v_at v_fault v_laid v_open v_s v_keptS v_statuses) sz) ((fun k : (Nat → Int32) × (Nat → Int32) => (wX5_undo cI cJ cZ cS a_t a_s a_keptS a_statuses a_pile a_tape a_steps a_wish a_mark a_bitsOf a_sizeOf a_number a_moved v_isKept v_taped v_at v_fault v_laid v_open k.1 v_keptS k.2)) kk')) 0 0 (va_A (wX5_undo cI cJ cZ cS a_t a_s a_keptS a_statuses a_pile a_tape a_steps a_wish a_mark a_bitsOf a_sizeOf a_number a_moved v_isKept v_taped v_at v_fault v_laid v_open v_s v_keptS v_statuses) sz) := by
  refine q_enter (Qf := fun A => (q_Ri D rr A ((fun k : (Nat → Int32) × (Nat → Int32) => (wX5_undo cI cJ cZ cS a_t a_s a_keptS a_statuses a_pile a_tape a_steps a_wish a_mark a_bitsOf a_sizeOf a_number a_moved v_isKept v_taped v_at v_fault v_laid v_open k.1 v_keptS k.2)) kk'))) (by decide) rfl (Nat.le_of_ble_eq_true rfl) ?_
  intro p e s m below meth c A ls fx hname h hl
  have hx := fx.1
  have hb := fx.2.1
  have hl : lv_has ls 2 [(0, .ref a_t)] := hl
  generalize h9 : s.heap = H at h ⊢
  clear h9
  generalize h9 : ([] : List Loc) = locs at h ⊢
  clear h9
  unfold fX5_undo at hf
  refine lv_aload_n hx hb dX5_undo_0 rfl (lv_at hl 0 rfl) ?_
  refine q_get (v := .int v_isKept) fx inX5 h 0 rfl rfl 3 (by decide) k_639 rfl dX5_undo_1 ?_
  refine lv_if_ne (tgt := 14) hx hb dX5_undo_4 (by decide) (fun c5 => ?_) (fun c5 => ?_)
  · have hf := it_f c5 hf
    refine lv_iconst (v := 0) hx hb dX5_undo_14 (by decide) ?_
    refine lv_istore_n (lv' := [(1, .int 0), (0, .ref a_t)]) hx hb dX5_undo_15 rfl hl (by decide) rfl (fun ls hl => ?_)
    exact EX5_undo_16 fx qF h (lv_sub hl [1, 0] rfl) hf
  have hf := it_t c5 hf
  refine lv_aload_n hx hb dX5_undo_7 rfl (lv_at hl 0 rfl) ?_
  refine q_ldc fx k_864 dX5_undo_8 ?_
  obtain ⟨r6, k6, hg, hf⟩ := bR_inv hf
  refine q_ci (rest := []) (ws' := (wX5_undo cI cJ cZ cS a_t a_s a_keptS a_statuses a_pile a_tape a_steps a_wish a_mark a_bitsOf a_sizeOf a_number a_moved v_isKept v_taped v_at v_fault v_laid v_open v_s v_keptS k6)) (w1 := (wX5_finds cI cJ cZ cS a_t a_s a_keptS a_statuses a_pile a_tape a_steps a_wish a_mark a_bitsOf a_sizeOf a_number a_moved v_isKept v_taped v_at v_fault v_laid v_open k6)) fx h [0, 3] rfl rfl rfl rfl (q_runV fx h hl.1 [0, 3] rfl rfl (tX5_finds l D cI cJ cZ cS tb a_t a_s a_keptS a_statuses a_pile a_tape a_steps a_wish a_mark a_bitsOf a_sizeOf a_number a_moved H.size v_isKept v_taped v_at v_fault v_laid v_open v_statuses (-1000000004) r6 k6 hg) mvX5_finds k_702 ⟨rfl, rfl⟩ ⟨Nat.le_of_ble_eq_true rfl, Nat.le_of_ble_eq_true rfl⟩ rfl rfl rfl rfl (Nat.le_of_ble_eq_true rfl) dX5_undo_10 ⟨Nat.le_of_ble_eq_true rfl, Nat.le_of_ble_eq_true rfl⟩) (fun H locs h => ?_)
  exact q_reti (fun k : (Nat → Int32) × (Nat → Int32) => (wX5_undo cI cJ cZ cS a_t a_s a_keptS a_statuses a_pile a_tape a_steps a_wish a_mark a_bitsOf a_sizeOf a_number a_moved v_isKept v_taped v_at v_fault v_laid v_open k.1 v_keptS k.2)) fx hf h dX5_undo_13
/-! X5_tear -/
abbrev wX5_tear (cI cJ cZ cS : ClassId) (a_t a_s a_keptS a_statuses a_pile a_tape a_steps a_wish a_mark a_bitsOf a_sizeOf a_number a_moved : Nat) (v_isKept : Int32) (v_taped : Int32) (v_at : Int32) (v_fault : Int32) (v_laid : Int32) (v_open : Int32) : va_W := [(a_t, .inr (5, [.ref a_s, .ref a_keptS, .ref a_statuses, .int v_isKept, .ref a_pile, .ref a_tape, .ref a_steps, .int v_taped, .int v_at, .int v_fault, .int v_laid, .int v_open, .ref a_wish, .ref a_mark, .ref a_bitsOf, .ref a_sizeOf, .ref a_number, .ref a_moved]))]
abbrev rX5_tear : Room := { frames := 0, cells := 0, slots := 0, locals := 0 }
def fX5_tear_12 (v_isKept : Int32) (s0 : Int32) : Option (Int32 × Int32) :=
  some (s0, 0)
set_option maxRecDepth 100000 in
set_option maxHeartbeats 4000000 in
theorem LX5_tear_12 {p : Program} {l : Launch} {e : Env} {s : State} {m : MethodId} {args : Array Value} {below : List Frame} {meth : Method} {c : Code} {D : va_G} {cI cJ cZ cS : ClassId} {tb : Nat} {A : Nat → Prop} {a_t a_s a_keptS a_statuses a_pile a_tape a_steps a_wish a_mark a_bitsOf a_sizeOf a_number a_moved : Nat} {v_taped : Int32} {v_at : Int32} {v_fault : Int32} {v_laid : Int32} {v_open : Int32} {rr : Int32} {kk' : Int32} (fx : q_Fx p s m args meth c cX5_tear 2 RX5 (some .int) D cI cJ cZ cS tb A) : ∀ {v_isKept : Int32} {s0 : Int32} {H : Heap} {locs : List Loc} {ls : Array Slot}, q_H D A s (wX5_tear cI cJ cZ cS a_t a_s a_keptS a_statuses a_pile a_tape a_steps a_wish a_mark a_bitsOf a_sizeOf a_number a_moved v_isKept v_taped v_at v_fault v_laid v_open) H locs → lv_has ls 2 [(0, .ref a_t)] → fX5_tear_12 v_isKept s0 = some (rr, kk') → W p l e rX5_tear s m args below meth c H locs 0 0 (MQ below (q_Ri D rr A ((fun k : Int32 => (wX5_tear cI cJ cZ cS a_t a_s a_keptS a_statuses a_pile a_tape a_steps a_wish a_mark a_bitsOf a_sizeOf a_number a_moved k v_taped v_at v_fault v_laid v_open)) kk')) args s 0 0 A) (F0 m 12 ls [.int s0]) := by
  intro v_isKept s0 H locs ls h hl hf
  have hx := fx.1
  have hb := fx.2.1
  unfold fX5_tear_12 at hf
  refine lv_istore_n (lv' := [(1, .int s0), (0, .ref a_t)]) hx hb dX5_tear_12 rfl hl (by decide) rfl (fun ls hl => ?_)
  refine lv_aload_n hx hb dX5_tear_13 rfl (lv_at hl 1 rfl) ?_
  refine lv_iconst (v := 0) hx hb dX5_tear_14 (by decide) ?_
  refine q_put (v := .int 0) (ws' := (wX5_tear cI cJ cZ cS a_t a_s a_keptS a_statuses a_pile a_tape a_steps a_wish a_mark a_bitsOf a_sizeOf a_number a_moved 0 v_taped v_at v_fault v_laid v_open)) fx inX5 tyX5 tyX5_ok nmX5 h 0 rfl rfl 3 (by decide) k_639 rfl rfl rfl (Nat.le_of_ble_eq_true rfl) rfl dX5_tear_15 (fun H locs h => ?_)
  refine lv_iload_n hx hb dX5_tear_18 rfl (lv_at hl 0 rfl) ?_
  exact q_reti (fun k : Int32 => (wX5_tear cI cJ cZ cS a_t a_s a_keptS a_statuses a_pile a_tape a_steps a_wish a_mark a_bitsOf a_sizeOf a_number a_moved k v_taped v_at v_fault v_laid v_open)) fx hf h dX5_tear_19
def fX5_tear (v_isKept : Int32) : Option (Int32 × Int32) :=
  (if v_isKept = 0 then (
  fX5_tear_12  v_isKept 0)
  else (
  fX5_tear_12  v_isKept 1))
set_option maxRecDepth 100000 in
set_option maxHeartbeats 4000000 in
theorem tX5_tear (l : Launch) (D : va_G) (cI cJ cZ cS : ClassId) (tb : Nat) (a_t a_s a_keptS a_statuses a_pile a_tape a_steps a_wish a_mark a_bitsOf a_sizeOf a_number a_moved : Nat) (sz : Nat) (v_isKept : Int32) (v_taped : Int32) (v_at : Int32) (v_fault : Int32) (v_laid : Int32) (v_open : Int32) (rr : Int32) (kk' : Int32) (hf : fX5_tear v_isKept = some (rr, kk')) : Met l yX5_tear (Cond.code yX5_tear cX5_tear 2 (some .int) :: wA) rX5_tear (q_Pre D cI cJ cZ cS tb [.ref a_t] sz (wX5_tear cI cJ cZ cS a_t a_s a_keptS a_statuses a_pile a_tape a_steps a_wish a_mark a_bitsOf a_sizeOf a_number a_moved v_isKept v_taped v_at v_fault v_laid v_open)) (q_Ri D rr (va_A (wX5_tear cI cJ cZ cS a_t a_s a_keptS a_statuses a_pile a_tape a_steps a_wish a_mark a_bitsOf a_sizeOf a_number a_moved v_isKept v_taped v_at v_fault v_laid v_open) sz) ((fun k : Int32 => (wX5_tear cI cJ cZ cS a_t a_s a_keptS a_statuses a_pile a_tape a_steps a_wish a_mark a_bitsOf a_sizeOf a_number a_moved k v_taped v_at v_fault v_laid v_open)) kk')) 0 0 (va_A (wX5_tear cI cJ cZ cS a_t a_s a_keptS a_statuses a_pile a_tape a_steps a_wish a_mark a_bitsOf a_sizeOf a_number a_moved v_isKept v_taped v_at v_fault v_laid v_open) sz) := by
  refine q_enter (Qf := fun A => (q_Ri D rr A ((fun k : Int32 => (wX5_tear cI cJ cZ cS a_t a_s a_keptS a_statuses a_pile a_tape a_steps a_wish a_mark a_bitsOf a_sizeOf a_number a_moved k v_taped v_at v_fault v_laid v_open)) kk'))) (by decide) rfl (Nat.le_of_ble_eq_true rfl) ?_
  intro p e s m below meth c A ls fx hname h hl
  have hx := fx.1
  have hb := fx.2.1
  have hl : lv_has ls 2 [(0, .ref a_t)] := hl
  generalize h9 : s.heap = H at h ⊢
  clear h9
  generalize h9 : ([] : List Loc) = locs at h ⊢
  clear h9
  unfold fX5_tear at hf
  refine lv_aload_n hx hb dX5_tear_0 rfl (lv_at hl 0 rfl) ?_
  refine q_get (v := .int v_isKept) fx inX5 h 0 rfl rfl 3 (by decide) k_639 rfl dX5_tear_1 ?_
  refine lv_if_eq (tgt := 11) hx hb dX5_tear_4 (by decide) (fun c1 => ?_) (fun c1 => ?_)
  · have hf := it_t c1 hf
    refine lv_iconst (v := 0) hx hb dX5_tear_11 (by decide) ?_
    exact LX5_tear_12 fx h (lv_sub hl [0] rfl) hf
  have hf := it_f c1 hf
  refine lv_iconst (v := 1) hx hb dX5_tear_7 (by decide) ?_
  refine lv_goto (tgt := 12) hx hb dX5_tear_8 (by decide) ?_
  exact LX5_tear_12 fx h (lv_sub hl [0] rfl) hf
/-! X5_count -/
abbrev wX5_count (cI cJ cZ cS : ClassId) (a_t a_s a_keptS a_statuses a_pile a_tape a_steps a_wish a_mark a_bitsOf a_sizeOf a_number a_moved : Nat) (v_isKept : Int32) (v_taped : Int32) (v_at : Int32) (v_fault : Int32) (v_laid : Int32) (v_open : Int32) (v_s : Nat → Int32) (v_statuses : Nat → Int32) : va_W := [(a_t, .inr (5, [.ref a_s, .ref a_keptS, .ref a_statuses, .int v_isKept, .ref a_pile, .ref a_tape, .ref a_steps, .int v_taped, .int v_at, .int v_fault, .int v_laid, .int v_open, .ref a_wish, .ref a_mark, .ref a_bitsOf, .ref a_sizeOf, .ref a_number, .ref a_moved])), (a_s, .inl (cI, 538, .inl v_s)), (a_statuses, .inl (cI, 7, .inl v_statuses))]
abbrev rX5_count : Room := { frames := 2, cells := 0, slots := 0, locals := 45 }
def fX5_count_31 (v_taped : Int32) (v_s : Nat → Int32) (ag4 : (Nat → Int32) → Int32 → Int32 → Int32 → Option (Int32 × (Nat → Int32))) (v_statuses : Nat → Int32) (s0 : Int32) (s1 : Int32) (y1 : Int32) (y3 : Int32) : Option (Int32 × (Nat → Int32)) :=
  nm (s0 ||| s1) (fun u1 =>
  nm (y3 + 1) (fun u2 =>
  ag4 v_statuses y1 u1 u2))
set_option maxRecDepth 100000 in
set_option maxHeartbeats 4000000 in
theorem LX5_count_31 {p : Program} {l : Launch} {e : Env} {s : State} {m : MethodId} {args : Array Value} {below : List Frame} {meth : Method} {c : Code} {D : va_G} {cI cJ cZ cS : ClassId} {tb : Nat} {A : Nat → Prop} {a_t a_s a_keptS a_statuses a_pile a_tape a_steps a_wish a_mark a_bitsOf a_sizeOf a_number a_moved : Nat} {v_isKept : Int32} {v_taped : Int32} {v_at : Int32} {v_fault : Int32} {v_laid : Int32} {v_open : Int32} {v_s : Nat → Int32} {rr : Int32} {kk' : (Nat → Int32)} (fx : q_Fx p s m args meth c cX5_count 4 RX5 (some .int) D cI cJ cZ cS tb A) {ag4 : (Nat → Int32) → Int32 → Int32 → Int32 → Option (Int32 × (Nat → Int32))} (hag4 : ∀ {v_statuses : Nat → Int32} {y1 : Int32} {y2 : Int32} {y3 : Int32} {H : Heap} {locs : List Loc} {ls : Array Slot}, q_H D A s (wX5_count cI cJ cZ cS a_t a_s a_keptS a_statuses a_pile a_tape a_steps a_wish a_mark a_bitsOf a_sizeOf a_number a_moved v_isKept v_taped v_at v_fault v_laid v_open v_s v_statuses) H locs → lv_has ls 4 [(0, .ref a_t), (1, .int y1), (2, .int y2), (3, .int y3)] → ag4 v_statuses y1 y2 y3 = some (rr, kk') → W p l e rX5_count s m args below meth c H locs 0 0 (MQ below (q_Ri D rr A ((fun k : (Nat → Int32) => (wX5_count cI cJ cZ cS a_t a_s a_keptS a_statuses a_pile a_tape a_steps a_wish a_mark a_bitsOf a_sizeOf a_number a_moved v_isKept v_taped v_at v_fault v_laid v_open v_s k)) kk')) args s 0 0 A) (F0 m 4 ls [])) : ∀ {v_statuses : Nat → Int32} {s0 : Int32} {s1 : Int32} {y1 : Int32} {y3 : Int32} {H : Heap} {locs : List Loc} {ls : Array Slot}, q_H D A s (wX5_count cI cJ cZ cS a_t a_s a_keptS a_statuses a_pile a_tape a_steps a_wish a_mark a_bitsOf a_sizeOf a_number a_moved v_isKept v_taped v_at v_fault v_laid v_open v_s v_statuses) H locs → lv_has ls 4 [(0, .ref a_t), (1, .int y1), (3, .int y3)] → fX5_count_31 v_taped v_s ag4 v_statuses s0 s1 y1 y3 = some (rr, kk') → W p l e rX5_count s m args below meth c H locs 0 0 (MQ below (q_Ri D rr A ((fun k : (Nat → Int32) => (wX5_count cI cJ cZ cS a_t a_s a_keptS a_statuses a_pile a_tape a_steps a_wish a_mark a_bitsOf a_sizeOf a_number a_moved v_isKept v_taped v_at v_fault v_laid v_open v_s k)) kk')) args s 0 0 A) (F0 m 31 ls [.int s1, .int s0]) := by
  intro v_statuses s0 s1 y1 y3 H locs ls h hl hf
  have hx := fx.1
  have hb := fx.2.1
  unfold fX5_count_31 at hf
  refine lv_ior hx hb dX5_count_31 ?_
  obtain ⟨u1, eu1, hf⟩ := nm_inv hf
  refine lv_eqi eu1 ?_
  refine lv_istore_n (lv' := [(2, .int u1), (0, .ref a_t), (1, .int y1), (3, .int y3)]) hx hb dX5_count_32 rfl hl (by decide) rfl (fun ls hl => ?_)
  obtain ⟨u2, eu2, hf⟩ := nm_inv hf
  refine lv_iinc (v := u2) (lv' := [(3, .int u2), (2, .int u1), (0, .ref a_t), (1, .int y1)]) hx hb dX5_count_33 hl (k := 3) rfl (by rw [eu2]; rfl) (by decide) rfl (fun ls hl => ?_)
  refine lv_goto (tgt := 4) hx hb dX5_count_36 (by decide) ?_
  exact hag4 h (lv_sub hl [2, 3, 1, 0] rfl) hf
def fX5_count_4 (v_taped : Int32) (v_s : Nat → Int32) (ag4 : (Nat → Int32) → Int32 → Int32 → Int32 → Option (Int32 × (Nat → Int32))) (v_statuses : Nat → Int32) (y1 : Int32) (y2 : Int32) (y3 : Int32) : Option (Int32 × (Nat → Int32)) :=
  (if (v_s 0) ≤ y3 then (
  (if (y1).toInt < 0 ∨ 3 < (y1).toInt then (
  bR (fX5_finds v_statuses (-1000000001)) (fun r5 k5 =>
  some (r5, k5)))
  else (if y1 = 0 then (
  some (v_s 0, v_statuses))
  else (if y1 = 1 then (
  some (v_taped, v_statuses))
  else (if y1 = 2 then (
  bR (fX5_costOf v_s 255) (fun r9 k9 =>
  some (r9, v_statuses)))
  else (if y1 = 3 then (
  some (y2, v_statuses))
  else none))))))
  else (
  bR (fX5_its v_s y3 2) (fun r11 k11 =>
  (if r11 ≤ 0 then (
  fX5_count_31 v_taped v_s ag4 v_statuses y2 0 y1 y3)
  else (
  fX5_count_31 v_taped v_s ag4 v_statuses y2 (jshl 1 y3) y1 y3)))))
set_option maxRecDepth 100000 in
set_option maxHeartbeats 4000000 in
theorem LX5_count_4 {p : Program} {l : Launch} {e : Env} {s : State} {m : MethodId} {args : Array Value} {below : List Frame} {meth : Method} {c : Code} {D : va_G} {cI cJ cZ cS : ClassId} {tb : Nat} {A : Nat → Prop} {a_t a_s a_keptS a_statuses a_pile a_tape a_steps a_wish a_mark a_bitsOf a_sizeOf a_number a_moved : Nat} {v_isKept : Int32} {v_taped : Int32} {v_at : Int32} {v_fault : Int32} {v_laid : Int32} {v_open : Int32} {v_s : Nat → Int32} {rr : Int32} {kk' : (Nat → Int32)} (fx : q_Fx p s m args meth c cX5_count 4 RX5 (some .int) D cI cJ cZ cS tb A) {ag4 : (Nat → Int32) → Int32 → Int32 → Int32 → Option (Int32 × (Nat → Int32))} (hag4 : ∀ {v_statuses : Nat → Int32} {y1 : Int32} {y2 : Int32} {y3 : Int32} {H : Heap} {locs : List Loc} {ls : Array Slot}, q_H D A s (wX5_count cI cJ cZ cS a_t a_s a_keptS a_statuses a_pile a_tape a_steps a_wish a_mark a_bitsOf a_sizeOf a_number a_moved v_isKept v_taped v_at v_fault v_laid v_open v_s v_statuses) H locs → lv_has ls 4 [(0, .ref a_t), (1, .int y1), (2, .int y2), (3, .int y3)] → ag4 v_statuses y1 y2 y3 = some (rr, kk') → W p l e rX5_count s m args below meth c H locs 0 0 (MQ below (q_Ri D rr A ((fun k : (Nat → Int32) => (wX5_count cI cJ cZ cS a_t a_s a_keptS a_statuses a_pile a_tape a_steps a_wish a_mark a_bitsOf a_sizeOf a_number a_moved v_isKept v_taped v_at v_fault v_laid v_open v_s k)) kk')) args s 0 0 A) (F0 m 4 ls [])) : ∀ {v_statuses : Nat → Int32} {y1 : Int32} {y2 : Int32} {y3 : Int32} {H : Heap} {locs : List Loc} {ls : Array Slot}, q_H D A s (wX5_count cI cJ cZ cS a_t a_s a_keptS a_statuses a_pile a_tape a_steps a_wish a_mark a_bitsOf a_sizeOf a_number a_moved v_isKept v_taped v_at v_fault v_laid v_open v_s v_statuses) H locs → lv_has ls 4 [(0, .ref a_t), (1, .int y1), (2, .int y2), (3, .int y3)] → fX5_count_4 v_taped v_s ag4 v_statuses y1 y2 y3 = some (rr, kk') → W p l e rX5_count s m args below meth c H locs 0 0 (MQ below (q_Ri D rr A ((fun k : (Nat → Int32) => (wX5_count cI cJ cZ cS a_t a_s a_keptS a_statuses a_pile a_tape a_steps a_wish a_mark a_bitsOf a_sizeOf a_number a_moved v_isKept v_taped v_at v_fault v_laid v_open v_s k)) kk')) args s 0 0 A) (F0 m 4 ls []) := by
  intro v_statuses y1 y2 y3 H locs ls h hl hf
  have hx := fx.1
  have hb := fx.2.1
  unfold fX5_count_4 at hf
  refine lv_iload_n hx hb dX5_count_4 rfl (lv_at hl 3 rfl) ?_
  refine lv_aload_n hx hb dX5_count_5 rfl (lv_at hl 0 rfl) ?_
  refine q_get (v := .ref a_s) fx inX5 h 0 rfl rfl 0 (by decide) k_636 rfl dX5_count_6 ?_
  refine lv_iconst (v := 0) hx hb dX5_count_9 (by decide) ?_
  refine q_ialdK fx h 1 rfl 0 (vinK (by decide)) (by decide) dX5_count_10 ?_
  refine lv_icmp_ge (tgt := 39) hx hb dX5_count_11 (by decide) (fun c3 => ?_) (fun c3 => ?_)
  · have hf := it_t c3 hf
    refine lv_iload_n hx hb dX5_count_39 rfl (lv_at hl 1 rfl) ?_
    rcases it_or hf with ⟨c4, hf⟩ | ⟨c4, hf⟩
    · refine lv_tableOut (tgt := 94) hx hb dX5_count_40 c4 (by decide) ?_
      refine lv_aload_n hx hb dX5_count_94 rfl (lv_at hl 0 rfl) ?_
      refine q_ldc fx k_701 dX5_count_95 ?_
      obtain ⟨r5, k5, hg, hf⟩ := bR_inv hf
      refine q_ci (rest := []) (ws' := (wX5_count cI cJ cZ cS a_t a_s a_keptS a_statuses a_pile a_tape a_steps a_wish a_mark a_bitsOf a_sizeOf a_number a_moved v_isKept v_taped v_at v_fault v_laid v_open v_s k5)) (w1 := (wX5_finds cI cJ cZ cS a_t a_s a_keptS a_statuses a_pile a_tape a_steps a_wish a_mark a_bitsOf a_sizeOf a_number a_moved v_isKept v_taped v_at v_fault v_laid v_open k5)) fx h [0, 2] rfl rfl rfl rfl (q_runV fx h hl.1 [0, 2] rfl rfl (tX5_finds l D cI cJ cZ cS tb a_t a_s a_keptS a_statuses a_pile a_tape a_steps a_wish a_mark a_bitsOf a_sizeOf a_number a_moved H.size v_isKept v_taped v_at v_fault v_laid v_open v_statuses (-1000000001) r5 k5 hg) mvX5_finds k_702 ⟨rfl, rfl⟩ ⟨Nat.le_of_ble_eq_true rfl, Nat.le_of_ble_eq_true rfl⟩ rfl rfl rfl rfl (Nat.le_of_ble_eq_true rfl) dX5_count_97 ⟨Nat.le_of_ble_eq_true rfl, Nat.le_of_ble_eq_true rfl⟩) (fun H locs h => ?_)
      exact q_reti (fun k : (Nat → Int32) => (wX5_count cI cJ cZ cS a_t a_s a_keptS a_statuses a_pile a_tape a_steps a_wish a_mark a_bitsOf a_sizeOf a_number a_moved v_isKept v_taped v_at v_fault v_laid v_open v_s k)) fx hf h dX5_count_100
    have c4 := not_or.mp c4
    rcases it_or hf with ⟨c6, hf⟩ | ⟨c6, hf⟩
    · refine lv_tableIn (off := 32) (tgt := 72) hx hb dX5_count_40 c4.1 c4.2 (by rw [c6]; rfl) (by decide) ?_
      refine lv_aload_n hx hb dX5_count_72 rfl (lv_at hl 0 rfl) ?_
      refine q_get (v := .ref a_s) fx inX5 h 0 rfl rfl 0 (by decide) k_636 rfl dX5_count_73 ?_
      refine lv_iconst (v := 0) hx hb dX5_count_76 (by decide) ?_
      refine q_ialdK fx h 1 rfl 0 (vinK (by decide)) (by decide) dX5_count_77 ?_
      exact q_reti (fun k : (Nat → Int32) => (wX5_count cI cJ cZ cS a_t a_s a_keptS a_statuses a_pile a_tape a_steps a_wish a_mark a_bitsOf a_sizeOf a_number a_moved v_isKept v_taped v_at v_fault v_laid v_open v_s k)) fx hf h dX5_count_78
    rcases it_or hf with ⟨c7, hf⟩ | ⟨c7, hf⟩
    · refine lv_tableIn (off := 39) (tgt := 79) hx hb dX5_count_40 c4.1 c4.2 (by rw [c7]; rfl) (by decide) ?_
      refine lv_aload_n hx hb dX5_count_79 rfl (lv_at hl 0 rfl) ?_
      refine q_get (v := .int v_taped) fx inX5 h 0 rfl rfl 7 (by decide) k_643 rfl dX5_count_80 ?_
      exact q_reti (fun k : (Nat → Int32) => (wX5_count cI cJ cZ cS a_t a_s a_keptS a_statuses a_pile a_tape a_steps a_wish a_mark a_bitsOf a_sizeOf a_number a_moved v_isKept v_taped v_at v_fault v_laid v_open v_s k)) fx hf h dX5_count_83
    rcases it_or hf with ⟨c8, hf⟩ | ⟨c8, hf⟩
    · refine lv_tableIn (off := 44) (tgt := 84) hx hb dX5_count_40 c4.1 c4.2 (by rw [c8]; rfl) (by decide) ?_
      refine lv_aload_n hx hb dX5_count_84 rfl (lv_at hl 0 rfl) ?_
      refine lv_sipush (v := 255) hx hb dX5_count_85 (by decide) ?_
      obtain ⟨r9, k9, hg, hf⟩ := bR_inv hf
      refine q_ci (rest := []) (ws' := (wX5_count cI cJ cZ cS a_t a_s a_keptS a_statuses a_pile a_tape a_steps a_wish a_mark a_bitsOf a_sizeOf a_number a_moved v_isKept v_taped v_at v_fault v_laid v_open v_s v_statuses)) (w1 := (wX5_costOf cI cJ cZ cS a_t a_s a_keptS a_statuses a_pile a_tape a_steps a_wish a_mark a_bitsOf a_sizeOf a_number a_moved v_isKept v_taped v_at v_fault v_laid v_open v_s)) fx h [0, 1] rfl rfl rfl rfl (q_runV fx h hl.1 [0, 1] rfl rfl (tX5_costOf l D cI cJ cZ cS tb a_t a_s a_keptS a_statuses a_pile a_tape a_steps a_wish a_mark a_bitsOf a_sizeOf a_number a_moved H.size v_isKept v_taped v_at v_fault v_laid v_open v_s 255 r9 k9 hg) mvX5_costOf k_822 ⟨rfl, rfl⟩ ⟨Nat.le_of_ble_eq_true rfl, Nat.le_of_ble_eq_true rfl⟩ rfl rfl rfl rfl (Nat.le_of_ble_eq_true rfl) dX5_count_88 ⟨Nat.le_of_ble_eq_true rfl, Nat.le_of_ble_eq_true rfl⟩) (fun H locs h => ?_)
      exact q_reti (fun k : (Nat → Int32) => (wX5_count cI cJ cZ cS a_t a_s a_keptS a_statuses a_pile a_tape a_steps a_wish a_mark a_bitsOf a_sizeOf a_number a_moved v_isKept v_taped v_at v_fault v_laid v_open v_s k)) fx hf h dX5_count_91
    rcases it_or hf with ⟨c10, hf⟩ | ⟨c10, hf⟩
    · refine lv_tableIn (off := 52) (tgt := 92) hx hb dX5_count_40 c4.1 c4.2 (by rw [c10]; rfl) (by decide) ?_
      refine lv_iload_n hx hb dX5_count_92 rfl (lv_at hl 2 rfl) ?_
      exact q_reti (fun k : (Nat → Int32) => (wX5_count cI cJ cZ cS a_t a_s a_keptS a_statuses a_pile a_tape a_steps a_wish a_mark a_bitsOf a_sizeOf a_number a_moved v_isKept v_taped v_at v_fault v_laid v_open v_s k)) fx hf h dX5_count_93
    cases hf
  have hf := it_f c3 hf
  refine lv_iload_n hx hb dX5_count_14 rfl (lv_at hl 2 rfl) ?_
  refine lv_aload_n hx hb dX5_count_15 rfl (lv_at hl 0 rfl) ?_
  refine lv_iload_n hx hb dX5_count_16 rfl (lv_at hl 3 rfl) ?_
  refine lv_iconst (v := 2) hx hb dX5_count_17 (by decide) ?_
  obtain ⟨r11, k11, hg, hf⟩ := bR_inv hf
  refine q_ci (rest := [.int y2]) (ws' := (wX5_count cI cJ cZ cS a_t a_s a_keptS a_statuses a_pile a_tape a_steps a_wish a_mark a_bitsOf a_sizeOf a_number a_moved v_isKept v_taped v_at v_fault v_laid v_open v_s v_statuses)) (w1 := (wX5_its cI cJ cZ cS a_t a_s a_keptS a_statuses a_pile a_tape a_steps a_wish a_mark a_bitsOf a_sizeOf a_number a_moved v_isKept v_taped v_at v_fault v_laid v_open v_s)) fx h [0, 1] rfl rfl rfl rfl (q_runV fx h hl.1 [0, 1] rfl rfl (tX5_its l D cI cJ cZ cS tb a_t a_s a_keptS a_statuses a_pile a_tape a_steps a_wish a_mark a_bitsOf a_sizeOf a_number a_moved H.size v_isKept v_taped v_at v_fault v_laid v_open v_s y3 2 r11 k11 hg) mvX5_its k_725 ⟨rfl, rfl⟩ ⟨Nat.le_of_ble_eq_true rfl, Nat.le_of_ble_eq_true rfl⟩ rfl rfl rfl rfl (Nat.le_of_ble_eq_true rfl) dX5_count_18 ⟨Nat.le_of_ble_eq_true rfl, Nat.le_of_ble_eq_true rfl⟩) (fun H locs h => ?_)
  refine lv_if_le (tgt := 30) hx hb dX5_count_21 (by decide) (fun c12 => ?_) (fun c12 => ?_)
  · have hf := it_t c12 hf
    refine lv_iconst (v := 0) hx hb dX5_count_30 (by decide) ?_
    exact LX5_count_31 fx hag4 h (lv_sub hl [0, 1, 3] rfl) hf
  have hf := it_f c12 hf
  refine lv_iconst (v := 1) hx hb dX5_count_24 (by decide) ?_
  refine lv_iload_n hx hb dX5_count_25 rfl (lv_at hl 3 rfl) ?_
  refine lv_ishl hx hb dX5_count_26 ?_
  refine lv_goto (tgt := 31) hx hb dX5_count_27 (by decide) ?_
  exact LX5_count_31 fx hag4 h (lv_sub hl [0, 1, 3] rfl) hf
set_option maxRecDepth 100000 in
theorem EX5_count_4 {p : Program} {l : Launch} {e : Env} {s : State} {m : MethodId} {args : Array Value} {below : List Frame} {meth : Method} {c : Code} {D : va_G} {cI cJ cZ cS : ClassId} {tb : Nat} {A : Nat → Prop} {a_t a_s a_keptS a_statuses a_pile a_tape a_steps a_wish a_mark a_bitsOf a_sizeOf a_number a_moved : Nat} {v_isKept : Int32} {v_taped : Int32} {v_at : Int32} {v_fault : Int32} {v_laid : Int32} {v_open : Int32} {v_s : Nat → Int32} {rr : Int32} {kk' : (Nat → Int32)} (fx : q_Fx p s m args meth c cX5_count 4 RX5 (some .int) D cI cJ cZ cS tb A) : ∀ (n : Nat), ∀ {v_statuses : Nat → Int32} {y1 : Int32} {y2 : Int32} {y3 : Int32} {H : Heap} {locs : List Loc} {ls : Array Slot}, q_H D A s (wX5_count cI cJ cZ cS a_t a_s a_keptS a_statuses a_pile a_tape a_steps a_wish a_mark a_bitsOf a_sizeOf a_number a_moved v_isKept v_taped v_at v_fault v_laid v_open v_s v_statuses) H locs → lv_has ls 4 [(0, .ref a_t), (1, .int y1), (2, .int y2), (3, .int y3)] → ll4 (fX5_count_4 v_taped v_s) n v_statuses y1 y2 y3 = some (rr, kk') → W p l e rX5_count s m args below meth c H locs 0 0 (MQ below (q_Ri D rr A ((fun k : (Nat → Int32) => (wX5_count cI cJ cZ cS a_t a_s a_keptS a_statuses a_pile a_tape a_steps a_wish a_mark a_bitsOf a_sizeOf a_number a_moved v_isKept v_taped v_at v_fault v_laid v_open v_s k)) kk')) args s 0 0 A) (F0 m 4 ls []) := by
  intro n
  induction n with
  | zero => intro v_statuses y1 y2 y3 H locs ls h hl hf; exact (ll4_z hf).elim
  | succ n ih => intro v_statuses y1 y2 y3 H locs ls h hl hf; exact LX5_count_4 fx ih h hl (ll4_s hf)
def fX5_count (v_taped : Int32) (v_s : Nat → Int32) (v_statuses : Nat → Int32) (x1 : Int32) : Option (Int32 × (Nat → Int32)) :=
  ll4 (fX5_count_4 v_taped v_s) qF v_statuses x1 0 0
set_option maxRecDepth 100000 in
set_option maxHeartbeats 4000000 in
theorem tX5_count (l : Launch) (D : va_G) (cI cJ cZ cS : ClassId) (tb : Nat) (a_t a_s a_keptS a_statuses a_pile a_tape a_steps a_wish a_mark a_bitsOf a_sizeOf a_number a_moved : Nat) (sz : Nat) (v_isKept : Int32) (v_taped : Int32) (v_at : Int32) (v_fault : Int32) (v_laid : Int32) (v_open : Int32) (v_s : Nat → Int32) (v_statuses : Nat → Int32) (x1 : Int32) (rr : Int32) (kk' : (Nat → Int32)) (hf : fX5_count v_taped v_s v_statuses x1 = some (rr, kk')) : Met l yX5_count (Cond.code yX5_count cX5_count 4 (some .int) :: wA) rX5_count (q_Pre D cI cJ cZ cS tb [.ref a_t, .int x1] sz (wX5_count cI cJ cZ cS a_t a_s a_keptS a_statuses a_pile a_tape a_steps a_wish a_mark a_bitsOf a_sizeOf a_number a_moved v_isKept v_taped v_at v_fault v_laid v_open v_s v_statuses)) (q_Ri D rr (va_A (wX5_count cI cJ cZ cS a_t a_s a_keptS a_statuses a_pile a_tape a_steps a_wish a_mark a_bitsOf a_sizeOf a_number a_moved v_isKept v_taped v_at v_fault v_laid v_open v_s v_statuses) sz) ((fun k : (Nat → Int32) => (wX5_count cI cJ cZ cS a_t a_s a_keptS a_statuses a_pile a_tape a_steps a_wish a_mark a_bitsOf a_sizeOf a_number a_moved v_isKept v_taped v_at v_fault v_laid v_open v_s k)) kk')) 0 0 (va_A (wX5_count cI cJ cZ cS a_t a_s a_keptS a_statuses a_pile a_tape a_steps a_wish a_mark a_bitsOf a_sizeOf a_number a_moved v_isKept v_taped v_at v_fault v_laid v_open v_s v_statuses) sz) := by
  refine q_enter (Qf := fun A => (q_Ri D rr A ((fun k : (Nat → Int32) => (wX5_count cI cJ cZ cS a_t a_s a_keptS a_statuses a_pile a_tape a_steps a_wish a_mark a_bitsOf a_sizeOf a_number a_moved v_isKept v_taped v_at v_fault v_laid v_open v_s k)) kk'))) (by decide) rfl (Nat.le_of_ble_eq_true rfl) ?_
  intro p e s m below meth c A ls fx hname h hl
  have hx := fx.1
  have hb := fx.2.1
  have hl : lv_has ls 4 [(0, .ref a_t), (1, .int x1)] := hl
  generalize h9 : s.heap = H at h ⊢
  clear h9
  generalize h9 : ([] : List Loc) = locs at h ⊢
  clear h9
  unfold fX5_count at hf
  refine lv_iconst (v := 0) hx hb dX5_count_0 (by decide) ?_
  refine lv_istore_n (lv' := [(2, .int 0), (0, .ref a_t), (1, .int x1)]) hx hb dX5_count_1 rfl hl (by decide) rfl (fun ls hl => ?_)
  refine lv_iconst (v := 0) hx hb dX5_count_2 (by decide) ?_
  refine lv_istore_n (lv' := [(3, .int 0), (2, .int 0), (0, .ref a_t), (1, .int x1)]) hx hb dX5_count_3 rfl hl (by decide) rfl (fun ls hl => ?_)
  exact EX5_count_4 fx qF h (lv_sub hl [2, 3, 1, 0] rfl) hf
/-! X5_status -/
abbrev wX5_status (cI cJ cZ cS : ClassId) (a_t a_s a_keptS a_statuses a_pile a_tape a_steps a_wish a_mark a_bitsOf a_sizeOf a_number a_moved : Nat) (v_isKept : Int32) (v_taped : Int32) (v_at : Int32) (v_fault : Int32) (v_laid : Int32) (v_open : Int32) (v_statuses : Nat → Int32) : va_W := [(a_t, .inr (5, [.ref a_s, .ref a_keptS, .ref a_statuses, .int v_isKept, .ref a_pile, .ref a_tape, .ref a_steps, .int v_taped, .int v_at, .int v_fault, .int v_laid, .int v_open, .ref a_wish, .ref a_mark, .ref a_bitsOf, .ref a_sizeOf, .ref a_number, .ref a_moved])), (a_statuses, .inl (cI, 7, .inl v_statuses))]
abbrev rX5_status : Room := { frames := 1, cells := 0, slots := 0, locals := 25 }
def fX5_status_51 (ag25 : (Nat → Int32) → Int32 → Int32 → Int32 → Option (Int32 × (Nat → Int32))) (v_statuses : Nat → Int32) (s0 : Int32) (s1 : Int32) (y1 : Int32) (y3 : Int32) : Option (Int32 × (Nat → Int32)) :=
  nm (s0 + s1) (fun u1 =>
  nm (y3 + 1) (fun u2 =>
  ag25 v_statuses y1 u1 u2))
set_option maxRecDepth 100000 in
set_option maxHeartbeats 4000000 in
theorem LX5_status_51 {p : Program} {l : Launch} {e : Env} {s : State} {m : MethodId} {args : Array Value} {below : List Frame} {meth : Method} {c : Code} {D : va_G} {cI cJ cZ cS : ClassId} {tb : Nat} {A : Nat → Prop} {a_t a_s a_keptS a_statuses a_pile a_tape a_steps a_wish a_mark a_bitsOf a_sizeOf a_number a_moved : Nat} {v_isKept : Int32} {v_taped : Int32} {v_at : Int32} {v_fault : Int32} {v_laid : Int32} {v_open : Int32} {rr : Int32} {kk' : (Nat → Int32)} (fx : q_Fx p s m args meth c cX5_status 4 RX5 (some .int) D cI cJ cZ cS tb A) {ag25 : (Nat → Int32) → Int32 → Int32 → Int32 → Option (Int32 × (Nat → Int32))} (hag25 : ∀ {v_statuses : Nat → Int32} {y1 : Int32} {y2 : Int32} {y3 : Int32} {H : Heap} {locs : List Loc} {ls : Array Slot}, q_H D A s (wX5_status cI cJ cZ cS a_t a_s a_keptS a_statuses a_pile a_tape a_steps a_wish a_mark a_bitsOf a_sizeOf a_number a_moved v_isKept v_taped v_at v_fault v_laid v_open v_statuses) H locs → lv_has ls 4 [(0, .ref a_t), (1, .int y1), (2, .int y2), (3, .int y3)] → ag25 v_statuses y1 y2 y3 = some (rr, kk') → W p l e rX5_status s m args below meth c H locs 0 0 (MQ below (q_Ri D rr A ((fun k : (Nat → Int32) => (wX5_status cI cJ cZ cS a_t a_s a_keptS a_statuses a_pile a_tape a_steps a_wish a_mark a_bitsOf a_sizeOf a_number a_moved v_isKept v_taped v_at v_fault v_laid v_open k)) kk')) args s 0 0 A) (F0 m 25 ls [])) : ∀ {v_statuses : Nat → Int32} {s0 : Int32} {s1 : Int32} {y1 : Int32} {y3 : Int32} {H : Heap} {locs : List Loc} {ls : Array Slot}, q_H D A s (wX5_status cI cJ cZ cS a_t a_s a_keptS a_statuses a_pile a_tape a_steps a_wish a_mark a_bitsOf a_sizeOf a_number a_moved v_isKept v_taped v_at v_fault v_laid v_open v_statuses) H locs → lv_has ls 4 [(0, .ref a_t), (1, .int y1), (3, .int y3)] → fX5_status_51 ag25 v_statuses s0 s1 y1 y3 = some (rr, kk') → W p l e rX5_status s m args below meth c H locs 0 0 (MQ below (q_Ri D rr A ((fun k : (Nat → Int32) => (wX5_status cI cJ cZ cS a_t a_s a_keptS a_statuses a_pile a_tape a_steps a_wish a_mark a_bitsOf a_sizeOf a_number a_moved v_isKept v_taped v_at v_fault v_laid v_open k)) kk')) args s 0 0 A) (F0 m 51 ls [.int s1, .int s0]) := by
  intro v_statuses s0 s1 y1 y3 H locs ls h hl hf
  have hx := fx.1
  have hb := fx.2.1
  unfold fX5_status_51 at hf
  refine lv_iadd hx hb dX5_status_51 ?_
  obtain ⟨u1, eu1, hf⟩ := nm_inv hf
  refine lv_eqi eu1 ?_
  refine lv_istore_n (lv' := [(2, .int u1), (0, .ref a_t), (1, .int y1), (3, .int y3)]) hx hb dX5_status_52 rfl hl (by decide) rfl (fun ls hl => ?_)
  obtain ⟨u2, eu2, hf⟩ := nm_inv hf
  refine lv_iinc (v := u2) (lv' := [(3, .int u2), (2, .int u1), (0, .ref a_t), (1, .int y1)]) hx hb dX5_status_53 hl (k := 3) rfl (by rw [eu2]; rfl) (by decide) rfl (fun ls hl => ?_)
  refine lv_goto (tgt := 25) hx hb dX5_status_56 (by decide) ?_
  exact hag25 h (lv_sub hl [2, 3, 1, 0] rfl) hf
def fX5_status_41 (ag25 : (Nat → Int32) → Int32 → Int32 → Int32 → Option (Int32 × (Nat → Int32))) (v_statuses : Nat → Int32) (s0 : Int32) (y1 : Int32) (y3 : Int32) : Option (Int32 × (Nat → Int32)) :=
  gIn y3 7 (
  fX5_status_51 ag25 v_statuses s0 (v_statuses y3.toNatClampNeg) y1 y3)
set_option maxRecDepth 100000 in
set_option maxHeartbeats 4000000 in
theorem LX5_status_41 {p : Program} {l : Launch} {e : Env} {s : State} {m : MethodId} {args : Array Value} {below : List Frame} {meth : Method} {c : Code} {D : va_G} {cI cJ cZ cS : ClassId} {tb : Nat} {A : Nat → Prop} {a_t a_s a_keptS a_statuses a_pile a_tape a_steps a_wish a_mark a_bitsOf a_sizeOf a_number a_moved : Nat} {v_isKept : Int32} {v_taped : Int32} {v_at : Int32} {v_fault : Int32} {v_laid : Int32} {v_open : Int32} {rr : Int32} {kk' : (Nat → Int32)} (fx : q_Fx p s m args meth c cX5_status 4 RX5 (some .int) D cI cJ cZ cS tb A) {ag25 : (Nat → Int32) → Int32 → Int32 → Int32 → Option (Int32 × (Nat → Int32))} (hag25 : ∀ {v_statuses : Nat → Int32} {y1 : Int32} {y2 : Int32} {y3 : Int32} {H : Heap} {locs : List Loc} {ls : Array Slot}, q_H D A s (wX5_status cI cJ cZ cS a_t a_s a_keptS a_statuses a_pile a_tape a_steps a_wish a_mark a_bitsOf a_sizeOf a_number a_moved v_isKept v_taped v_at v_fault v_laid v_open v_statuses) H locs → lv_has ls 4 [(0, .ref a_t), (1, .int y1), (2, .int y2), (3, .int y3)] → ag25 v_statuses y1 y2 y3 = some (rr, kk') → W p l e rX5_status s m args below meth c H locs 0 0 (MQ below (q_Ri D rr A ((fun k : (Nat → Int32) => (wX5_status cI cJ cZ cS a_t a_s a_keptS a_statuses a_pile a_tape a_steps a_wish a_mark a_bitsOf a_sizeOf a_number a_moved v_isKept v_taped v_at v_fault v_laid v_open k)) kk')) args s 0 0 A) (F0 m 25 ls [])) : ∀ {v_statuses : Nat → Int32} {s0 : Int32} {y1 : Int32} {y3 : Int32} {H : Heap} {locs : List Loc} {ls : Array Slot}, q_H D A s (wX5_status cI cJ cZ cS a_t a_s a_keptS a_statuses a_pile a_tape a_steps a_wish a_mark a_bitsOf a_sizeOf a_number a_moved v_isKept v_taped v_at v_fault v_laid v_open v_statuses) H locs → lv_has ls 4 [(0, .ref a_t), (1, .int y1), (3, .int y3)] → fX5_status_41 ag25 v_statuses s0 y1 y3 = some (rr, kk') → W p l e rX5_status s m args below meth c H locs 0 0 (MQ below (q_Ri D rr A ((fun k : (Nat → Int32) => (wX5_status cI cJ cZ cS a_t a_s a_keptS a_statuses a_pile a_tape a_steps a_wish a_mark a_bitsOf a_sizeOf a_number a_moved v_isKept v_taped v_at v_fault v_laid v_open k)) kk')) args s 0 0 A) (F0 m 41 ls [.int s0]) := by
  intro v_statuses s0 y1 y3 H locs ls h hl hf
  have hx := fx.1
  have hb := fx.2.1
  unfold fX5_status_41 at hf
  refine lv_aload_n hx hb dX5_status_41 rfl (lv_at hl 0 rfl) ?_
  refine q_get (v := .ref a_statuses) fx inX5 h 0 rfl rfl 2 (by decide) k_638 rfl dX5_status_42 ?_
  refine lv_iload_n hx hb dX5_status_45 rfl (lv_at hl 2 rfl) ?_
  obtain ⟨i3, hf⟩ := gIn_inv hf
  refine q_iald fx h 1 rfl i3 dX5_status_46 ?_
  refine lv_goto (tgt := 51) hx hb dX5_status_47 (by decide) ?_
  exact LX5_status_51 fx hag25 h (lv_sub hl [0, 1, 2] rfl) hf
def fX5_status_25 (ag25 : (Nat → Int32) → Int32 → Int32 → Int32 → Option (Int32 × (Nat → Int32))) (v_statuses : Nat → Int32) (y1 : Int32) (y2 : Int32) (y3 : Int32) : Option (Int32 × (Nat → Int32)) :=
  (if (7 : Int32) ≤ y3 then (
  some (y2, v_statuses))
  else (
  (if y1 < 0 then (
  fX5_status_41 ag25 v_statuses y2 y1 y3)
  else (
  (if y3 = y1 then (
  fX5_status_41 ag25 v_statuses y2 y1 y3)
  else (
  fX5_status_51 ag25 v_statuses y2 0 y1 y3))))))
set_option maxRecDepth 100000 in
set_option maxHeartbeats 4000000 in
theorem LX5_status_25 {p : Program} {l : Launch} {e : Env} {s : State} {m : MethodId} {args : Array Value} {below : List Frame} {meth : Method} {c : Code} {D : va_G} {cI cJ cZ cS : ClassId} {tb : Nat} {A : Nat → Prop} {a_t a_s a_keptS a_statuses a_pile a_tape a_steps a_wish a_mark a_bitsOf a_sizeOf a_number a_moved : Nat} {v_isKept : Int32} {v_taped : Int32} {v_at : Int32} {v_fault : Int32} {v_laid : Int32} {v_open : Int32} {rr : Int32} {kk' : (Nat → Int32)} (fx : q_Fx p s m args meth c cX5_status 4 RX5 (some .int) D cI cJ cZ cS tb A) {ag25 : (Nat → Int32) → Int32 → Int32 → Int32 → Option (Int32 × (Nat → Int32))} (hag25 : ∀ {v_statuses : Nat → Int32} {y1 : Int32} {y2 : Int32} {y3 : Int32} {H : Heap} {locs : List Loc} {ls : Array Slot}, q_H D A s (wX5_status cI cJ cZ cS a_t a_s a_keptS a_statuses a_pile a_tape a_steps a_wish a_mark a_bitsOf a_sizeOf a_number a_moved v_isKept v_taped v_at v_fault v_laid v_open v_statuses) H locs → lv_has ls 4 [(0, .ref a_t), (1, .int y1), (2, .int y2), (3, .int y3)] → ag25 v_statuses y1 y2 y3 = some (rr, kk') → W p l e rX5_status s m args below meth c H locs 0 0 (MQ below (q_Ri D rr A ((fun k : (Nat → Int32) => (wX5_status cI cJ cZ cS a_t a_s a_keptS a_statuses a_pile a_tape a_steps a_wish a_mark a_bitsOf a_sizeOf a_number a_moved v_isKept v_taped v_at v_fault v_laid v_open k)) kk')) args s 0 0 A) (F0 m 25 ls [])) : ∀ {v_statuses : Nat → Int32} {y1 : Int32} {y2 : Int32} {y3 : Int32} {H : Heap} {locs : List Loc} {ls : Array Slot}, q_H D A s (wX5_status cI cJ cZ cS a_t a_s a_keptS a_statuses a_pile a_tape a_steps a_wish a_mark a_bitsOf a_sizeOf a_number a_moved v_isKept v_taped v_at v_fault v_laid v_open v_statuses) H locs → lv_has ls 4 [(0, .ref a_t), (1, .int y1), (2, .int y2), (3, .int y3)] → fX5_status_25 ag25 v_statuses y1 y2 y3 = some (rr, kk') → W p l e rX5_status s m args below meth c H locs 0 0 (MQ below (q_Ri D rr A ((fun k : (Nat → Int32) => (wX5_status cI cJ cZ cS a_t a_s a_keptS a_statuses a_pile a_tape a_steps a_wish a_mark a_bitsOf a_sizeOf a_number a_moved v_isKept v_taped v_at v_fault v_laid v_open k)) kk')) args s 0 0 A) (F0 m 25 ls []) := by
  intro v_statuses y1 y2 y3 H locs ls h hl hf
  have hx := fx.1
  have hb := fx.2.1
  unfold fX5_status_25 at hf
  refine lv_iload_n hx hb dX5_status_25 rfl (lv_at hl 3 rfl) ?_
  refine lv_bipush (v := 7) hx hb dX5_status_26 (by decide) ?_
  refine lv_icmp_ge (tgt := 59) hx hb dX5_status_28 (by decide) (fun c4 => ?_) (fun c4 => ?_)
  · have hf := it_t c4 hf
    refine lv_iload_n hx hb dX5_status_59 rfl (lv_at hl 2 rfl) ?_
    exact q_reti (fun k : (Nat → Int32) => (wX5_status cI cJ cZ cS a_t a_s a_keptS a_statuses a_pile a_tape a_steps a_wish a_mark a_bitsOf a_sizeOf a_number a_moved v_isKept v_taped v_at v_fault v_laid v_open k)) fx hf h dX5_status_60
  have hf := it_f c4 hf
  refine lv_iload_n hx hb dX5_status_31 rfl (lv_at hl 2 rfl) ?_
  refine lv_iload_n hx hb dX5_status_32 rfl (lv_at hl 1 rfl) ?_
  refine lv_if_lt (tgt := 41) hx hb dX5_status_33 (by decide) (fun c5 => ?_) (fun c5 => ?_)
  · have hf := it_t c5 hf
    exact LX5_status_41 fx hag25 h (lv_sub hl [0, 1, 3] rfl) hf
  have hf := it_f c5 hf
  refine lv_iload_n hx hb dX5_status_36 rfl (lv_at hl 3 rfl) ?_
  refine lv_iload_n hx hb dX5_status_37 rfl (lv_at hl 1 rfl) ?_
  refine lv_icmp_ne (tgt := 50) hx hb dX5_status_38 (by decide) (fun c6 => ?_) (fun c6 => ?_)
  · have hf := it_f c6 hf
    refine lv_iconst (v := 0) hx hb dX5_status_50 (by decide) ?_
    exact LX5_status_51 fx hag25 h (lv_sub hl [0, 1, 3] rfl) hf
  have hf := it_t c6 hf
  exact LX5_status_41 fx hag25 h (lv_sub hl [0, 1, 3] rfl) hf
set_option maxRecDepth 100000 in
theorem EX5_status_25 {p : Program} {l : Launch} {e : Env} {s : State} {m : MethodId} {args : Array Value} {below : List Frame} {meth : Method} {c : Code} {D : va_G} {cI cJ cZ cS : ClassId} {tb : Nat} {A : Nat → Prop} {a_t a_s a_keptS a_statuses a_pile a_tape a_steps a_wish a_mark a_bitsOf a_sizeOf a_number a_moved : Nat} {v_isKept : Int32} {v_taped : Int32} {v_at : Int32} {v_fault : Int32} {v_laid : Int32} {v_open : Int32} {rr : Int32} {kk' : (Nat → Int32)} (fx : q_Fx p s m args meth c cX5_status 4 RX5 (some .int) D cI cJ cZ cS tb A) : ∀ (n : Nat), ∀ {v_statuses : Nat → Int32} {y1 : Int32} {y2 : Int32} {y3 : Int32} {H : Heap} {locs : List Loc} {ls : Array Slot}, q_H D A s (wX5_status cI cJ cZ cS a_t a_s a_keptS a_statuses a_pile a_tape a_steps a_wish a_mark a_bitsOf a_sizeOf a_number a_moved v_isKept v_taped v_at v_fault v_laid v_open v_statuses) H locs → lv_has ls 4 [(0, .ref a_t), (1, .int y1), (2, .int y2), (3, .int y3)] → ll4 (fX5_status_25 ) n v_statuses y1 y2 y3 = some (rr, kk') → W p l e rX5_status s m args below meth c H locs 0 0 (MQ below (q_Ri D rr A ((fun k : (Nat → Int32) => (wX5_status cI cJ cZ cS a_t a_s a_keptS a_statuses a_pile a_tape a_steps a_wish a_mark a_bitsOf a_sizeOf a_number a_moved v_isKept v_taped v_at v_fault v_laid v_open k)) kk')) args s 0 0 A) (F0 m 25 ls []) := by
  intro n
  induction n with
  | zero => intro v_statuses y1 y2 y3 H locs ls h hl hf; exact (ll4_z hf).elim
  | succ n ih => intro v_statuses y1 y2 y3 H locs ls h hl hf; exact LX5_status_25 fx ih h hl (ll4_s hf)
def fX5_status (v_statuses : Nat → Int32) (x1 : Int32) : Option (Int32 × (Nat → Int32)) :=
  bR (fX5_in (x1.toInt64) (-1) 6) (fun r7 k7 =>
  (if r7 = 0 then (
  bR (fX5_finds v_statuses (-1000000001)) (fun r9 k9 =>
  some (r9, k9)))
  else (
  ll4 (fX5_status_25 ) qF v_statuses x1 0 0)))
set_option maxRecDepth 100000 in
set_option maxHeartbeats 4000000 in
theorem tX5_status (l : Launch) (D : va_G) (cI cJ cZ cS : ClassId) (tb : Nat) (a_t a_s a_keptS a_statuses a_pile a_tape a_steps a_wish a_mark a_bitsOf a_sizeOf a_number a_moved : Nat) (sz : Nat) (v_isKept : Int32) (v_taped : Int32) (v_at : Int32) (v_fault : Int32) (v_laid : Int32) (v_open : Int32) (v_statuses : Nat → Int32) (x1 : Int32) (rr : Int32) (kk' : (Nat → Int32)) (hf : fX5_status v_statuses x1 = some (rr, kk')) : Met l yX5_status (Cond.code yX5_status cX5_status 4 (some .int) :: wA) rX5_status (q_Pre D cI cJ cZ cS tb [.ref a_t, .int x1] sz (wX5_status cI cJ cZ cS a_t a_s a_keptS a_statuses a_pile a_tape a_steps a_wish a_mark a_bitsOf a_sizeOf a_number a_moved v_isKept v_taped v_at v_fault v_laid v_open v_statuses)) (q_Ri D rr (va_A (wX5_status cI cJ cZ cS a_t a_s a_keptS a_statuses a_pile a_tape a_steps a_wish a_mark a_bitsOf a_sizeOf a_number a_moved v_isKept v_taped v_at v_fault v_laid v_open v_statuses) sz) ((fun k : (Nat → Int32) => (wX5_status cI cJ cZ cS a_t a_s a_keptS a_statuses a_pile a_tape a_steps a_wish a_mark a_bitsOf a_sizeOf a_number a_moved v_isKept v_taped v_at v_fault v_laid v_open k)) kk')) 0 0 (va_A (wX5_status cI cJ cZ cS a_t a_s a_keptS a_statuses a_pile a_tape a_steps a_wish a_mark a_bitsOf a_sizeOf a_number a_moved v_isKept v_taped v_at v_fault v_laid v_open v_statuses) sz) := by
  refine q_enter (Qf := fun A => (q_Ri D rr A ((fun k : (Nat → Int32) => (wX5_status cI cJ cZ cS a_t a_s a_keptS a_statuses a_pile a_tape a_steps a_wish a_mark a_bitsOf a_sizeOf a_number a_moved v_isKept v_taped v_at v_fault v_laid v_open k)) kk'))) (by decide) rfl (Nat.le_of_ble_eq_true rfl) ?_
  intro p e s m below meth c A ls fx hname h hl
  have hx := fx.1
  have hb := fx.2.1
  have hl : lv_has ls 4 [(0, .ref a_t), (1, .int x1)] := hl
  generalize h9 : s.heap = H at h ⊢
  clear h9
  generalize h9 : ([] : List Loc) = locs at h ⊢
  clear h9
  unfold fX5_status at hf
  refine lv_iload_n hx hb dX5_status_0 rfl (lv_at hl 1 rfl) ?_
  refine lv_i2l hx hb dX5_status_1 rfl ?_
  refine q_ldc2 fx k_1015 dX5_status_2 ?_
  refine q_ldc2 fx k_1016 dX5_status_5 ?_
  obtain ⟨r7, k7, hg, hf⟩ := bR_inv hf
  refine q_ci (rest := []) (ws' := (wX5_status cI cJ cZ cS a_t a_s a_keptS a_statuses a_pile a_tape a_steps a_wish a_mark a_bitsOf a_sizeOf a_number a_moved v_isKept v_taped v_at v_fault v_laid v_open v_statuses)) (w1 := (wX5_in cI cJ cZ cS)) fx h [] rfl rfl rfl rfl (q_runS fx h hl.1 [] rfl rfl (tX5_in l D cI cJ cZ cS tb H.size (x1.toInt64) (-1) 6 r7 k7 hg) msX5_in k_697 ⟨rfl, rfl⟩ ⟨Nat.le_of_ble_eq_true rfl, Nat.le_of_ble_eq_true rfl⟩ rfl rfl (Nat.le_of_ble_eq_true rfl) dX5_status_8 ⟨Nat.le_of_ble_eq_true rfl, Nat.le_of_ble_eq_true rfl⟩) (fun H locs h => ?_)
  refine lv_if_ne (tgt := 21) hx hb dX5_status_11 (by decide) (fun c8 => ?_) (fun c8 => ?_)
  · have hf := it_f c8 hf
    refine lv_iconst (v := 0) hx hb dX5_status_21 (by decide) ?_
    refine lv_istore_n (lv' := [(2, .int 0), (0, .ref a_t), (1, .int x1)]) hx hb dX5_status_22 rfl hl (by decide) rfl (fun ls hl => ?_)
    refine lv_iconst (v := 0) hx hb dX5_status_23 (by decide) ?_
    refine lv_istore_n (lv' := [(3, .int 0), (2, .int 0), (0, .ref a_t), (1, .int x1)]) hx hb dX5_status_24 rfl hl (by decide) rfl (fun ls hl => ?_)
    exact EX5_status_25 fx qF h (lv_sub hl [2, 3, 1, 0] rfl) hf
  have hf := it_t c8 hf
  refine lv_aload_n hx hb dX5_status_14 rfl (lv_at hl 0 rfl) ?_
  refine q_ldc fx k_701 dX5_status_15 ?_
  obtain ⟨r9, k9, hg, hf⟩ := bR_inv hf
  refine q_ci (rest := []) (ws' := (wX5_status cI cJ cZ cS a_t a_s a_keptS a_statuses a_pile a_tape a_steps a_wish a_mark a_bitsOf a_sizeOf a_number a_moved v_isKept v_taped v_at v_fault v_laid v_open k9)) (w1 := (wX5_finds cI cJ cZ cS a_t a_s a_keptS a_statuses a_pile a_tape a_steps a_wish a_mark a_bitsOf a_sizeOf a_number a_moved v_isKept v_taped v_at v_fault v_laid v_open k9)) fx h [0, 1] rfl rfl rfl rfl (q_runV fx h hl.1 [0, 1] rfl rfl (tX5_finds l D cI cJ cZ cS tb a_t a_s a_keptS a_statuses a_pile a_tape a_steps a_wish a_mark a_bitsOf a_sizeOf a_number a_moved H.size v_isKept v_taped v_at v_fault v_laid v_open v_statuses (-1000000001) r9 k9 hg) mvX5_finds k_702 ⟨rfl, rfl⟩ ⟨Nat.le_of_ble_eq_true rfl, Nat.le_of_ble_eq_true rfl⟩ rfl rfl rfl rfl (Nat.le_of_ble_eq_true rfl) dX5_status_17 ⟨Nat.le_of_ble_eq_true rfl, Nat.le_of_ble_eq_true rfl⟩) (fun H locs h => ?_)
  exact q_reti (fun k : (Nat → Int32) => (wX5_status cI cJ cZ cS a_t a_s a_keptS a_statuses a_pile a_tape a_steps a_wish a_mark a_bitsOf a_sizeOf a_number a_moved v_isKept v_taped v_at v_fault v_laid v_open k)) fx hf h dX5_status_20
end
