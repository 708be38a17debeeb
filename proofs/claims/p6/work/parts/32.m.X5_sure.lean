/-! X5_sure -/
abbrev wX5_sure (cI cJ cZ cS : ClassId) (a_t a_s a_keptS a_statuses a_pile a_tape a_steps a_wish a_mark a_bitsOf a_sizeOf a_number a_moved : Nat) (v_isKept : Int32) (v_taped : Int32) (v_at : Int32) (v_fault : Int32) (v_laid : Int32) (v_open : Int32) (v_s : Nat → Int32) (v_statuses : Nat → Int32) (v_pile : Nat → Int32) (v_wish : Nat → Int32) : va_W := [(a_t, .inr (5, [.ref a_s, .ref a_keptS, .ref a_statuses, .int v_isKept, .ref a_pile, .ref a_tape, .ref a_steps, .int v_taped, .int v_at, .int v_fault, .int v_laid, .int v_open, .ref a_wish, .ref a_mark, .ref a_bitsOf, .ref a_sizeOf, .ref a_number, .ref a_moved])), (a_s, .inl (cI, 538, .inl v_s)), (a_statuses, .inl (cI, 7, .inl v_statuses)), (a_pile, .inl (cZ, 64, .inl v_pile)), (a_wish, .inl (cI, 256, .inl v_wish))]
abbrev rX5_sure : Room := { frames := 7, cells := 0, slots := 0, locals := 159 }
def fX5_sure_127 (v_s : Nat → Int32) (ag52 : (Nat → Int32) → (Nat → Int32) → (Nat → Int32) → Int32 → Int32 → Int32 → Int32 → Int32 → Int32 → Option (Int32 × (Nat → Int32) × (Nat → Int32) × (Nat → Int32))) (v_statuses : Nat → Int32) (v_pile : Nat → Int32) (v_wish : Nat → Int32) (y1 : Int32) (y2 : Int32) (y3 : Int32) (y4 : Int32) (y5 : Int32) (y6 : Int32) : Option (Int32 × (Nat → Int32) × (Nat → Int32) × (Nat → Int32)) :=
  nm (y6 + 1) (fun u1 =>
  ag52 v_statuses v_pile v_wish y1 y2 y3 y4 y5 u1)
set_option maxRecDepth 100000 in
set_option maxHeartbeats 4000000 in
theorem LX5_sure_127 {p : Program} {l : Launch} {e : Env} {s : State} {m : MethodId} {args : Array Value} {below : List Frame} {meth : Method} {c : Code} {D : va_G} {cI cJ cZ cS : ClassId} {tb : Nat} {A : Nat → Prop} {a_t a_s a_keptS a_statuses a_pile a_tape a_steps a_wish a_mark a_bitsOf a_sizeOf a_number a_moved : Nat} {v_isKept : Int32} {v_taped : Int32} {v_at : Int32} {v_fault : Int32} {v_laid : Int32} {v_open : Int32} {v_s : Nat → Int32} {rr : Int32} {kk' : (Nat → Int32) × (Nat → Int32) × (Nat → Int32)} (fx : q_Fx p s m args meth c cX5_sure 7 RX5 (some .int) D cI cJ cZ cS tb A) {ag52 : (Nat → Int32) → (Nat → Int32) → (Nat → Int32) → Int32 → Int32 → Int32 → Int32 → Int32 → Int32 → Option (Int32 × (Nat → Int32) × (Nat → Int32) × (Nat → Int32))} (hag52 : ∀ {v_statuses : Nat → Int32} {v_pile : Nat → Int32} {v_wish : Nat → Int32} {y1 : Int32} {y2 : Int32} {y3 : Int32} {y4 : Int32} {y5 : Int32} {y6 : Int32} {H : Heap} {locs : List Loc} {ls : Array Slot}, q_H D A s (wX5_sure cI cJ cZ cS a_t a_s a_keptS a_statuses a_pile a_tape a_steps a_wish a_mark a_bitsOf a_sizeOf a_number a_moved v_isKept v_taped v_at v_fault v_laid v_open v_s v_statuses v_pile v_wish) H locs → lv_has ls 7 [(0, .ref a_t), (1, .int y1), (2, .int y2), (3, .int y3), (4, .int y4), (5, .int y5), (6, .int y6)] → ag52 v_statuses v_pile v_wish y1 y2 y3 y4 y5 y6 = some (rr, kk') → W p l e rX5_sure s m args below meth c H locs 0 0 (MQ below (q_Ri D rr A ((fun k : (Nat → Int32) × (Nat → Int32) × (Nat → Int32) => (wX5_sure cI cJ cZ cS a_t a_s a_keptS a_statuses a_pile a_tape a_steps a_wish a_mark a_bitsOf a_sizeOf a_number a_moved v_isKept v_taped v_at v_fault v_laid v_open v_s k.1 k.2.1 k.2.2)) kk')) args s 0 0 A) (F0 m 52 ls [])) : ∀ {v_statuses : Nat → Int32} {v_pile : Nat → Int32} {v_wish : Nat → Int32} {y1 : Int32} {y2 : Int32} {y3 : Int32} {y4 : Int32} {y5 : Int32} {y6 : Int32} {H : Heap} {locs : List Loc} {ls : Array Slot}, q_H D A s (wX5_sure cI cJ cZ cS a_t a_s a_keptS a_statuses a_pile a_tape a_steps a_wish a_mark a_bitsOf a_sizeOf a_number a_moved v_isKept v_taped v_at v_fault v_laid v_open v_s v_statuses v_pile v_wish) H locs → lv_has ls 7 [(0, .ref a_t), (1, .int y1), (2, .int y2), (3, .int y3), (4, .int y4), (5, .int y5), (6, .int y6)] → fX5_sure_127 v_s ag52 v_statuses v_pile v_wish y1 y2 y3 y4 y5 y6 = some (rr, kk') → W p l e rX5_sure s m args below meth c H locs 0 0 (MQ below (q_Ri D rr A ((fun k : (Nat → Int32) × (Nat → Int32) × (Nat → Int32) => (wX5_sure cI cJ cZ cS a_t a_s a_keptS a_statuses a_pile a_tape a_steps a_wish a_mark a_bitsOf a_sizeOf a_number a_moved v_isKept v_taped v_at v_fault v_laid v_open v_s k.1 k.2.1 k.2.2)) kk')) args s 0 0 A) (F0 m 127 ls []) := by
  intro v_statuses v_pile v_wish y1 y2 y3 y4 y5 y6 H locs ls h hl hf
  have hx := fx.1
  have hb := fx.2.1
  unfold fX5_sure_127 at hf
  obtain ⟨u1, eu1, hf⟩ := nm_inv hf
  refine lv_iinc (v := u1) (lv' := [(6, .int u1), (0, .ref a_t), (1, .int y1), (2, .int y2), (3, .int y3), (4, .int y4), (5, .int y5)]) hx hb dX5_sure_127 hl (k := 6) rfl (by rw [eu1]; rfl) (by decide) rfl (fun ls hl => ?_)
  refine lv_goto (tgt := 52) hx hb dX5_sure_130 (by decide) ?_
  exact hag52 h (lv_sub hl [1, 2, 3, 4, 5, 6, 0] rfl) hf
def fX5_sure_125 (v_s : Nat → Int32) (ag52 : (Nat → Int32) → (Nat → Int32) → (Nat → Int32) → Int32 → Int32 → Int32 → Int32 → Int32 → Int32 → Option (Int32 × (Nat → Int32) × (Nat → Int32) × (Nat → Int32))) (v_statuses : Nat → Int32) (v_pile : Nat → Int32) (v_wish : Nat → Int32) (s0 : Int32) (y1 : Int32) (y2 : Int32) (y3 : Int32) (y4 : Int32) (y6 : Int32) : Option (Int32 × (Nat → Int32) × (Nat → Int32) × (Nat → Int32)) :=
  fX5_sure_127 v_s ag52 v_statuses v_pile v_wish y1 y2 y3 y4 s0 y6
set_option maxRecDepth 100000 in
set_option maxHeartbeats 4000000 in
theorem LX5_sure_125 {p : Program} {l : Launch} {e : Env} {s : State} {m : MethodId} {args : Array Value} {below : List Frame} {meth : Method} {c : Code} {D : va_G} {cI cJ cZ cS : ClassId} {tb : Nat} {A : Nat → Prop} {a_t a_s a_keptS a_statuses a_pile a_tape a_steps a_wish a_mark a_bitsOf a_sizeOf a_number a_moved : Nat} {v_isKept : Int32} {v_taped : Int32} {v_at : Int32} {v_fault : Int32} {v_laid : Int32} {v_open : Int32} {v_s : Nat → Int32} {rr : Int32} {kk' : (Nat → Int32) × (Nat → Int32) × (Nat → Int32)} (fx : q_Fx p s m args meth c cX5_sure 7 RX5 (some .int) D cI cJ cZ cS tb A) {ag52 : (Nat → Int32) → (Nat → Int32) → (Nat → Int32) → Int32 → Int32 → Int32 → Int32 → Int32 → Int32 → Option (Int32 × (Nat → Int32) × (Nat → Int32) × (Nat → Int32))} (hag52 : ∀ {v_statuses : Nat → Int32} {v_pile : Nat → Int32} {v_wish : Nat → Int32} {y1 : Int32} {y2 : Int32} {y3 : Int32} {y4 : Int32} {y5 : Int32} {y6 : Int32} {H : Heap} {locs : List Loc} {ls : Array Slot}, q_H D A s (wX5_sure cI cJ cZ cS a_t a_s a_keptS a_statuses a_pile a_tape a_steps a_wish a_mark a_bitsOf a_sizeOf a_number a_moved v_isKept v_taped v_at v_fault v_laid v_open v_s v_statuses v_pile v_wish) H locs → lv_has ls 7 [(0, .ref a_t), (1, .int y1), (2, .int y2), (3, .int y3), (4, .int y4), (5, .int y5), (6, .int y6)] → ag52 v_statuses v_pile v_wish y1 y2 y3 y4 y5 y6 = some (rr, kk') → W p l e rX5_sure s m args below meth c H locs 0 0 (MQ below (q_Ri D rr A ((fun k : (Nat → Int32) × (Nat → Int32) × (Nat → Int32) => (wX5_sure cI cJ cZ cS a_t a_s a_keptS a_statuses a_pile a_tape a_steps a_wish a_mark a_bitsOf a_sizeOf a_number a_moved v_isKept v_taped v_at v_fault v_laid v_open v_s k.1 k.2.1 k.2.2)) kk')) args s 0 0 A) (F0 m 52 ls [])) : ∀ {v_statuses : Nat → Int32} {v_pile : Nat → Int32} {v_wish : Nat → Int32} {s0 : Int32} {y1 : Int32} {y2 : Int32} {y3 : Int32} {y4 : Int32} {y6 : Int32} {H : Heap} {locs : List Loc} {ls : Array Slot}, q_H D A s (wX5_sure cI cJ cZ cS a_t a_s a_keptS a_statuses a_pile a_tape a_steps a_wish a_mark a_bitsOf a_sizeOf a_number a_moved v_isKept v_taped v_at v_fault v_laid v_open v_s v_statuses v_pile v_wish) H locs → lv_has ls 7 [(0, .ref a_t), (1, .int y1), (2, .int y2), (3, .int y3), (4, .int y4), (6, .int y6)] → fX5_sure_125 v_s ag52 v_statuses v_pile v_wish s0 y1 y2 y3 y4 y6 = some (rr, kk') → W p l e rX5_sure s m args below meth c H locs 0 0 (MQ below (q_Ri D rr A ((fun k : (Nat → Int32) × (Nat → Int32) × (Nat → Int32) => (wX5_sure cI cJ cZ cS a_t a_s a_keptS a_statuses a_pile a_tape a_steps a_wish a_mark a_bitsOf a_sizeOf a_number a_moved v_isKept v_taped v_at v_fault v_laid v_open v_s k.1 k.2.1 k.2.2)) kk')) args s 0 0 A) (F0 m 125 ls [.int s0]) := by
  intro v_statuses v_pile v_wish s0 y1 y2 y3 y4 y6 H locs ls h hl hf
  have hx := fx.1
  have hb := fx.2.1
  unfold fX5_sure_125 at hf
  refine lv_istore (lv' := [(5, .int s0), (0, .ref a_t), (1, .int y1), (2, .int y2), (3, .int y3), (4, .int y4), (6, .int y6)]) hx hb dX5_sure_125 hl (by decide) rfl (fun ls hl => ?_)
  exact LX5_sure_127 fx hag52 h (lv_sub hl [1, 2, 3, 4, 5, 0, 6] rfl) hf
def fX5_sure_103 (v_s : Nat → Int32) (ag52 : (Nat → Int32) → (Nat → Int32) → (Nat → Int32) → Int32 → Int32 → Int32 → Int32 → Int32 → Int32 → Option (Int32 × (Nat → Int32) × (Nat → Int32) × (Nat → Int32))) (v_statuses : Nat → Int32) (v_pile : Nat → Int32) (v_wish : Nat → Int32) (s0 : Int32) (y1 : Int32) (y2 : Int32) (y3 : Int32) (y5 : Int32) (y6 : Int32) : Option (Int32 × (Nat → Int32) × (Nat → Int32) × (Nat → Int32)) :=
  bR (fX5_ones y6) (fun r2 k2 =>
  (if y5 ≤ r2 then (
  fX5_sure_125 v_s ag52 v_statuses v_pile v_wish y5 y1 y2 y3 s0 y6)
  else (
  bR (fX5_ones y6) (fun r4 k4 =>
  fX5_sure_125 v_s ag52 v_statuses v_pile v_wish r4 y1 y2 y3 s0 y6))))
set_option maxRecDepth 100000 in
set_option maxHeartbeats 4000000 in
theorem LX5_sure_103 {p : Program} {l : Launch} {e : Env} {s : State} {m : MethodId} {args : Array Value} {below : List Frame} {meth : Method} {c : Code} {D : va_G} {cI cJ cZ cS : ClassId} {tb : Nat} {A : Nat → Prop} {a_t a_s a_keptS a_statuses a_pile a_tape a_steps a_wish a_mark a_bitsOf a_sizeOf a_number a_moved : Nat} {v_isKept : Int32} {v_taped : Int32} {v_at : Int32} {v_fault : Int32} {v_laid : Int32} {v_open : Int32} {v_s : Nat → Int32} {rr : Int32} {kk' : (Nat → Int32) × (Nat → Int32) × (Nat → Int32)} (fx : q_Fx p s m args meth c cX5_sure 7 RX5 (some .int) D cI cJ cZ cS tb A) {ag52 : (Nat → Int32) → (Nat → Int32) → (Nat → Int32) → Int32 → Int32 → Int32 → Int32 → Int32 → Int32 → Option (Int32 × (Nat → Int32) × (Nat → Int32) × (Nat → Int32))} (hag52 : ∀ {v_statuses : Nat → Int32} {v_pile : Nat → Int32} {v_wish : Nat → Int32} {y1 : Int32} {y2 : Int32} {y3 : Int32} {y4 : Int32} {y5 : Int32} {y6 : Int32} {H : Heap} {locs : List Loc} {ls : Array Slot}, q_H D A s (wX5_sure cI cJ cZ cS a_t a_s a_keptS a_statuses a_pile a_tape a_steps a_wish a_mark a_bitsOf a_sizeOf a_number a_moved v_isKept v_taped v_at v_fault v_laid v_open v_s v_statuses v_pile v_wish) H locs → lv_has ls 7 [(0, .ref a_t), (1, .int y1), (2, .int y2), (3, .int y3), (4, .int y4), (5, .int y5), (6, .int y6)] → ag52 v_statuses v_pile v_wish y1 y2 y3 y4 y5 y6 = some (rr, kk') → W p l e rX5_sure s m args below meth c H locs 0 0 (MQ below (q_Ri D rr A ((fun k : (Nat → Int32) × (Nat → Int32) × (Nat → Int32) => (wX5_sure cI cJ cZ cS a_t a_s a_keptS a_statuses a_pile a_tape a_steps a_wish a_mark a_bitsOf a_sizeOf a_number a_moved v_isKept v_taped v_at v_fault v_laid v_open v_s k.1 k.2.1 k.2.2)) kk')) args s 0 0 A) (F0 m 52 ls [])) : ∀ {v_statuses : Nat → Int32} {v_pile : Nat → Int32} {v_wish : Nat → Int32} {s0 : Int32} {y1 : Int32} {y2 : Int32} {y3 : Int32} {y5 : Int32} {y6 : Int32} {H : Heap} {locs : List Loc} {ls : Array Slot}, q_H D A s (wX5_sure cI cJ cZ cS a_t a_s a_keptS a_statuses a_pile a_tape a_steps a_wish a_mark a_bitsOf a_sizeOf a_number a_moved v_isKept v_taped v_at v_fault v_laid v_open v_s v_statuses v_pile v_wish) H locs → lv_has ls 7 [(0, .ref a_t), (1, .int y1), (2, .int y2), (3, .int y3), (5, .int y5), (6, .int y6)] → fX5_sure_103 v_s ag52 v_statuses v_pile v_wish s0 y1 y2 y3 y5 y6 = some (rr, kk') → W p l e rX5_sure s m args below meth c H locs 0 0 (MQ below (q_Ri D rr A ((fun k : (Nat → Int32) × (Nat → Int32) × (Nat → Int32) => (wX5_sure cI cJ cZ cS a_t a_s a_keptS a_statuses a_pile a_tape a_steps a_wish a_mark a_bitsOf a_sizeOf a_number a_moved v_isKept v_taped v_at v_fault v_laid v_open v_s k.1 k.2.1 k.2.2)) kk')) args s 0 0 A) (F0 m 103 ls [.int s0]) := by
  intro v_statuses v_pile v_wish s0 y1 y2 y3 y5 y6 H locs ls h hl hf
  have hx := fx.1
  have hb := fx.2.1
  unfold fX5_sure_103 at hf
  refine lv_istore (lv' := [(4, .int s0), (0, .ref a_t), (1, .int y1), (2, .int y2), (3, .int y3), (5, .int y5), (6, .int y6)]) hx hb dX5_sure_103 hl (by decide) rfl (fun ls hl => ?_)
  refine lv_iload hx hb dX5_sure_105 (lv_at hl 6 rfl) ?_
  obtain ⟨r2, k2, hg, hf⟩ := bR_inv hf
  refine q_ci (rest := []) (ws' := (wX5_sure cI cJ cZ cS a_t a_s a_keptS a_statuses a_pile a_tape a_steps a_wish a_mark a_bitsOf a_sizeOf a_number a_moved v_isKept v_taped v_at v_fault v_laid v_open v_s v_statuses v_pile v_wish)) (w1 := (wX5_ones cI cJ cZ cS)) fx h [] rfl rfl rfl rfl (q_runS fx h hl.1 [] rfl rfl (tX5_ones l D cI cJ cZ cS tb H.size y6 r2 k2 hg) msX5_ones k_722 ⟨rfl, rfl⟩ ⟨Nat.le_of_ble_eq_true rfl, Nat.le_of_ble_eq_true rfl⟩ rfl rfl (Nat.le_of_ble_eq_true rfl) dX5_sure_107 ⟨Nat.le_of_ble_eq_true rfl, Nat.le_of_ble_eq_true rfl⟩) (fun H locs h => ?_)
  refine lv_iload hx hb dX5_sure_110 (lv_at hl 5 rfl) ?_
  refine lv_icmp_ge (tgt := 123) hx hb dX5_sure_112 (by decide) (fun c3 => ?_) (fun c3 => ?_)
  · have hf := it_t c3 hf
    refine lv_iload hx hb dX5_sure_123 (lv_at hl 5 rfl) ?_
    exact LX5_sure_125 fx hag52 h (lv_sub hl [1, 2, 3, 4, 0, 6] rfl) hf
  have hf := it_f c3 hf
  refine lv_iload hx hb dX5_sure_115 (lv_at hl 6 rfl) ?_
  obtain ⟨r4, k4, hg, hf⟩ := bR_inv hf
  refine q_ci (rest := []) (ws' := (wX5_sure cI cJ cZ cS a_t a_s a_keptS a_statuses a_pile a_tape a_steps a_wish a_mark a_bitsOf a_sizeOf a_number a_moved v_isKept v_taped v_at v_fault v_laid v_open v_s v_statuses v_pile v_wish)) (w1 := (wX5_ones cI cJ cZ cS)) fx h [] rfl rfl rfl rfl (q_runS fx h hl.1 [] rfl rfl (tX5_ones l D cI cJ cZ cS tb H.size y6 r4 k4 hg) msX5_ones k_722 ⟨rfl, rfl⟩ ⟨Nat.le_of_ble_eq_true rfl, Nat.le_of_ble_eq_true rfl⟩ rfl rfl (Nat.le_of_ble_eq_true rfl) dX5_sure_117 ⟨Nat.le_of_ble_eq_true rfl, Nat.le_of_ble_eq_true rfl⟩) (fun H locs h => ?_)
  refine lv_goto (tgt := 125) hx hb dX5_sure_120 (by decide) ?_
  exact LX5_sure_125 fx hag52 h (lv_sub hl [1, 2, 3, 4, 0, 6] rfl) hf
def fX5_sure_52 (v_s : Nat → Int32) (ag52 : (Nat → Int32) → (Nat → Int32) → (Nat → Int32) → Int32 → Int32 → Int32 → Int32 → Int32 → Int32 → Option (Int32 × (Nat → Int32) × (Nat → Int32) × (Nat → Int32))) (v_statuses : Nat → Int32) (v_pile : Nat → Int32) (v_wish : Nat → Int32) (y1 : Int32) (y2 : Int32) (y3 : Int32) (y4 : Int32) (y5 : Int32) (y6 : Int32) : Option (Int32 × (Nat → Int32) × (Nat → Int32) × (Nat → Int32)) :=
  bR (fX5_lists v_s) (fun r5 k5 =>
  (if r5 ≤ y6 then (
  (if y1 = 0 then (
  some (y2, (v_statuses, v_pile, v_wish)))
  else (
  (if y1 = 1 then (
  some (y3, (v_statuses, v_pile, v_wish)))
  else (
  (if y1 = 2 then (
  some (y4, (v_statuses, v_pile, v_wish)))
  else (
  some (y5, (v_statuses, v_pile, v_wish)))))))))
  else (
  gIn y6 256 (
  (if (v_wish y6.toNatClampNeg) = y6 then (
  nm (y2 &&& y6) (fun u12 =>
  nm (y3 ||| y6) (fun u13 =>
  bR (fX5_ones y6) (fun r14 k14 =>
  (if r14 ≤ y4 then (
  fX5_sure_103 v_s ag52 v_statuses v_pile v_wish y4 y1 u12 u13 y5 y6)
  else (
  bR (fX5_ones y6) (fun r16 k16 =>
  fX5_sure_103 v_s ag52 v_statuses v_pile v_wish r16 y1 u12 u13 y5 y6)))))))
  else (
  fX5_sure_127 v_s ag52 v_statuses v_pile v_wish y1 y2 y3 y4 y5 y6))))))
set_option maxRecDepth 100000 in
set_option maxHeartbeats 4000000 in
theorem LX5_sure_52 {p : Program} {l : Launch} {e : Env} {s : State} {m : MethodId} {args : Array Value} {below : List Frame} {meth : Method} {c : Code} {D : va_G} {cI cJ cZ cS : ClassId} {tb : Nat} {A : Nat → Prop} {a_t a_s a_keptS a_statuses a_pile a_tape a_steps a_wish a_mark a_bitsOf a_sizeOf a_number a_moved : Nat} {v_isKept : Int32} {v_taped : Int32} {v_at : Int32} {v_fault : Int32} {v_laid : Int32} {v_open : Int32} {v_s : Nat → Int32} {rr : Int32} {kk' : (Nat → Int32) × (Nat → Int32) × (Nat → Int32)} (fx : q_Fx p s m args meth c cX5_sure 7 RX5 (some .int) D cI cJ cZ cS tb A) {ag52 : (Nat → Int32) → (Nat → Int32) → (Nat → Int32) → Int32 → Int32 → Int32 → Int32 → Int32 → Int32 → Option (Int32 × (Nat → Int32) × (Nat → Int32) × (Nat → Int32))} (hag52 : ∀ {v_statuses : Nat → Int32} {v_pile : Nat → Int32} {v_wish : Nat → Int32} {y1 : Int32} {y2 : Int32} {y3 : Int32} {y4 : Int32} {y5 : Int32} {y6 : Int32} {H : Heap} {locs : List Loc} {ls : Array Slot}, q_H D A s (wX5_sure cI cJ cZ cS a_t a_s a_keptS a_statuses a_pile a_tape a_steps a_wish a_mark a_bitsOf a_sizeOf a_number a_moved v_isKept v_taped v_at v_fault v_laid v_open v_s v_statuses v_pile v_wish) H locs → lv_has ls 7 [(0, .ref a_t), (1, .int y1), (2, .int y2), (3, .int y3), (4, .int y4), (5, .int y5), (6, .int y6)] → ag52 v_statuses v_pile v_wish y1 y2 y3 y4 y5 y6 = some (rr, kk') → W p l e rX5_sure s m args below meth c H locs 0 0 (MQ below (q_Ri D rr A ((fun k : (Nat → Int32) × (Nat → Int32) × (Nat → Int32) => (wX5_sure cI cJ cZ cS a_t a_s a_keptS a_statuses a_pile a_tape a_steps a_wish a_mark a_bitsOf a_sizeOf a_number a_moved v_isKept v_taped v_at v_fault v_laid v_open v_s k.1 k.2.1 k.2.2)) kk')) args s 0 0 A) (F0 m 52 ls [])) : ∀ {v_statuses : Nat → Int32} {v_pile : Nat → Int32} {v_wish : Nat → Int32} {y1 : Int32} {y2 : Int32} {y3 : Int32} {y4 : Int32} {y5 : Int32} {y6 : Int32} {H : Heap} {locs : List Loc} {ls : Array Slot}, q_H D A s (wX5_sure cI cJ cZ cS a_t a_s a_keptS a_statuses a_pile a_tape a_steps a_wish a_mark a_bitsOf a_sizeOf a_number a_moved v_isKept v_taped v_at v_fault v_laid v_open v_s v_statuses v_pile v_wish) H locs → lv_has ls 7 [(0, .ref a_t), (1, .int y1), (2, .int y2), (3, .int y3), (4, .int y4), (5, .int y5), (6, .int y6)] → fX5_sure_52 v_s ag52 v_statuses v_pile v_wish y1 y2 y3 y4 y5 y6 = some (rr, kk') → W p l e rX5_sure s m args below meth c H locs 0 0 (MQ below (q_Ri D rr A ((fun k : (Nat → Int32) × (Nat → Int32) × (Nat → Int32) => (wX5_sure cI cJ cZ cS a_t a_s a_keptS a_statuses a_pile a_tape a_steps a_wish a_mark a_bitsOf a_sizeOf a_number a_moved v_isKept v_taped v_at v_fault v_laid v_open v_s k.1 k.2.1 k.2.2)) kk')) args s 0 0 A) (F0 m 52 ls []) := by
  intro v_statuses v_pile v_wish y1 y2 y3 y4 y5 y6 H locs ls h hl hf
  have hx := fx.1
  have hb := fx.2.1
  unfold fX5_sure_52 at hf
  refine lv_iload hx hb dX5_sure_52 (lv_at hl 6 rfl) ?_
  refine lv_aload_n hx hb dX5_sure_54 rfl (lv_at hl 0 rfl) ?_
  obtain ⟨r5, k5, hg, hf⟩ := bR_inv hf
  refine q_ci (rest := [.int y6]) (ws' := (wX5_sure cI cJ cZ cS a_t a_s a_keptS a_statuses a_pile a_tape a_steps a_wish a_mark a_bitsOf a_sizeOf a_number a_moved v_isKept v_taped v_at v_fault v_laid v_open v_s v_statuses v_pile v_wish)) (w1 := (wX5_lists cI cJ cZ cS a_t a_s a_keptS a_statuses a_pile a_tape a_steps a_wish a_mark a_bitsOf a_sizeOf a_number a_moved v_isKept v_taped v_at v_fault v_laid v_open v_s)) fx h [0, 1] rfl rfl rfl rfl (q_runV fx h hl.1 [0, 1] rfl rfl (tX5_lists l D cI cJ cZ cS tb a_t a_s a_keptS a_statuses a_pile a_tape a_steps a_wish a_mark a_bitsOf a_sizeOf a_number a_moved H.size v_isKept v_taped v_at v_fault v_laid v_open v_s r5 k5 hg) mvX5_lists k_810 ⟨rfl, rfl⟩ ⟨Nat.le_of_ble_eq_true rfl, Nat.le_of_ble_eq_true rfl⟩ rfl rfl rfl rfl (Nat.le_of_ble_eq_true rfl) dX5_sure_55 ⟨Nat.le_of_ble_eq_true rfl, Nat.le_of_ble_eq_true rfl⟩) (fun H locs h => ?_)
  refine lv_icmp_ge (tgt := 133) hx hb dX5_sure_58 (by decide) (fun c6 => ?_) (fun c6 => ?_)
  · have hf := it_t c6 hf
    refine lv_iload_n hx hb dX5_sure_133 rfl (lv_at hl 1 rfl) ?_
    refine lv_if_ne (tgt := 141) hx hb dX5_sure_134 (by decide) (fun c7 => ?_) (fun c7 => ?_)
    · have hf := it_f c7 hf
      refine lv_iload_n hx hb dX5_sure_141 rfl (lv_at hl 1 rfl) ?_
      refine lv_iconst (v := 1) hx hb dX5_sure_142 (by decide) ?_
      refine lv_icmp_ne (tgt := 150) hx hb dX5_sure_143 (by decide) (fun c8 => ?_) (fun c8 => ?_)
      · have hf := it_f c8 hf
        refine lv_iload_n hx hb dX5_sure_150 rfl (lv_at hl 1 rfl) ?_
        refine lv_iconst (v := 2) hx hb dX5_sure_151 (by decide) ?_
        refine lv_icmp_ne (tgt := 160) hx hb dX5_sure_152 (by decide) (fun c9 => ?_) (fun c9 => ?_)
        · have hf := it_f c9 hf
          refine lv_iload hx hb dX5_sure_160 (lv_at hl 5 rfl) ?_
          exact q_reti (fun k : (Nat → Int32) × (Nat → Int32) × (Nat → Int32) => (wX5_sure cI cJ cZ cS a_t a_s a_keptS a_statuses a_pile a_tape a_steps a_wish a_mark a_bitsOf a_sizeOf a_number a_moved v_isKept v_taped v_at v_fault v_laid v_open v_s k.1 k.2.1 k.2.2)) fx hf h dX5_sure_162
        have hf := it_t c9 hf
        refine lv_iload hx hb dX5_sure_155 (lv_at hl 4 rfl) ?_
        refine lv_goto (tgt := 162) hx hb dX5_sure_157 (by decide) ?_
        exact q_reti (fun k : (Nat → Int32) × (Nat → Int32) × (Nat → Int32) => (wX5_sure cI cJ cZ cS a_t a_s a_keptS a_statuses a_pile a_tape a_steps a_wish a_mark a_bitsOf a_sizeOf a_number a_moved v_isKept v_taped v_at v_fault v_laid v_open v_s k.1 k.2.1 k.2.2)) fx hf h dX5_sure_162
      have hf := it_t c8 hf
      refine lv_iload_n hx hb dX5_sure_146 rfl (lv_at hl 3 rfl) ?_
      refine lv_goto (tgt := 162) hx hb dX5_sure_147 (by decide) ?_
      exact q_reti (fun k : (Nat → Int32) × (Nat → Int32) × (Nat → Int32) => (wX5_sure cI cJ cZ cS a_t a_s a_keptS a_statuses a_pile a_tape a_steps a_wish a_mark a_bitsOf a_sizeOf a_number a_moved v_isKept v_taped v_at v_fault v_laid v_open v_s k.1 k.2.1 k.2.2)) fx hf h dX5_sure_162
    have hf := it_t c7 hf
    refine lv_iload_n hx hb dX5_sure_137 rfl (lv_at hl 2 rfl) ?_
    refine lv_goto (tgt := 162) hx hb dX5_sure_138 (by decide) ?_
    exact q_reti (fun k : (Nat → Int32) × (Nat → Int32) × (Nat → Int32) => (wX5_sure cI cJ cZ cS a_t a_s a_keptS a_statuses a_pile a_tape a_steps a_wish a_mark a_bitsOf a_sizeOf a_number a_moved v_isKept v_taped v_at v_fault v_laid v_open v_s k.1 k.2.1 k.2.2)) fx hf h dX5_sure_162
  have hf := it_f c6 hf
  refine lv_aload_n hx hb dX5_sure_61 rfl (lv_at hl 0 rfl) ?_
  refine q_get (v := .ref a_wish) fx inX5 h 0 rfl rfl 12 (by decide) k_648 rfl dX5_sure_62 ?_
  refine lv_iload hx hb dX5_sure_65 (lv_at hl 6 rfl) ?_
  obtain ⟨i10, hf⟩ := gIn_inv hf
  refine q_iald fx h 4 rfl i10 dX5_sure_67 ?_
  refine lv_iload hx hb dX5_sure_68 (lv_at hl 6 rfl) ?_
  refine lv_icmp_ne (tgt := 127) hx hb dX5_sure_70 (by decide) (fun c11 => ?_) (fun c11 => ?_)
  · have hf := it_f c11 hf
    exact LX5_sure_127 fx hag52 h (lv_sub hl [0, 1, 2, 3, 4, 5, 6] rfl) hf
  have hf := it_t c11 hf
  refine lv_iload_n hx hb dX5_sure_73 rfl (lv_at hl 2 rfl) ?_
  refine lv_iload hx hb dX5_sure_74 (lv_at hl 6 rfl) ?_
  refine lv_iand hx hb dX5_sure_76 ?_
  obtain ⟨u12, eu12, hf⟩ := nm_inv hf
  refine lv_eqi eu12 ?_
  refine lv_istore_n (lv' := [(2, .int u12), (0, .ref a_t), (1, .int y1), (3, .int y3), (4, .int y4), (5, .int y5), (6, .int y6)]) hx hb dX5_sure_77 rfl hl (by decide) rfl (fun ls hl => ?_)
  refine lv_iload_n hx hb dX5_sure_78 rfl (lv_at hl 3 rfl) ?_
  refine lv_iload hx hb dX5_sure_79 (lv_at hl 6 rfl) ?_
  refine lv_ior hx hb dX5_sure_81 ?_
  obtain ⟨u13, eu13, hf⟩ := nm_inv hf
  refine lv_eqi eu13 ?_
  refine lv_istore_n (lv' := [(3, .int u13), (2, .int u12), (0, .ref a_t), (1, .int y1), (4, .int y4), (5, .int y5), (6, .int y6)]) hx hb dX5_sure_82 rfl hl (by decide) rfl (fun ls hl => ?_)
  refine lv_iload hx hb dX5_sure_83 (lv_at hl 6 rfl) ?_
  obtain ⟨r14, k14, hg, hf⟩ := bR_inv hf
  refine q_ci (rest := []) (ws' := (wX5_sure cI cJ cZ cS a_t a_s a_keptS a_statuses a_pile a_tape a_steps a_wish a_mark a_bitsOf a_sizeOf a_number a_moved v_isKept v_taped v_at v_fault v_laid v_open v_s v_statuses v_pile v_wish)) (w1 := (wX5_ones cI cJ cZ cS)) fx h [] rfl rfl rfl rfl (q_runS fx h hl.1 [] rfl rfl (tX5_ones l D cI cJ cZ cS tb H.size y6 r14 k14 hg) msX5_ones k_722 ⟨rfl, rfl⟩ ⟨Nat.le_of_ble_eq_true rfl, Nat.le_of_ble_eq_true rfl⟩ rfl rfl (Nat.le_of_ble_eq_true rfl) dX5_sure_85 ⟨Nat.le_of_ble_eq_true rfl, Nat.le_of_ble_eq_true rfl⟩) (fun H locs h => ?_)
  refine lv_iload hx hb dX5_sure_88 (lv_at hl 4 rfl) ?_
  refine lv_icmp_le (tgt := 101) hx hb dX5_sure_90 (by decide) (fun c15 => ?_) (fun c15 => ?_)
  · have hf := it_t c15 hf
    refine lv_iload hx hb dX5_sure_101 (lv_at hl 4 rfl) ?_
    exact LX5_sure_103 fx hag52 h (lv_sub hl [2, 3, 1, 0, 5, 6] rfl) hf
  have hf := it_f c15 hf
  refine lv_iload hx hb dX5_sure_93 (lv_at hl 6 rfl) ?_
  obtain ⟨r16, k16, hg, hf⟩ := bR_inv hf
  refine q_ci (rest := []) (ws' := (wX5_sure cI cJ cZ cS a_t a_s a_keptS a_statuses a_pile a_tape a_steps a_wish a_mark a_bitsOf a_sizeOf a_number a_moved v_isKept v_taped v_at v_fault v_laid v_open v_s v_statuses v_pile v_wish)) (w1 := (wX5_ones cI cJ cZ cS)) fx h [] rfl rfl rfl rfl (q_runS fx h hl.1 [] rfl rfl (tX5_ones l D cI cJ cZ cS tb H.size y6 r16 k16 hg) msX5_ones k_722 ⟨rfl, rfl⟩ ⟨Nat.le_of_ble_eq_true rfl, Nat.le_of_ble_eq_true rfl⟩ rfl rfl (Nat.le_of_ble_eq_true rfl) dX5_sure_95 ⟨Nat.le_of_ble_eq_true rfl, Nat.le_of_ble_eq_true rfl⟩) (fun H locs h => ?_)
  refine lv_goto (tgt := 103) hx hb dX5_sure_98 (by decide) ?_
  exact LX5_sure_103 fx hag52 h (lv_sub hl [2, 3, 1, 0, 5, 6] rfl) hf
set_option maxRecDepth 100000 in
theorem EX5_sure_52 {p : Program} {l : Launch} {e : Env} {s : State} {m : MethodId} {args : Array Value} {below : List Frame} {meth : Method} {c : Code} {D : va_G} {cI cJ cZ cS : ClassId} {tb : Nat} {A : Nat → Prop} {a_t a_s a_keptS a_statuses a_pile a_tape a_steps a_wish a_mark a_bitsOf a_sizeOf a_number a_moved : Nat} {v_isKept : Int32} {v_taped : Int32} {v_at : Int32} {v_fault : Int32} {v_laid : Int32} {v_open : Int32} {v_s : Nat → Int32} {rr : Int32} {kk' : (Nat → Int32) × (Nat → Int32) × (Nat → Int32)} (fx : q_Fx p s m args meth c cX5_sure 7 RX5 (some .int) D cI cJ cZ cS tb A) : ∀ (n : Nat), ∀ {v_statuses : Nat → Int32} {v_pile : Nat → Int32} {v_wish : Nat → Int32} {y1 : Int32} {y2 : Int32} {y3 : Int32} {y4 : Int32} {y5 : Int32} {y6 : Int32} {H : Heap} {locs : List Loc} {ls : Array Slot}, q_H D A s (wX5_sure cI cJ cZ cS a_t a_s a_keptS a_statuses a_pile a_tape a_steps a_wish a_mark a_bitsOf a_sizeOf a_number a_moved v_isKept v_taped v_at v_fault v_laid v_open v_s v_statuses v_pile v_wish) H locs → lv_has ls 7 [(0, .ref a_t), (1, .int y1), (2, .int y2), (3, .int y3), (4, .int y4), (5, .int y5), (6, .int y6)] → ll9 (fX5_sure_52 v_s) n v_statuses v_pile v_wish y1 y2 y3 y4 y5 y6 = some (rr, kk') → W p l e rX5_sure s m args below meth c H locs 0 0 (MQ below (q_Ri D rr A ((fun k : (Nat → Int32) × (Nat → Int32) × (Nat → Int32) => (wX5_sure cI cJ cZ cS a_t a_s a_keptS a_statuses a_pile a_tape a_steps a_wish a_mark a_bitsOf a_sizeOf a_number a_moved v_isKept v_taped v_at v_fault v_laid v_open v_s k.1 k.2.1 k.2.2)) kk')) args s 0 0 A) (F0 m 52 ls []) := by
  intro n
  induction n with
  | zero => intro v_statuses v_pile v_wish y1 y2 y3 y4 y5 y6 H locs ls h hl hf; exact (ll9_z hf).elim
  | succ n ih => intro v_statuses v_pile v_wish y1 y2 y3 y4 y5 y6 H locs ls h hl hf; exact LX5_sure_52 fx ih h hl (ll9_s hf)
def fX5_sure (v_s : Nat → Int32) (v_statuses : Nat → Int32) (v_pile : Nat → Int32) (v_wish : Nat → Int32) (x1 : Int32) : Option (Int32 × (Nat → Int32) × (Nat → Int32) × (Nat → Int32)) :=
  bR (fX5_in (x1.toInt64) 0 3) (fun r17 k17 =>
  (if r17 = 0 then (
  bR (fX5_finds v_statuses (-1000000001)) (fun r24 k24 =>
  some (r24, (k24, v_pile, v_wish))))
  else (
  bR (fX5_manySettled v_s v_pile v_wish) (fun r19 k19 =>
  (if r19 = 0 then (
  bR (fX5_finds v_statuses (-1000000004)) (fun r23 k23 =>
  some (r23, (k23, k19.1, k19.2))))
  else (
  bR (fX5_lists v_s) (fun r21 k21 =>
  nm (r21 - 1) (fun u22 =>
  ll9 (fX5_sure_52 v_s) qF v_statuses k19.1 k19.2 x1 u22 0 0 8 0))))))))
set_option maxRecDepth 100000 in
set_option maxHeartbeats 4000000 in
theorem tX5_sure (l : Launch) (D : va_G) (cI cJ cZ cS : ClassId) (tb : Nat) (a_t a_s a_keptS a_statuses a_pile a_tape a_steps a_wish a_mark a_bitsOf a_sizeOf a_number a_moved : Nat) (sz : Nat) (v_isKept : Int32) (v_taped : Int32) (v_at : Int32) (v_fault : Int32) (v_laid : Int32) (v_open : Int32) (v_s : Nat → Int32) (v_statuses : Nat → Int32) (v_pile : Nat → Int32) (v_wish : Nat → Int32) (x1 : Int32) (rr : Int32) (kk' : (Nat → Int32) × (Nat → Int32) × (Nat → Int32)) (hf : fX5_sure v_s v_statuses v_pile v_wish x1 = some (rr, kk')) : Met l yX5_sure (Cond.code yX5_sure cX5_sure 7 (some .int) :: wA) rX5_sure (q_Pre D cI cJ cZ cS tb [.ref a_t, .int x1] sz (wX5_sure cI cJ cZ cS a_t a_s a_keptS a_statuses a_pile a_tape a_steps a_wish a_mark a_bitsOf a_sizeOf a_number a_moved v_isKept v_taped v_at v_fault v_laid v_open v_s v_statuses v_pile v_wish)) (q_Ri D rr (va_A (wX5_sure cI cJ cZ cS a_t a_s a_keptS a_statuses a_pile a_tape a_steps a_wish a_mark a_bitsOf a_sizeOf a_number a_moved v_isKept v_taped v_at v_fault v_laid v_open v_s v_statuses v_pile v_wish) sz) ((fun k : (Nat → Int32) × (Nat → Int32) × (Nat → Int32) => (wX5_sure cI cJ cZ cS a_t a_s a_keptS a_statuses a_pile a_tape a_steps a_wish a_mark a_bitsOf a_sizeOf a_number a_moved v_isKept v_taped v_at v_fault v_laid v_open v_s k.1 k.2.1 k.2.2)) kk')) 0 0 (va_A (wX5_sure cI cJ cZ cS a_t a_s a_keptS a_statuses a_pile a_tape a_steps a_wish a_mark a_bitsOf a_sizeOf a_number a_moved v_isKept v_taped v_at v_fault v_laid v_open v_s v_statuses v_pile v_wish) sz) := by
  refine q_enter (Qf := fun A => (q_Ri D rr A ((fun k : (Nat → Int32) × (Nat → Int32) × (Nat → Int32) => (wX5_sure cI cJ cZ cS a_t a_s a_keptS a_statuses a_pile a_tape a_steps a_wish a_mark a_bitsOf a_sizeOf a_number a_moved v_isKept v_taped v_at v_fault v_laid v_open v_s k.1 k.2.1 k.2.2)) kk'))) (by decide) rfl (Nat.le_of_ble_eq_true rfl) ?_
  intro p e s m below meth c A ls fx hname h hl
  have hx := fx.1
  have hb := fx.2.1
  have hl : lv_has ls 7 [(0, .ref a_t), (1, .int x1)] := hl
  generalize h9 : s.heap = H at h ⊢
  clear h9
  generalize h9 : ([] : List Loc) = locs at h ⊢
  clear h9
  unfold fX5_sure at hf
  refine lv_iload_n hx hb dX5_sure_0 rfl (lv_at hl 1 rfl) ?_
  refine lv_i2l hx hb dX5_sure_1 rfl ?_
  refine lv_lconst (v := 0) hx hb dX5_sure_2 (by decide) ?_
  refine q_ldc2 fx k_901 dX5_sure_3 ?_
  obtain ⟨r17, k17, hg, hf⟩ := bR_inv hf
  refine q_ci (rest := []) (ws' := (wX5_sure cI cJ cZ cS a_t a_s a_keptS a_statuses a_pile a_tape a_steps a_wish a_mark a_bitsOf a_sizeOf a_number a_moved v_isKept v_taped v_at v_fault v_laid v_open v_s v_statuses v_pile v_wish)) (w1 := (wX5_in cI cJ cZ cS)) fx h [] rfl rfl rfl rfl (q_runS fx h hl.1 [] rfl rfl (tX5_in l D cI cJ cZ cS tb H.size (x1.toInt64) 0 3 r17 k17 hg) msX5_in k_697 ⟨rfl, rfl⟩ ⟨Nat.le_of_ble_eq_true rfl, Nat.le_of_ble_eq_true rfl⟩ rfl rfl (Nat.le_of_ble_eq_true rfl) dX5_sure_6 ⟨Nat.le_of_ble_eq_true rfl, Nat.le_of_ble_eq_true rfl⟩) (fun H locs h => ?_)
  refine lv_if_ne (tgt := 19) hx hb dX5_sure_9 (by decide) (fun c18 => ?_) (fun c18 => ?_)
  · have hf := it_f c18 hf
    refine lv_aload_n hx hb dX5_sure_19 rfl (lv_at hl 0 rfl) ?_
    obtain ⟨r19, k19, hg, hf⟩ := bR_inv hf
    refine q_ci (rest := []) (ws' := (wX5_sure cI cJ cZ cS a_t a_s a_keptS a_statuses a_pile a_tape a_steps a_wish a_mark a_bitsOf a_sizeOf a_number a_moved v_isKept v_taped v_at v_fault v_laid v_open v_s v_statuses k19.1 k19.2)) (w1 := (wX5_manySettled cI cJ cZ cS a_t a_s a_keptS a_statuses a_pile a_tape a_steps a_wish a_mark a_bitsOf a_sizeOf a_number a_moved v_isKept v_taped v_at v_fault v_laid v_open v_s k19.1 k19.2)) fx h [0, 1, 3, 4] rfl rfl rfl rfl (q_runV fx h hl.1 [0, 1, 3, 4] rfl rfl (tX5_manySettled l D cI cJ cZ cS tb a_t a_s a_keptS a_statuses a_pile a_tape a_steps a_wish a_mark a_bitsOf a_sizeOf a_number a_moved H.size v_isKept v_taped v_at v_fault v_laid v_open v_s v_pile v_wish r19 k19 hg) mvX5_manySettled k_889 ⟨rfl, rfl⟩ ⟨Nat.le_of_ble_eq_true rfl, Nat.le_of_ble_eq_true rfl⟩ rfl rfl rfl rfl (Nat.le_of_ble_eq_true rfl) dX5_sure_20 ⟨Nat.le_of_ble_eq_true rfl, Nat.le_of_ble_eq_true rfl⟩) (fun H locs h => ?_)
    refine lv_if_ne (tgt := 33) hx hb dX5_sure_23 (by decide) (fun c20 => ?_) (fun c20 => ?_)
    · have hf := it_f c20 hf
      refine lv_aload_n hx hb dX5_sure_33 rfl (lv_at hl 0 rfl) ?_
      obtain ⟨r21, k21, hg, hf⟩ := bR_inv hf
      refine q_ci (rest := []) (ws' := (wX5_sure cI cJ cZ cS a_t a_s a_keptS a_statuses a_pile a_tape a_steps a_wish a_mark a_bitsOf a_sizeOf a_number a_moved v_isKept v_taped v_at v_fault v_laid v_open v_s v_statuses k19.1 k19.2)) (w1 := (wX5_lists cI cJ cZ cS a_t a_s a_keptS a_statuses a_pile a_tape a_steps a_wish a_mark a_bitsOf a_sizeOf a_number a_moved v_isKept v_taped v_at v_fault v_laid v_open v_s)) fx h [0, 1] rfl rfl rfl rfl (q_runV fx h hl.1 [0, 1] rfl rfl (tX5_lists l D cI cJ cZ cS tb a_t a_s a_keptS a_statuses a_pile a_tape a_steps a_wish a_mark a_bitsOf a_sizeOf a_number a_moved H.size v_isKept v_taped v_at v_fault v_laid v_open v_s r21 k21 hg) mvX5_lists k_810 ⟨rfl, rfl⟩ ⟨Nat.le_of_ble_eq_true rfl, Nat.le_of_ble_eq_true rfl⟩ rfl rfl rfl rfl (Nat.le_of_ble_eq_true rfl) dX5_sure_34 ⟨Nat.le_of_ble_eq_true rfl, Nat.le_of_ble_eq_true rfl⟩) (fun H locs h => ?_)
      refine lv_iconst (v := 1) hx hb dX5_sure_37 (by decide) ?_
      refine lv_isub hx hb dX5_sure_38 ?_
      obtain ⟨u22, eu22, hf⟩ := nm_inv hf
      refine lv_eqi eu22 ?_
      refine lv_istore_n (lv' := [(2, .int u22), (0, .ref a_t), (1, .int x1)]) hx hb dX5_sure_39 rfl hl (by decide) rfl (fun ls hl => ?_)
      refine lv_iconst (v := 0) hx hb dX5_sure_40 (by decide) ?_
      refine lv_istore_n (lv' := [(3, .int 0), (2, .int u22), (0, .ref a_t), (1, .int x1)]) hx hb dX5_sure_41 rfl hl (by decide) rfl (fun ls hl => ?_)
      refine lv_iconst (v := 0) hx hb dX5_sure_42 (by decide) ?_
      refine lv_istore (lv' := [(4, .int 0), (3, .int 0), (2, .int u22), (0, .ref a_t), (1, .int x1)]) hx hb dX5_sure_43 hl (by decide) rfl (fun ls hl => ?_)
      refine lv_bipush (v := 8) hx hb dX5_sure_45 (by decide) ?_
      refine lv_istore (lv' := [(5, .int 8), (4, .int 0), (3, .int 0), (2, .int u22), (0, .ref a_t), (1, .int x1)]) hx hb dX5_sure_47 hl (by decide) rfl (fun ls hl => ?_)
      refine lv_iconst (v := 0) hx hb dX5_sure_49 (by decide) ?_
      refine lv_istore (lv' := [(6, .int 0), (5, .int 8), (4, .int 0), (3, .int 0), (2, .int u22), (0, .ref a_t), (1, .int x1)]) hx hb dX5_sure_50 hl (by decide) rfl (fun ls hl => ?_)
      exact EX5_sure_52 fx qF h (lv_sub hl [5, 6, 4, 3, 2, 1, 0] rfl) hf
    have hf := it_t c20 hf
    refine lv_aload_n hx hb dX5_sure_26 rfl (lv_at hl 0 rfl) ?_
    refine q_ldc fx k_864 dX5_sure_27 ?_
    obtain ⟨r23, k23, hg, hf⟩ := bR_inv hf
    refine q_ci (rest := []) (ws' := (wX5_sure cI cJ cZ cS a_t a_s a_keptS a_statuses a_pile a_tape a_steps a_wish a_mark a_bitsOf a_sizeOf a_number a_moved v_isKept v_taped v_at v_fault v_laid v_open v_s k23 k19.1 k19.2)) (w1 := (wX5_finds cI cJ cZ cS a_t a_s a_keptS a_statuses a_pile a_tape a_steps a_wish a_mark a_bitsOf a_sizeOf a_number a_moved v_isKept v_taped v_at v_fault v_laid v_open k23)) fx h [0, 2] rfl rfl rfl rfl (q_runV fx h hl.1 [0, 2] rfl rfl (tX5_finds l D cI cJ cZ cS tb a_t a_s a_keptS a_statuses a_pile a_tape a_steps a_wish a_mark a_bitsOf a_sizeOf a_number a_moved H.size v_isKept v_taped v_at v_fault v_laid v_open v_statuses (-1000000004) r23 k23 hg) mvX5_finds k_702 ⟨rfl, rfl⟩ ⟨Nat.le_of_ble_eq_true rfl, Nat.le_of_ble_eq_true rfl⟩ rfl rfl rfl rfl (Nat.le_of_ble_eq_true rfl) dX5_sure_29 ⟨Nat.le_of_ble_eq_true rfl, Nat.le_of_ble_eq_true rfl⟩) (fun H locs h => ?_)
    exact q_reti (fun k : (Nat → Int32) × (Nat → Int32) × (Nat → Int32) => (wX5_sure cI cJ cZ cS a_t a_s a_keptS a_statuses a_pile a_tape a_steps a_wish a_mark a_bitsOf a_sizeOf a_number a_moved v_isKept v_taped v_at v_fault v_laid v_open v_s k.1 k.2.1 k.2.2)) fx hf h dX5_sure_32
  have hf := it_t c18 hf
  refine lv_aload_n hx hb dX5_sure_12 rfl (lv_at hl 0 rfl) ?_
  refine q_ldc fx k_701 dX5_sure_13 ?_
  obtain ⟨r24, k24, hg, hf⟩ := bR_inv hf
  refine q_ci (rest := []) (ws' := (wX5_sure cI cJ cZ cS a_t a_s a_keptS a_statuses a_pile a_tape a_steps a_wish a_mark a_bitsOf a_sizeOf a_number a_moved v_isKept v_taped v_at v_fault v_laid v_open v_s k24 v_pile v_wish)) (w1 := (wX5_finds cI cJ cZ cS a_t a_s a_keptS a_statuses a_pile a_tape a_steps a_wish a_mark a_bitsOf a_sizeOf a_number a_moved v_isKept v_taped v_at v_fault v_laid v_open k24)) fx h [0, 2] rfl rfl rfl rfl (q_runV fx h hl.1 [0, 2] rfl rfl (tX5_finds l D cI cJ cZ cS tb a_t a_s a_keptS a_statuses a_pile a_tape a_steps a_wish a_mark a_bitsOf a_sizeOf a_number a_moved H.size v_isKept v_taped v_at v_fault v_laid v_open v_statuses (-1000000001) r24 k24 hg) mvX5_finds k_702 ⟨rfl, rfl⟩ ⟨Nat.le_of_ble_eq_true rfl, Nat.le_of_ble_eq_true rfl⟩ rfl rfl rfl rfl (Nat.le_of_ble_eq_true rfl) dX5_sure_15 ⟨Nat.le_of_ble_eq_true rfl, Nat.le_of_ble_eq_true rfl⟩) (fun H locs h => ?_)
  exact q_reti (fun k : (Nat → Int32) × (Nat → Int32) × (Nat → Int32) => (wX5_sure cI cJ cZ cS a_t a_s a_keptS a_statuses a_pile a_tape a_steps a_wish a_mark a_bitsOf a_sizeOf a_number a_moved v_isKept v_taped v_at v_fault v_laid v_open v_s k.1 k.2.1 k.2.2)) fx hf h dX5_sure_18
/-! X5_looksWhere -/
abbrev wX5_looksWhere (cI cJ cZ cS : ClassId) (a_t a_s a_keptS a_statuses a_pile a_tape a_steps a_wish a_mark a_bitsOf a_sizeOf a_number a_moved : Nat) (v_isKept : Int32) (v_taped : Int32) (v_at : Int32) (v_fault : Int32) (v_laid : Int32) (v_open : Int32) (v_s : Nat → Int32) (v_pile : Nat → Int32) (v_wish : Nat → Int32) (v_mark : Nat → Int32) : va_W := [(a_t, .inr (5, [.ref a_s, .ref a_keptS, .ref a_statuses, .int v_isKept, .ref a_pile, .ref a_tape, .ref a_steps, .int v_taped, .int v_at, .int v_fault, .int v_laid, .int v_open, .ref a_wish, .ref a_mark, .ref a_bitsOf, .ref a_sizeOf, .ref a_number, .ref a_moved])), (a_s, .inl (cI, 538, .inl v_s)), (a_pile, .inl (cZ, 64, .inl v_pile)), (a_wish, .inl (cI, 256, .inl v_wish)), (a_mark, .inl (cI, 256, .inl v_mark))]
abbrev rX5_looksWhere : Room := { frames := 6, cells := 0, slots := 0, locals := 137 }
def fX5_looksWhere_68 (v_s : Nat → Int32) (ag6 : (Nat → Int32) → (Nat → Int32) → (Nat → Int32) → Int32 → Option ((Nat → Int32) × (Nat → Int32) × (Nat → Int32))) (v_pile : Nat → Int32) (v_wish : Nat → Int32) (v_mark : Nat → Int32) (s1 : Int32) (s2 : Int32) (y1 : Int32) : Option ((Nat → Int32) × (Nat → Int32) × (Nat → Int32)) :=
  gIn s1 256 (
  nm (y1 + 1) (fun u2 =>
  ag6 v_pile v_wish (upd v_mark s1.toNatClampNeg s2) u2))
set_option maxRecDepth 100000 in
set_option maxHeartbeats 4000000 in
theorem LX5_looksWhere_68 {p : Program} {l : Launch} {e : Env} {s : State} {m : MethodId} {args : Array Value} {below : List Frame} {meth : Method} {c : Code} {D : va_G} {cI cJ cZ cS : ClassId} {tb : Nat} {A : Nat → Prop} {a_t a_s a_keptS a_statuses a_pile a_tape a_steps a_wish a_mark a_bitsOf a_sizeOf a_number a_moved : Nat} {v_isKept : Int32} {v_taped : Int32} {v_at : Int32} {v_fault : Int32} {v_laid : Int32} {v_open : Int32} {v_s : Nat → Int32} {kk' : (Nat → Int32) × (Nat → Int32) × (Nat → Int32)} (fx : q_Fx p s m args meth c cX5_looksWhere 4 RX5 none D cI cJ cZ cS tb A) {ag6 : (Nat → Int32) → (Nat → Int32) → (Nat → Int32) → Int32 → Option ((Nat → Int32) × (Nat → Int32) × (Nat → Int32))} (hag6 : ∀ {v_pile : Nat → Int32} {v_wish : Nat → Int32} {v_mark : Nat → Int32} {y1 : Int32} {H : Heap} {locs : List Loc} {ls : Array Slot}, q_H D A s (wX5_looksWhere cI cJ cZ cS a_t a_s a_keptS a_statuses a_pile a_tape a_steps a_wish a_mark a_bitsOf a_sizeOf a_number a_moved v_isKept v_taped v_at v_fault v_laid v_open v_s v_pile v_wish v_mark) H locs → lv_has ls 4 [(0, .ref a_t), (1, .int y1)] → ag6 v_pile v_wish v_mark y1 = some kk' → W p l e rX5_looksWhere s m args below meth c H locs 0 0 (MQ below (q_Rv D A ((fun k : (Nat → Int32) × (Nat → Int32) × (Nat → Int32) => (wX5_looksWhere cI cJ cZ cS a_t a_s a_keptS a_statuses a_pile a_tape a_steps a_wish a_mark a_bitsOf a_sizeOf a_number a_moved v_isKept v_taped v_at v_fault v_laid v_open v_s k.1 k.2.1 k.2.2)) kk')) args s 0 0 A) (F0 m 6 ls [])) : ∀ {v_pile : Nat → Int32} {v_wish : Nat → Int32} {v_mark : Nat → Int32} {s1 : Int32} {s2 : Int32} {y1 : Int32} {H : Heap} {locs : List Loc} {ls : Array Slot}, q_H D A s (wX5_looksWhere cI cJ cZ cS a_t a_s a_keptS a_statuses a_pile a_tape a_steps a_wish a_mark a_bitsOf a_sizeOf a_number a_moved v_isKept v_taped v_at v_fault v_laid v_open v_s v_pile v_wish v_mark) H locs → lv_has ls 4 [(0, .ref a_t), (1, .int y1)] → fX5_looksWhere_68 v_s ag6 v_pile v_wish v_mark s1 s2 y1 = some kk' → W p l e rX5_looksWhere s m args below meth c H locs 0 0 (MQ below (q_Rv D A ((fun k : (Nat → Int32) × (Nat → Int32) × (Nat → Int32) => (wX5_looksWhere cI cJ cZ cS a_t a_s a_keptS a_statuses a_pile a_tape a_steps a_wish a_mark a_bitsOf a_sizeOf a_number a_moved v_isKept v_taped v_at v_fault v_laid v_open v_s k.1 k.2.1 k.2.2)) kk')) args s 0 0 A) (F0 m 68 ls [.int s2, .int s1, .ref a_mark]) := by
  intro v_pile v_wish v_mark s1 s2 y1 H locs ls h hl hf
  have hx := fx.1
  have hb := fx.2.1
  unfold fX5_looksWhere_68 at hf
  obtain ⟨i1, hf⟩ := gIn_inv hf
  refine q_iast (ws' := (wX5_looksWhere cI cJ cZ cS a_t a_s a_keptS a_statuses a_pile a_tape a_steps a_wish a_mark a_bitsOf a_sizeOf a_number a_moved v_isKept v_taped v_at v_fault v_laid v_open v_s v_pile v_wish (upd v_mark s1.toNatClampNeg s2))) fx h 4 rfl i1 rfl dX5_looksWhere_68 (fun H locs h => ?_)
  obtain ⟨u2, eu2, hf⟩ := nm_inv hf
  refine lv_iinc (v := u2) (lv' := [(1, .int u2), (0, .ref a_t)]) hx hb dX5_looksWhere_69 hl (k := 1) rfl (by rw [eu2]; rfl) (by decide) rfl (fun ls hl => ?_)
  refine lv_goto (tgt := 6) hx hb dX5_looksWhere_72 (by decide) ?_
  exact hag6 h (lv_sub hl [1, 0] rfl) hf
def fX5_looksWhere_48 (v_s : Nat → Int32) (ag6 : (Nat → Int32) → (Nat → Int32) → (Nat → Int32) → Int32 → Option ((Nat → Int32) × (Nat → Int32) × (Nat → Int32))) (v_pile : Nat → Int32) (v_wish : Nat → Int32) (v_mark : Nat → Int32) (y1 : Int32) (y2 : Int32) : Option ((Nat → Int32) × (Nat → Int32) × (Nat → Int32)) :=
  gIn y2 256 (
  (if (v_wish y2.toNatClampNeg) = y2 then (
  fX5_looksWhere_68 v_s ag6 v_pile v_wish v_mark y1 y2 y1)
  else (
  fX5_looksWhere_68 v_s ag6 v_pile v_wish v_mark y1 (-1) y1)))
set_option maxRecDepth 100000 in
set_option maxHeartbeats 4000000 in
theorem LX5_looksWhere_48 {p : Program} {l : Launch} {e : Env} {s : State} {m : MethodId} {args : Array Value} {below : List Frame} {meth : Method} {c : Code} {D : va_G} {cI cJ cZ cS : ClassId} {tb : Nat} {A : Nat → Prop} {a_t a_s a_keptS a_statuses a_pile a_tape a_steps a_wish a_mark a_bitsOf a_sizeOf a_number a_moved : Nat} {v_isKept : Int32} {v_taped : Int32} {v_at : Int32} {v_fault : Int32} {v_laid : Int32} {v_open : Int32} {v_s : Nat → Int32} {kk' : (Nat → Int32) × (Nat → Int32) × (Nat → Int32)} (fx : q_Fx p s m args meth c cX5_looksWhere 4 RX5 none D cI cJ cZ cS tb A) {ag6 : (Nat → Int32) → (Nat → Int32) → (Nat → Int32) → Int32 → Option ((Nat → Int32) × (Nat → Int32) × (Nat → Int32))} (hag6 : ∀ {v_pile : Nat → Int32} {v_wish : Nat → Int32} {v_mark : Nat → Int32} {y1 : Int32} {H : Heap} {locs : List Loc} {ls : Array Slot}, q_H D A s (wX5_looksWhere cI cJ cZ cS a_t a_s a_keptS a_statuses a_pile a_tape a_steps a_wish a_mark a_bitsOf a_sizeOf a_number a_moved v_isKept v_taped v_at v_fault v_laid v_open v_s v_pile v_wish v_mark) H locs → lv_has ls 4 [(0, .ref a_t), (1, .int y1)] → ag6 v_pile v_wish v_mark y1 = some kk' → W p l e rX5_looksWhere s m args below meth c H locs 0 0 (MQ below (q_Rv D A ((fun k : (Nat → Int32) × (Nat → Int32) × (Nat → Int32) => (wX5_looksWhere cI cJ cZ cS a_t a_s a_keptS a_statuses a_pile a_tape a_steps a_wish a_mark a_bitsOf a_sizeOf a_number a_moved v_isKept v_taped v_at v_fault v_laid v_open v_s k.1 k.2.1 k.2.2)) kk')) args s 0 0 A) (F0 m 6 ls [])) : ∀ {v_pile : Nat → Int32} {v_wish : Nat → Int32} {v_mark : Nat → Int32} {y1 : Int32} {y2 : Int32} {H : Heap} {locs : List Loc} {ls : Array Slot}, q_H D A s (wX5_looksWhere cI cJ cZ cS a_t a_s a_keptS a_statuses a_pile a_tape a_steps a_wish a_mark a_bitsOf a_sizeOf a_number a_moved v_isKept v_taped v_at v_fault v_laid v_open v_s v_pile v_wish v_mark) H locs → lv_has ls 4 [(0, .ref a_t), (1, .int y1), (2, .int y2)] → fX5_looksWhere_48 v_s ag6 v_pile v_wish v_mark y1 y2 = some kk' → W p l e rX5_looksWhere s m args below meth c H locs 0 0 (MQ below (q_Rv D A ((fun k : (Nat → Int32) × (Nat → Int32) × (Nat → Int32) => (wX5_looksWhere cI cJ cZ cS a_t a_s a_keptS a_statuses a_pile a_tape a_steps a_wish a_mark a_bitsOf a_sizeOf a_number a_moved v_isKept v_taped v_at v_fault v_laid v_open v_s k.1 k.2.1 k.2.2)) kk')) args s 0 0 A) (F0 m 48 ls []) := by
  intro v_pile v_wish v_mark y1 y2 H locs ls h hl hf
  have hx := fx.1
  have hb := fx.2.1
  unfold fX5_looksWhere_48 at hf
  refine lv_aload_n hx hb dX5_looksWhere_48 rfl (lv_at hl 0 rfl) ?_
  refine q_get (v := .ref a_mark) fx inX5 h 0 rfl rfl 13 (by decide) k_649 rfl dX5_looksWhere_49 ?_
  refine lv_iload_n hx hb dX5_looksWhere_52 rfl (lv_at hl 1 rfl) ?_
  refine lv_aload_n hx hb dX5_looksWhere_53 rfl (lv_at hl 0 rfl) ?_
  refine q_get (v := .ref a_wish) fx inX5 h 0 rfl rfl 12 (by decide) k_648 rfl dX5_looksWhere_54 ?_
  refine lv_iload_n hx hb dX5_looksWhere_57 rfl (lv_at hl 2 rfl) ?_
  obtain ⟨i3, hf⟩ := gIn_inv hf
  refine q_iald fx h 3 rfl i3 dX5_looksWhere_58 ?_
  refine lv_iload_n hx hb dX5_looksWhere_59 rfl (lv_at hl 2 rfl) ?_
  refine lv_icmp_ne (tgt := 67) hx hb dX5_looksWhere_60 (by decide) (fun c4 => ?_) (fun c4 => ?_)
  · have hf := it_f c4 hf
    refine lv_iconst (v := -1) hx hb dX5_looksWhere_67 (by decide) ?_
    exact LX5_looksWhere_68 fx hag6 h (lv_sub hl [0, 1] rfl) hf
  have hf := it_t c4 hf
  refine lv_iload_n hx hb dX5_looksWhere_63 rfl (lv_at hl 2 rfl) ?_
  refine lv_goto (tgt := 68) hx hb dX5_looksWhere_64 (by decide) ?_
  exact LX5_looksWhere_68 fx hag6 h (lv_sub hl [0, 1] rfl) hf
def fX5_looksWhere_18 (v_s : Nat → Int32) (ag6 : (Nat → Int32) → (Nat → Int32) → (Nat → Int32) → Int32 → Option ((Nat → Int32) × (Nat → Int32) × (Nat → Int32))) (ag18 : (Nat → Int32) → (Nat → Int32) → (Nat → Int32) → Int32 → Int32 → Int32 → Option ((Nat → Int32) × (Nat → Int32) × (Nat → Int32))) (v_pile : Nat → Int32) (v_wish : Nat → Int32) (v_mark : Nat → Int32) (y1 : Int32) (y2 : Int32) (y3 : Int32) : Option ((Nat → Int32) × (Nat → Int32) × (Nat → Int32)) :=
  (if (256 : Int32) ≤ y3 then (
  fX5_looksWhere_48 v_s ag6 v_pile v_wish v_mark y1 y2)
  else (
  gIn y2 256 (
  (if (v_wish y2.toNatClampNeg) = y2 then (
  fX5_looksWhere_48 v_s ag6 v_pile v_wish v_mark y1 y2)
  else (
  gIn y2 256 (
  nm (v_wish y2.toNatClampNeg) (fun u9 =>
  nm (y3 + 1) (fun u10 =>
  ag18 v_pile v_wish v_mark y1 u9 u10))))))))
set_option maxRecDepth 100000 in
set_option maxHeartbeats 4000000 in
theorem LX5_looksWhere_18 {p : Program} {l : Launch} {e : Env} {s : State} {m : MethodId} {args : Array Value} {below : List Frame} {meth : Method} {c : Code} {D : va_G} {cI cJ cZ cS : ClassId} {tb : Nat} {A : Nat → Prop} {a_t a_s a_keptS a_statuses a_pile a_tape a_steps a_wish a_mark a_bitsOf a_sizeOf a_number a_moved : Nat} {v_isKept : Int32} {v_taped : Int32} {v_at : Int32} {v_fault : Int32} {v_laid : Int32} {v_open : Int32} {v_s : Nat → Int32} {kk' : (Nat → Int32) × (Nat → Int32) × (Nat → Int32)} (fx : q_Fx p s m args meth c cX5_looksWhere 4 RX5 none D cI cJ cZ cS tb A) {ag6 : (Nat → Int32) → (Nat → Int32) → (Nat → Int32) → Int32 → Option ((Nat → Int32) × (Nat → Int32) × (Nat → Int32))} (hag6 : ∀ {v_pile : Nat → Int32} {v_wish : Nat → Int32} {v_mark : Nat → Int32} {y1 : Int32} {H : Heap} {locs : List Loc} {ls : Array Slot}, q_H D A s (wX5_looksWhere cI cJ cZ cS a_t a_s a_keptS a_statuses a_pile a_tape a_steps a_wish a_mark a_bitsOf a_sizeOf a_number a_moved v_isKept v_taped v_at v_fault v_laid v_open v_s v_pile v_wish v_mark) H locs → lv_has ls 4 [(0, .ref a_t), (1, .int y1)] → ag6 v_pile v_wish v_mark y1 = some kk' → W p l e rX5_looksWhere s m args below meth c H locs 0 0 (MQ below (q_Rv D A ((fun k : (Nat → Int32) × (Nat → Int32) × (Nat → Int32) => (wX5_looksWhere cI cJ cZ cS a_t a_s a_keptS a_statuses a_pile a_tape a_steps a_wish a_mark a_bitsOf a_sizeOf a_number a_moved v_isKept v_taped v_at v_fault v_laid v_open v_s k.1 k.2.1 k.2.2)) kk')) args s 0 0 A) (F0 m 6 ls [])) {ag18 : (Nat → Int32) → (Nat → Int32) → (Nat → Int32) → Int32 → Int32 → Int32 → Option ((Nat → Int32) × (Nat → Int32) × (Nat → Int32))} (hag18 : ∀ {v_pile : Nat → Int32} {v_wish : Nat → Int32} {v_mark : Nat → Int32} {y1 : Int32} {y2 : Int32} {y3 : Int32} {H : Heap} {locs : List Loc} {ls : Array Slot}, q_H D A s (wX5_looksWhere cI cJ cZ cS a_t a_s a_keptS a_statuses a_pile a_tape a_steps a_wish a_mark a_bitsOf a_sizeOf a_number a_moved v_isKept v_taped v_at v_fault v_laid v_open v_s v_pile v_wish v_mark) H locs → lv_has ls 4 [(0, .ref a_t), (1, .int y1), (2, .int y2), (3, .int y3)] → ag18 v_pile v_wish v_mark y1 y2 y3 = some kk' → W p l e rX5_looksWhere s m args below meth c H locs 0 0 (MQ below (q_Rv D A ((fun k : (Nat → Int32) × (Nat → Int32) × (Nat → Int32) => (wX5_looksWhere cI cJ cZ cS a_t a_s a_keptS a_statuses a_pile a_tape a_steps a_wish a_mark a_bitsOf a_sizeOf a_number a_moved v_isKept v_taped v_at v_fault v_laid v_open v_s k.1 k.2.1 k.2.2)) kk')) args s 0 0 A) (F0 m 18 ls [])) : ∀ {v_pile : Nat → Int32} {v_wish : Nat → Int32} {v_mark : Nat → Int32} {y1 : Int32} {y2 : Int32} {y3 : Int32} {H : Heap} {locs : List Loc} {ls : Array Slot}, q_H D A s (wX5_looksWhere cI cJ cZ cS a_t a_s a_keptS a_statuses a_pile a_tape a_steps a_wish a_mark a_bitsOf a_sizeOf a_number a_moved v_isKept v_taped v_at v_fault v_laid v_open v_s v_pile v_wish v_mark) H locs → lv_has ls 4 [(0, .ref a_t), (1, .int y1), (2, .int y2), (3, .int y3)] → fX5_looksWhere_18 v_s ag6 ag18 v_pile v_wish v_mark y1 y2 y3 = some kk' → W p l e rX5_looksWhere s m args below meth c H locs 0 0 (MQ below (q_Rv D A ((fun k : (Nat → Int32) × (Nat → Int32) × (Nat → Int32) => (wX5_looksWhere cI cJ cZ cS a_t a_s a_keptS a_statuses a_pile a_tape a_steps a_wish a_mark a_bitsOf a_sizeOf a_number a_moved v_isKept v_taped v_at v_fault v_laid v_open v_s k.1 k.2.1 k.2.2)) kk')) args s 0 0 A) (F0 m 18 ls []) := by
  intro v_pile v_wish v_mark y1 y2 y3 H locs ls h hl hf
  have hx := fx.1
  have hb := fx.2.1
  unfold fX5_looksWhere_18 at hf
  refine lv_iload_n hx hb dX5_looksWhere_18 rfl (lv_at hl 3 rfl) ?_
  refine lv_sipush (v := 256) hx hb dX5_looksWhere_19 (by decide) ?_
  refine lv_icmp_ge (tgt := 48) hx hb dX5_looksWhere_22 (by decide) (fun c5 => ?_) (fun c5 => ?_)
  · have hf := it_t c5 hf
    exact LX5_looksWhere_48 fx hag6 h (lv_sub hl [0, 1, 2] rfl) hf
  have hf := it_f c5 hf
  refine lv_aload_n hx hb dX5_looksWhere_25 rfl (lv_at hl 0 rfl) ?_
  refine q_get (v := .ref a_wish) fx inX5 h 0 rfl rfl 12 (by decide) k_648 rfl dX5_looksWhere_26 ?_
  refine lv_iload_n hx hb dX5_looksWhere_29 rfl (lv_at hl 2 rfl) ?_
  obtain ⟨i6, hf⟩ := gIn_inv hf
  refine q_iald fx h 3 rfl i6 dX5_looksWhere_30 ?_
  refine lv_iload_n hx hb dX5_looksWhere_31 rfl (lv_at hl 2 rfl) ?_
  refine lv_icmp_eq (tgt := 48) hx hb dX5_looksWhere_32 (by decide) (fun c7 => ?_) (fun c7 => ?_)
  · have hf := it_t c7 hf
    exact LX5_looksWhere_48 fx hag6 h (lv_sub hl [0, 1, 2] rfl) hf
  have hf := it_f c7 hf
  refine lv_aload_n hx hb dX5_looksWhere_35 rfl (lv_at hl 0 rfl) ?_
  refine q_get (v := .ref a_wish) fx inX5 h 0 rfl rfl 12 (by decide) k_648 rfl dX5_looksWhere_36 ?_
  refine lv_iload_n hx hb dX5_looksWhere_39 rfl (lv_at hl 2 rfl) ?_
  obtain ⟨i8, hf⟩ := gIn_inv hf
  refine q_iald fx h 3 rfl i8 dX5_looksWhere_40 ?_
  obtain ⟨u9, eu9, hf⟩ := nm_inv hf
  refine lv_eqi eu9 ?_
  refine lv_istore_n (lv' := [(2, .int u9), (0, .ref a_t), (1, .int y1), (3, .int y3)]) hx hb dX5_looksWhere_41 rfl hl (by decide) rfl (fun ls hl => ?_)
  obtain ⟨u10, eu10, hf⟩ := nm_inv hf
  refine lv_iinc (v := u10) (lv' := [(3, .int u10), (2, .int u9), (0, .ref a_t), (1, .int y1)]) hx hb dX5_looksWhere_42 hl (k := 3) rfl (by rw [eu10]; rfl) (by decide) rfl (fun ls hl => ?_)
  refine lv_goto (tgt := 18) hx hb dX5_looksWhere_45 (by decide) ?_
  exact hag18 h (lv_sub hl [2, 3, 1, 0] rfl) hf
set_option maxRecDepth 100000 in
theorem EX5_looksWhere_18 {p : Program} {l : Launch} {e : Env} {s : State} {m : MethodId} {args : Array Value} {below : List Frame} {meth : Method} {c : Code} {D : va_G} {cI cJ cZ cS : ClassId} {tb : Nat} {A : Nat → Prop} {a_t a_s a_keptS a_statuses a_pile a_tape a_steps a_wish a_mark a_bitsOf a_sizeOf a_number a_moved : Nat} {v_isKept : Int32} {v_taped : Int32} {v_at : Int32} {v_fault : Int32} {v_laid : Int32} {v_open : Int32} {v_s : Nat → Int32} {kk' : (Nat → Int32) × (Nat → Int32) × (Nat → Int32)} (fx : q_Fx p s m args meth c cX5_looksWhere 4 RX5 none D cI cJ cZ cS tb A) {ag6 : (Nat → Int32) → (Nat → Int32) → (Nat → Int32) → Int32 → Option ((Nat → Int32) × (Nat → Int32) × (Nat → Int32))} (hag6 : ∀ {v_pile : Nat → Int32} {v_wish : Nat → Int32} {v_mark : Nat → Int32} {y1 : Int32} {H : Heap} {locs : List Loc} {ls : Array Slot}, q_H D A s (wX5_looksWhere cI cJ cZ cS a_t a_s a_keptS a_statuses a_pile a_tape a_steps a_wish a_mark a_bitsOf a_sizeOf a_number a_moved v_isKept v_taped v_at v_fault v_laid v_open v_s v_pile v_wish v_mark) H locs → lv_has ls 4 [(0, .ref a_t), (1, .int y1)] → ag6 v_pile v_wish v_mark y1 = some kk' → W p l e rX5_looksWhere s m args below meth c H locs 0 0 (MQ below (q_Rv D A ((fun k : (Nat → Int32) × (Nat → Int32) × (Nat → Int32) => (wX5_looksWhere cI cJ cZ cS a_t a_s a_keptS a_statuses a_pile a_tape a_steps a_wish a_mark a_bitsOf a_sizeOf a_number a_moved v_isKept v_taped v_at v_fault v_laid v_open v_s k.1 k.2.1 k.2.2)) kk')) args s 0 0 A) (F0 m 6 ls [])) : ∀ (n : Nat), ∀ {v_pile : Nat → Int32} {v_wish : Nat → Int32} {v_mark : Nat → Int32} {y1 : Int32} {y2 : Int32} {y3 : Int32} {H : Heap} {locs : List Loc} {ls : Array Slot}, q_H D A s (wX5_looksWhere cI cJ cZ cS a_t a_s a_keptS a_statuses a_pile a_tape a_steps a_wish a_mark a_bitsOf a_sizeOf a_number a_moved v_isKept v_taped v_at v_fault v_laid v_open v_s v_pile v_wish v_mark) H locs → lv_has ls 4 [(0, .ref a_t), (1, .int y1), (2, .int y2), (3, .int y3)] → ll6 (fX5_looksWhere_18 v_s ag6) n v_pile v_wish v_mark y1 y2 y3 = some kk' → W p l e rX5_looksWhere s m args below meth c H locs 0 0 (MQ below (q_Rv D A ((fun k : (Nat → Int32) × (Nat → Int32) × (Nat → Int32) => (wX5_looksWhere cI cJ cZ cS a_t a_s a_keptS a_statuses a_pile a_tape a_steps a_wish a_mark a_bitsOf a_sizeOf a_number a_moved v_isKept v_taped v_at v_fault v_laid v_open v_s k.1 k.2.1 k.2.2)) kk')) args s 0 0 A) (F0 m 18 ls []) := by
  intro n
  induction n with
  | zero => intro v_pile v_wish v_mark y1 y2 y3 H locs ls h hl hf; exact (ll6_z hf).elim
  | succ n ih => intro v_pile v_wish v_mark y1 y2 y3 H locs ls h hl hf; exact LX5_looksWhere_18 fx hag6 ih h hl (ll6_s hf)
def fX5_looksWhere_6 (v_s : Nat → Int32) (ag6 : (Nat → Int32) → (Nat → Int32) → (Nat → Int32) → Int32 → Option ((Nat → Int32) × (Nat → Int32) × (Nat → Int32))) (v_pile : Nat → Int32) (v_wish : Nat → Int32) (v_mark : Nat → Int32) (y1 : Int32) : Option ((Nat → Int32) × (Nat → Int32) × (Nat → Int32)) :=
  bR (fX5_lists v_s) (fun r11 k11 =>
  (if r11 ≤ y1 then (
  some (v_pile, v_wish, v_mark))
  else (
  ll6 (fX5_looksWhere_18 v_s ag6) qF v_pile v_wish v_mark y1 y1 0)))
set_option maxRecDepth 100000 in
set_option maxHeartbeats 4000000 in
theorem LX5_looksWhere_6 {p : Program} {l : Launch} {e : Env} {s : State} {m : MethodId} {args : Array Value} {below : List Frame} {meth : Method} {c : Code} {D : va_G} {cI cJ cZ cS : ClassId} {tb : Nat} {A : Nat → Prop} {a_t a_s a_keptS a_statuses a_pile a_tape a_steps a_wish a_mark a_bitsOf a_sizeOf a_number a_moved : Nat} {v_isKept : Int32} {v_taped : Int32} {v_at : Int32} {v_fault : Int32} {v_laid : Int32} {v_open : Int32} {v_s : Nat → Int32} {kk' : (Nat → Int32) × (Nat → Int32) × (Nat → Int32)} (fx : q_Fx p s m args meth c cX5_looksWhere 4 RX5 none D cI cJ cZ cS tb A) {ag6 : (Nat → Int32) → (Nat → Int32) → (Nat → Int32) → Int32 → Option ((Nat → Int32) × (Nat → Int32) × (Nat → Int32))} (hag6 : ∀ {v_pile : Nat → Int32} {v_wish : Nat → Int32} {v_mark : Nat → Int32} {y1 : Int32} {H : Heap} {locs : List Loc} {ls : Array Slot}, q_H D A s (wX5_looksWhere cI cJ cZ cS a_t a_s a_keptS a_statuses a_pile a_tape a_steps a_wish a_mark a_bitsOf a_sizeOf a_number a_moved v_isKept v_taped v_at v_fault v_laid v_open v_s v_pile v_wish v_mark) H locs → lv_has ls 4 [(0, .ref a_t), (1, .int y1)] → ag6 v_pile v_wish v_mark y1 = some kk' → W p l e rX5_looksWhere s m args below meth c H locs 0 0 (MQ below (q_Rv D A ((fun k : (Nat → Int32) × (Nat → Int32) × (Nat → Int32) => (wX5_looksWhere cI cJ cZ cS a_t a_s a_keptS a_statuses a_pile a_tape a_steps a_wish a_mark a_bitsOf a_sizeOf a_number a_moved v_isKept v_taped v_at v_fault v_laid v_open v_s k.1 k.2.1 k.2.2)) kk')) args s 0 0 A) (F0 m 6 ls [])) : ∀ {v_pile : Nat → Int32} {v_wish : Nat → Int32} {v_mark : Nat → Int32} {y1 : Int32} {H : Heap} {locs : List Loc} {ls : Array Slot}, q_H D A s (wX5_looksWhere cI cJ cZ cS a_t a_s a_keptS a_statuses a_pile a_tape a_steps a_wish a_mark a_bitsOf a_sizeOf a_number a_moved v_isKept v_taped v_at v_fault v_laid v_open v_s v_pile v_wish v_mark) H locs → lv_has ls 4 [(0, .ref a_t), (1, .int y1)] → fX5_looksWhere_6 v_s ag6 v_pile v_wish v_mark y1 = some kk' → W p l e rX5_looksWhere s m args below meth c H locs 0 0 (MQ below (q_Rv D A ((fun k : (Nat → Int32) × (Nat → Int32) × (Nat → Int32) => (wX5_looksWhere cI cJ cZ cS a_t a_s a_keptS a_statuses a_pile a_tape a_steps a_wish a_mark a_bitsOf a_sizeOf a_number a_moved v_isKept v_taped v_at v_fault v_laid v_open v_s k.1 k.2.1 k.2.2)) kk')) args s 0 0 A) (F0 m 6 ls []) := by
  intro v_pile v_wish v_mark y1 H locs ls h hl hf
  have hx := fx.1
  have hb := fx.2.1
  unfold fX5_looksWhere_6 at hf
  refine lv_iload_n hx hb dX5_looksWhere_6 rfl (lv_at hl 1 rfl) ?_
  refine lv_aload_n hx hb dX5_looksWhere_7 rfl (lv_at hl 0 rfl) ?_
  obtain ⟨r11, k11, hg, hf⟩ := bR_inv hf
  refine q_ci (rest := [.int y1]) (ws' := (wX5_looksWhere cI cJ cZ cS a_t a_s a_keptS a_statuses a_pile a_tape a_steps a_wish a_mark a_bitsOf a_sizeOf a_number a_moved v_isKept v_taped v_at v_fault v_laid v_open v_s v_pile v_wish v_mark)) (w1 := (wX5_lists cI cJ cZ cS a_t a_s a_keptS a_statuses a_pile a_tape a_steps a_wish a_mark a_bitsOf a_sizeOf a_number a_moved v_isKept v_taped v_at v_fault v_laid v_open v_s)) fx h [0, 1] rfl rfl rfl rfl (q_runV fx h hl.1 [0, 1] rfl rfl (tX5_lists l D cI cJ cZ cS tb a_t a_s a_keptS a_statuses a_pile a_tape a_steps a_wish a_mark a_bitsOf a_sizeOf a_number a_moved H.size v_isKept v_taped v_at v_fault v_laid v_open v_s r11 k11 hg) mvX5_lists k_810 ⟨rfl, rfl⟩ ⟨Nat.le_of_ble_eq_true rfl, Nat.le_of_ble_eq_true rfl⟩ rfl rfl rfl rfl (Nat.le_of_ble_eq_true rfl) dX5_looksWhere_8 ⟨Nat.le_of_ble_eq_true rfl, Nat.le_of_ble_eq_true rfl⟩) (fun H locs h => ?_)
  refine lv_icmp_ge (tgt := 75) hx hb dX5_looksWhere_11 (by decide) (fun c12 => ?_) (fun c12 => ?_)
  · have hf := it_t c12 hf
    exact q_retv (fun k : (Nat → Int32) × (Nat → Int32) × (Nat → Int32) => (wX5_looksWhere cI cJ cZ cS a_t a_s a_keptS a_statuses a_pile a_tape a_steps a_wish a_mark a_bitsOf a_sizeOf a_number a_moved v_isKept v_taped v_at v_fault v_laid v_open v_s k.1 k.2.1 k.2.2)) fx hf h dX5_looksWhere_75
  have hf := it_f c12 hf
  refine lv_iload_n hx hb dX5_looksWhere_14 rfl (lv_at hl 1 rfl) ?_
  refine lv_istore_n (lv' := [(2, .int y1), (0, .ref a_t), (1, .int y1)]) hx hb dX5_looksWhere_15 rfl hl (by decide) rfl (fun ls hl => ?_)
  refine lv_iconst (v := 0) hx hb dX5_looksWhere_16 (by decide) ?_
  refine lv_istore_n (lv' := [(3, .int 0), (2, .int y1), (0, .ref a_t), (1, .int y1)]) hx hb dX5_looksWhere_17 rfl hl (by decide) rfl (fun ls hl => ?_)
  exact EX5_looksWhere_18 fx hag6 qF h (lv_sub hl [2, 3, 1, 0] rfl) hf
set_option maxRecDepth 100000 in
theorem EX5_looksWhere_6 {p : Program} {l : Launch} {e : Env} {s : State} {m : MethodId} {args : Array Value} {below : List Frame} {meth : Method} {c : Code} {D : va_G} {cI cJ cZ cS : ClassId} {tb : Nat} {A : Nat → Prop} {a_t a_s a_keptS a_statuses a_pile a_tape a_steps a_wish a_mark a_bitsOf a_sizeOf a_number a_moved : Nat} {v_isKept : Int32} {v_taped : Int32} {v_at : Int32} {v_fault : Int32} {v_laid : Int32} {v_open : Int32} {v_s : Nat → Int32} {kk' : (Nat → Int32) × (Nat → Int32) × (Nat → Int32)} (fx : q_Fx p s m args meth c cX5_looksWhere 4 RX5 none D cI cJ cZ cS tb A) : ∀ (n : Nat), ∀ {v_pile : Nat → Int32} {v_wish : Nat → Int32} {v_mark : Nat → Int32} {y1 : Int32} {H : Heap} {locs : List Loc} {ls : Array Slot}, q_H D A s (wX5_looksWhere cI cJ cZ cS a_t a_s a_keptS a_statuses a_pile a_tape a_steps a_wish a_mark a_bitsOf a_sizeOf a_number a_moved v_isKept v_taped v_at v_fault v_laid v_open v_s v_pile v_wish v_mark) H locs → lv_has ls 4 [(0, .ref a_t), (1, .int y1)] → ll4 (fX5_looksWhere_6 v_s) n v_pile v_wish v_mark y1 = some kk' → W p l e rX5_looksWhere s m args below meth c H locs 0 0 (MQ below (q_Rv D A ((fun k : (Nat → Int32) × (Nat → Int32) × (Nat → Int32) => (wX5_looksWhere cI cJ cZ cS a_t a_s a_keptS a_statuses a_pile a_tape a_steps a_wish a_mark a_bitsOf a_sizeOf a_number a_moved v_isKept v_taped v_at v_fault v_laid v_open v_s k.1 k.2.1 k.2.2)) kk')) args s 0 0 A) (F0 m 6 ls []) := by
  intro n
  induction n with
  | zero => intro v_pile v_wish v_mark y1 H locs ls h hl hf; exact (ll4_z hf).elim
  | succ n ih => intro v_pile v_wish v_mark y1 H locs ls h hl hf; exact LX5_looksWhere_6 fx ih h hl (ll4_s hf)
def fX5_looksWhere (v_s : Nat → Int32) (v_pile : Nat → Int32) (v_wish : Nat → Int32) (v_mark : Nat → Int32) : Option ((Nat → Int32) × (Nat → Int32) × (Nat → Int32)) :=
  bV (fX5_looksAll v_s v_pile v_wish) (fun k13 =>
  ll4 (fX5_looksWhere_6 v_s) qF k13.1 k13.2 v_mark 0)
set_option maxRecDepth 100000 in
set_option maxHeartbeats 4000000 in
theorem tX5_looksWhere (l : Launch) (D : va_G) (cI cJ cZ cS : ClassId) (tb : Nat) (a_t a_s a_keptS a_statuses a_pile a_tape a_steps a_wish a_mark a_bitsOf a_sizeOf a_number a_moved : Nat) (sz : Nat) (v_isKept : Int32) (v_taped : Int32) (v_at : Int32) (v_fault : Int32) (v_laid : Int32) (v_open : Int32) (v_s : Nat → Int32) (v_pile : Nat → Int32) (v_wish : Nat → Int32) (v_mark : Nat → Int32) (kk' : (Nat → Int32) × (Nat → Int32) × (Nat → Int32)) (hf : fX5_looksWhere v_s v_pile v_wish v_mark = some kk') : Met l yX5_looksWhere (Cond.code yX5_looksWhere cX5_looksWhere 4 none :: wA) rX5_looksWhere (q_Pre D cI cJ cZ cS tb [.ref a_t] sz (wX5_looksWhere cI cJ cZ cS a_t a_s a_keptS a_statuses a_pile a_tape a_steps a_wish a_mark a_bitsOf a_sizeOf a_number a_moved v_isKept v_taped v_at v_fault v_laid v_open v_s v_pile v_wish v_mark)) (q_Rv D (va_A (wX5_looksWhere cI cJ cZ cS a_t a_s a_keptS a_statuses a_pile a_tape a_steps a_wish a_mark a_bitsOf a_sizeOf a_number a_moved v_isKept v_taped v_at v_fault v_laid v_open v_s v_pile v_wish v_mark) sz) ((fun k : (Nat → Int32) × (Nat → Int32) × (Nat → Int32) => (wX5_looksWhere cI cJ cZ cS a_t a_s a_keptS a_statuses a_pile a_tape a_steps a_wish a_mark a_bitsOf a_sizeOf a_number a_moved v_isKept v_taped v_at v_fault v_laid v_open v_s k.1 k.2.1 k.2.2)) kk')) 0 0 (va_A (wX5_looksWhere cI cJ cZ cS a_t a_s a_keptS a_statuses a_pile a_tape a_steps a_wish a_mark a_bitsOf a_sizeOf a_number a_moved v_isKept v_taped v_at v_fault v_laid v_open v_s v_pile v_wish v_mark) sz) := by
  refine q_enter (Qf := fun A => (q_Rv D A ((fun k : (Nat → Int32) × (Nat → Int32) × (Nat → Int32) => (wX5_looksWhere cI cJ cZ cS a_t a_s a_keptS a_statuses a_pile a_tape a_steps a_wish a_mark a_bitsOf a_sizeOf a_number a_moved v_isKept v_taped v_at v_fault v_laid v_open v_s k.1 k.2.1 k.2.2)) kk'))) (by decide) rfl (Nat.le_of_ble_eq_true rfl) ?_
  intro p e s m below meth c A ls fx hname h hl
  have hx := fx.1
  have hb := fx.2.1
  have hl : lv_has ls 4 [(0, .ref a_t)] := hl
  generalize h9 : s.heap = H at h ⊢
  clear h9
  generalize h9 : ([] : List Loc) = locs at h ⊢
  clear h9
  unfold fX5_looksWhere at hf
  refine lv_aload_n hx hb dX5_looksWhere_0 rfl (lv_at hl 0 rfl) ?_
  obtain ⟨k13, hg, hf⟩ := bV_inv hf
  refine q_cv (rest := []) (ws' := (wX5_looksWhere cI cJ cZ cS a_t a_s a_keptS a_statuses a_pile a_tape a_steps a_wish a_mark a_bitsOf a_sizeOf a_number a_moved v_isKept v_taped v_at v_fault v_laid v_open v_s k13.1 k13.2 v_mark)) (w1 := (wX5_looksAll cI cJ cZ cS a_t a_s a_keptS a_statuses a_pile a_tape a_steps a_wish a_mark a_bitsOf a_sizeOf a_number a_moved v_isKept v_taped v_at v_fault v_laid v_open v_s k13.1 k13.2)) fx h [0, 1, 2, 3] rfl rfl rfl rfl (q_runV fx h hl.1 [0, 1, 2, 3] rfl rfl (tX5_looksAll l D cI cJ cZ cS tb a_t a_s a_keptS a_statuses a_pile a_tape a_steps a_wish a_mark a_bitsOf a_sizeOf a_number a_moved H.size v_isKept v_taped v_at v_fault v_laid v_open v_s v_pile v_wish k13 hg) mvX5_looksAll k_860 ⟨rfl, rfl⟩ ⟨Nat.le_of_ble_eq_true rfl, Nat.le_of_ble_eq_true rfl⟩ rfl rfl rfl rfl (Nat.le_of_ble_eq_true rfl) dX5_looksWhere_1 ⟨Nat.le_of_ble_eq_true rfl, Nat.le_of_ble_eq_true rfl⟩) (fun H locs h => ?_)
  refine lv_iconst (v := 0) hx hb dX5_looksWhere_4 (by decide) ?_
  refine lv_istore_n (lv' := [(1, .int 0), (0, .ref a_t)]) hx hb dX5_looksWhere_5 rfl hl (by decide) rfl (fun ls hl => ?_)
  exact EX5_looksWhere_6 fx qF h (lv_sub hl [1, 0] rfl) hf
/-! X5_basin -/
abbrev wX5_basin (cI cJ cZ cS : ClassId) (a_t a_s a_keptS a_statuses a_pile a_tape a_steps a_wish a_mark a_bitsOf a_sizeOf a_number a_moved : Nat) (v_isKept : Int32) (v_taped : Int32) (v_at : Int32) (v_fault : Int32) (v_laid : Int32) (v_open : Int32) (v_s : Nat → Int32) (v_pile : Nat → Int32) (v_wish : Nat → Int32) (v_mark : Nat → Int32) : va_W := [(a_t, .inr (5, [.ref a_s, .ref a_keptS, .ref a_statuses, .int v_isKept, .ref a_pile, .ref a_tape, .ref a_steps, .int v_taped, .int v_at, .int v_fault, .int v_laid, .int v_open, .ref a_wish, .ref a_mark, .ref a_bitsOf, .ref a_sizeOf, .ref a_number, .ref a_moved])), (a_s, .inl (cI, 538, .inl v_s)), (a_pile, .inl (cZ, 64, .inl v_pile)), (a_wish, .inl (cI, 256, .inl v_wish)), (a_mark, .inl (cI, 256, .inl v_mark))]
abbrev rX5_basin : Room := { frames := 7, cells := 0, slots := 0, locals := 160 }
def fX5_basin_31 (v_s : Nat → Int32) (ag8 : (Nat → Int32) → (Nat → Int32) → (Nat → Int32) → Int32 → Int32 → Option (Int32 × (Nat → Int32) × (Nat → Int32) × (Nat → Int32))) (v_pile : Nat → Int32) (v_wish : Nat → Int32) (v_mark : Nat → Int32) (s0 : Int32) (s1 : Int32) (y2 : Int32) : Option (Int32 × (Nat → Int32) × (Nat → Int32) × (Nat → Int32)) :=
  nm (s0 + s1) (fun u1 =>
  nm (y2 + 1) (fun u2 =>
  ag8 v_pile v_wish v_mark u1 u2))
set_option maxRecDepth 100000 in
set_option maxHeartbeats 4000000 in
theorem LX5_basin_31 {p : Program} {l : Launch} {e : Env} {s : State} {m : MethodId} {args : Array Value} {below : List Frame} {meth : Method} {c : Code} {D : va_G} {cI cJ cZ cS : ClassId} {tb : Nat} {A : Nat → Prop} {a_t a_s a_keptS a_statuses a_pile a_tape a_steps a_wish a_mark a_bitsOf a_sizeOf a_number a_moved : Nat} {v_isKept : Int32} {v_taped : Int32} {v_at : Int32} {v_fault : Int32} {v_laid : Int32} {v_open : Int32} {v_s : Nat → Int32} {rr : Int32} {kk' : (Nat → Int32) × (Nat → Int32) × (Nat → Int32)} (fx : q_Fx p s m args meth c cX5_basin 3 RX5 (some .int) D cI cJ cZ cS tb A) {ag8 : (Nat → Int32) → (Nat → Int32) → (Nat → Int32) → Int32 → Int32 → Option (Int32 × (Nat → Int32) × (Nat → Int32) × (Nat → Int32))} (hag8 : ∀ {v_pile : Nat → Int32} {v_wish : Nat → Int32} {v_mark : Nat → Int32} {y1 : Int32} {y2 : Int32} {H : Heap} {locs : List Loc} {ls : Array Slot}, q_H D A s (wX5_basin cI cJ cZ cS a_t a_s a_keptS a_statuses a_pile a_tape a_steps a_wish a_mark a_bitsOf a_sizeOf a_number a_moved v_isKept v_taped v_at v_fault v_laid v_open v_s v_pile v_wish v_mark) H locs → lv_has ls 3 [(0, .ref a_t), (1, .int y1), (2, .int y2)] → ag8 v_pile v_wish v_mark y1 y2 = some (rr, kk') → W p l e rX5_basin s m args below meth c H locs 0 0 (MQ below (q_Ri D rr A ((fun k : (Nat → Int32) × (Nat → Int32) × (Nat → Int32) => (wX5_basin cI cJ cZ cS a_t a_s a_keptS a_statuses a_pile a_tape a_steps a_wish a_mark a_bitsOf a_sizeOf a_number a_moved v_isKept v_taped v_at v_fault v_laid v_open v_s k.1 k.2.1 k.2.2)) kk')) args s 0 0 A) (F0 m 8 ls [])) : ∀ {v_pile : Nat → Int32} {v_wish : Nat → Int32} {v_mark : Nat → Int32} {s0 : Int32} {s1 : Int32} {y2 : Int32} {H : Heap} {locs : List Loc} {ls : Array Slot}, q_H D A s (wX5_basin cI cJ cZ cS a_t a_s a_keptS a_statuses a_pile a_tape a_steps a_wish a_mark a_bitsOf a_sizeOf a_number a_moved v_isKept v_taped v_at v_fault v_laid v_open v_s v_pile v_wish v_mark) H locs → lv_has ls 3 [(0, .ref a_t), (2, .int y2)] → fX5_basin_31 v_s ag8 v_pile v_wish v_mark s0 s1 y2 = some (rr, kk') → W p l e rX5_basin s m args below meth c H locs 0 0 (MQ below (q_Ri D rr A ((fun k : (Nat → Int32) × (Nat → Int32) × (Nat → Int32) => (wX5_basin cI cJ cZ cS a_t a_s a_keptS a_statuses a_pile a_tape a_steps a_wish a_mark a_bitsOf a_sizeOf a_number a_moved v_isKept v_taped v_at v_fault v_laid v_open v_s k.1 k.2.1 k.2.2)) kk')) args s 0 0 A) (F0 m 31 ls [.int s1, .int s0]) := by
  intro v_pile v_wish v_mark s0 s1 y2 H locs ls h hl hf
  have hx := fx.1
  have hb := fx.2.1
  unfold fX5_basin_31 at hf
  refine lv_iadd hx hb dX5_basin_31 ?_
  obtain ⟨u1, eu1, hf⟩ := nm_inv hf
  refine lv_eqi eu1 ?_
  refine lv_istore_n (lv' := [(1, .int u1), (0, .ref a_t), (2, .int y2)]) hx hb dX5_basin_32 rfl hl (by decide) rfl (fun ls hl => ?_)
  obtain ⟨u2, eu2, hf⟩ := nm_inv hf
  refine lv_iinc (v := u2) (lv' := [(2, .int u2), (1, .int u1), (0, .ref a_t)]) hx hb dX5_basin_33 hl (k := 2) rfl (by rw [eu2]; rfl) (by decide) rfl (fun ls hl => ?_)
  refine lv_goto (tgt := 8) hx hb dX5_basin_36 (by decide) ?_
  exact hag8 h (lv_sub hl [2, 1, 0] rfl) hf
def fX5_basin_8 (v_s : Nat → Int32) (ag8 : (Nat → Int32) → (Nat → Int32) → (Nat → Int32) → Int32 → Int32 → Option (Int32 × (Nat → Int32) × (Nat → Int32) × (Nat → Int32))) (v_pile : Nat → Int32) (v_wish : Nat → Int32) (v_mark : Nat → Int32) (y1 : Int32) (y2 : Int32) : Option (Int32 × (Nat → Int32) × (Nat → Int32) × (Nat → Int32)) :=
  bR (fX5_lists v_s) (fun r3 k3 =>
  (if r3 ≤ y2 then (
  some (y1, (v_pile, v_wish, v_mark)))
  else (
  gIn y2 256 (
  (if (v_mark y2.toNatClampNeg) < 0 then (
  fX5_basin_31 v_s ag8 v_pile v_wish v_mark y1 0 y2)
  else (
  fX5_basin_31 v_s ag8 v_pile v_wish v_mark y1 1 y2))))))
set_option maxRecDepth 100000 in
set_option maxHeartbeats 4000000 in
theorem LX5_basin_8 {p : Program} {l : Launch} {e : Env} {s : State} {m : MethodId} {args : Array Value} {below : List Frame} {meth : Method} {c : Code} {D : va_G} {cI cJ cZ cS : ClassId} {tb : Nat} {A : Nat → Prop} {a_t a_s a_keptS a_statuses a_pile a_tape a_steps a_wish a_mark a_bitsOf a_sizeOf a_number a_moved : Nat} {v_isKept : Int32} {v_taped : Int32} {v_at : Int32} {v_fault : Int32} {v_laid : Int32} {v_open : Int32} {v_s : Nat → Int32} {rr : Int32} {kk' : (Nat → Int32) × (Nat → Int32) × (Nat → Int32)} (fx : q_Fx p s m args meth c cX5_basin 3 RX5 (some .int) D cI cJ cZ cS tb A) {ag8 : (Nat → Int32) → (Nat → Int32) → (Nat → Int32) → Int32 → Int32 → Option (Int32 × (Nat → Int32) × (Nat → Int32) × (Nat → Int32))} (hag8 : ∀ {v_pile : Nat → Int32} {v_wish : Nat → Int32} {v_mark : Nat → Int32} {y1 : Int32} {y2 : Int32} {H : Heap} {locs : List Loc} {ls : Array Slot}, q_H D A s (wX5_basin cI cJ cZ cS a_t a_s a_keptS a_statuses a_pile a_tape a_steps a_wish a_mark a_bitsOf a_sizeOf a_number a_moved v_isKept v_taped v_at v_fault v_laid v_open v_s v_pile v_wish v_mark) H locs → lv_has ls 3 [(0, .ref a_t), (1, .int y1), (2, .int y2)] → ag8 v_pile v_wish v_mark y1 y2 = some (rr, kk') → W p l e rX5_basin s m args below meth c H locs 0 0 (MQ below (q_Ri D rr A ((fun k : (Nat → Int32) × (Nat → Int32) × (Nat → Int32) => (wX5_basin cI cJ cZ cS a_t a_s a_keptS a_statuses a_pile a_tape a_steps a_wish a_mark a_bitsOf a_sizeOf a_number a_moved v_isKept v_taped v_at v_fault v_laid v_open v_s k.1 k.2.1 k.2.2)) kk')) args s 0 0 A) (F0 m 8 ls [])) : ∀ {v_pile : Nat → Int32} {v_wish : Nat → Int32} {v_mark : Nat → Int32} {y1 : Int32} {y2 : Int32} {H : Heap} {locs : List Loc} {ls : Array Slot}, q_H D A s (wX5_basin cI cJ cZ cS a_t a_s a_keptS a_statuses a_pile a_tape a_steps a_wish a_mark a_bitsOf a_sizeOf a_number a_moved v_isKept v_taped v_at v_fault v_laid v_open v_s v_pile v_wish v_mark) H locs → lv_has ls 3 [(0, .ref a_t), (1, .int y1), (2, .int y2)] → fX5_basin_8 v_s ag8 v_pile v_wish v_mark y1 y2 = some (rr, kk') → W p l e rX5_basin s m args below meth c H locs 0 0 (MQ below (q_Ri D rr A ((fun k : (Nat → Int32) × (Nat → Int32) × (Nat → Int32) => (wX5_basin cI cJ cZ cS a_t a_s a_keptS a_statuses a_pile a_tape a_steps a_wish a_mark a_bitsOf a_sizeOf a_number a_moved v_isKept v_taped v_at v_fault v_laid v_open v_s k.1 k.2.1 k.2.2)) kk')) args s 0 0 A) (F0 m 8 ls []) := by
  intro v_pile v_wish v_mark y1 y2 H locs ls h hl hf
  have hx := fx.1
  have hb := fx.2.1
  unfold fX5_basin_8 at hf
  refine lv_iload_n hx hb dX5_basin_8 rfl (lv_at hl 2 rfl) ?_
  refine lv_aload_n hx hb dX5_basin_9 rfl (lv_at hl 0 rfl) ?_
  obtain ⟨r3, k3, hg, hf⟩ := bR_inv hf
  refine q_ci (rest := [.int y2]) (ws' := (wX5_basin cI cJ cZ cS a_t a_s a_keptS a_statuses a_pile a_tape a_steps a_wish a_mark a_bitsOf a_sizeOf a_number a_moved v_isKept v_taped v_at v_fault v_laid v_open v_s v_pile v_wish v_mark)) (w1 := (wX5_lists cI cJ cZ cS a_t a_s a_keptS a_statuses a_pile a_tape a_steps a_wish a_mark a_bitsOf a_sizeOf a_number a_moved v_isKept v_taped v_at v_fault v_laid v_open v_s)) fx h [0, 1] rfl rfl rfl rfl (q_runV fx h hl.1 [0, 1] rfl rfl (tX5_lists l D cI cJ cZ cS tb a_t a_s a_keptS a_statuses a_pile a_tape a_steps a_wish a_mark a_bitsOf a_sizeOf a_number a_moved H.size v_isKept v_taped v_at v_fault v_laid v_open v_s r3 k3 hg) mvX5_lists k_810 ⟨rfl, rfl⟩ ⟨Nat.le_of_ble_eq_true rfl, Nat.le_of_ble_eq_true rfl⟩ rfl rfl rfl rfl (Nat.le_of_ble_eq_true rfl) dX5_basin_10 ⟨Nat.le_of_ble_eq_true rfl, Nat.le_of_ble_eq_true rfl⟩) (fun H locs h => ?_)
  refine lv_icmp_ge (tgt := 39) hx hb dX5_basin_13 (by decide) (fun c4 => ?_) (fun c4 => ?_)
  · have hf := it_t c4 hf
    refine lv_iload_n hx hb dX5_basin_39 rfl (lv_at hl 1 rfl) ?_
    exact q_reti (fun k : (Nat → Int32) × (Nat → Int32) × (Nat → Int32) => (wX5_basin cI cJ cZ cS a_t a_s a_keptS a_statuses a_pile a_tape a_steps a_wish a_mark a_bitsOf a_sizeOf a_number a_moved v_isKept v_taped v_at v_fault v_laid v_open v_s k.1 k.2.1 k.2.2)) fx hf h dX5_basin_40
  have hf := it_f c4 hf
  refine lv_iload_n hx hb dX5_basin_16 rfl (lv_at hl 1 rfl) ?_
  refine lv_aload_n hx hb dX5_basin_17 rfl (lv_at hl 0 rfl) ?_
  refine q_get (v := .ref a_mark) fx inX5 h 0 rfl rfl 13 (by decide) k_649 rfl dX5_basin_18 ?_
  refine lv_iload_n hx hb dX5_basin_21 rfl (lv_at hl 2 rfl) ?_
  obtain ⟨i5, hf⟩ := gIn_inv hf
  refine q_iald fx h 4 rfl i5 dX5_basin_22 ?_
  refine lv_if_lt (tgt := 30) hx hb dX5_basin_23 (by decide) (fun c6 => ?_) (fun c6 => ?_)
  · have hf := it_t c6 hf
    refine lv_iconst (v := 0) hx hb dX5_basin_30 (by decide) ?_
    exact LX5_basin_31 fx hag8 h (lv_sub hl [0, 2] rfl) hf
  have hf := it_f c6 hf
  refine lv_iconst (v := 1) hx hb dX5_basin_26 (by decide) ?_
  refine lv_goto (tgt := 31) hx hb dX5_basin_27 (by decide) ?_
  exact LX5_basin_31 fx hag8 h (lv_sub hl [0, 2] rfl) hf
set_option maxRecDepth 100000 in
theorem EX5_basin_8 {p : Program} {l : Launch} {e : Env} {s : State} {m : MethodId} {args : Array Value} {below : List Frame} {meth : Method} {c : Code} {D : va_G} {cI cJ cZ cS : ClassId} {tb : Nat} {A : Nat → Prop} {a_t a_s a_keptS a_statuses a_pile a_tape a_steps a_wish a_mark a_bitsOf a_sizeOf a_number a_moved : Nat} {v_isKept : Int32} {v_taped : Int32} {v_at : Int32} {v_fault : Int32} {v_laid : Int32} {v_open : Int32} {v_s : Nat → Int32} {rr : Int32} {kk' : (Nat → Int32) × (Nat → Int32) × (Nat → Int32)} (fx : q_Fx p s m args meth c cX5_basin 3 RX5 (some .int) D cI cJ cZ cS tb A) : ∀ (n : Nat), ∀ {v_pile : Nat → Int32} {v_wish : Nat → Int32} {v_mark : Nat → Int32} {y1 : Int32} {y2 : Int32} {H : Heap} {locs : List Loc} {ls : Array Slot}, q_H D A s (wX5_basin cI cJ cZ cS a_t a_s a_keptS a_statuses a_pile a_tape a_steps a_wish a_mark a_bitsOf a_sizeOf a_number a_moved v_isKept v_taped v_at v_fault v_laid v_open v_s v_pile v_wish v_mark) H locs → lv_has ls 3 [(0, .ref a_t), (1, .int y1), (2, .int y2)] → ll5 (fX5_basin_8 v_s) n v_pile v_wish v_mark y1 y2 = some (rr, kk') → W p l e rX5_basin s m args below meth c H locs 0 0 (MQ below (q_Ri D rr A ((fun k : (Nat → Int32) × (Nat → Int32) × (Nat → Int32) => (wX5_basin cI cJ cZ cS a_t a_s a_keptS a_statuses a_pile a_tape a_steps a_wish a_mark a_bitsOf a_sizeOf a_number a_moved v_isKept v_taped v_at v_fault v_laid v_open v_s k.1 k.2.1 k.2.2)) kk')) args s 0 0 A) (F0 m 8 ls []) := by
  intro n
  induction n with
  | zero => intro v_pile v_wish v_mark y1 y2 H locs ls h hl hf; exact (ll5_z hf).elim
  | succ n ih => intro v_pile v_wish v_mark y1 y2 H locs ls h hl hf; exact LX5_basin_8 fx ih h hl (ll5_s hf)
def fX5_basin (v_s : Nat → Int32) (v_pile : Nat → Int32) (v_wish : Nat → Int32) (v_mark : Nat → Int32) : Option (Int32 × (Nat → Int32) × (Nat → Int32) × (Nat → Int32)) :=
  bV (fX5_looksWhere v_s v_pile v_wish v_mark) (fun k7 =>
  ll5 (fX5_basin_8 v_s) qF k7.1 k7.2.1 k7.2.2 0 0)
set_option maxRecDepth 100000 in
set_option maxHeartbeats 4000000 in
theorem tX5_basin (l : Launch) (D : va_G) (cI cJ cZ cS : ClassId) (tb : Nat) (a_t a_s a_keptS a_statuses a_pile a_tape a_steps a_wish a_mark a_bitsOf a_sizeOf a_number a_moved : Nat) (sz : Nat) (v_isKept : Int32) (v_taped : Int32) (v_at : Int32) (v_fault : Int32) (v_laid : Int32) (v_open : Int32) (v_s : Nat → Int32) (v_pile : Nat → Int32) (v_wish : Nat → Int32) (v_mark : Nat → Int32) (rr : Int32) (kk' : (Nat → Int32) × (Nat → Int32) × (Nat → Int32)) (hf : fX5_basin v_s v_pile v_wish v_mark = some (rr, kk')) : Met l yX5_basin (Cond.code yX5_basin cX5_basin 3 (some .int) :: wA) rX5_basin (q_Pre D cI cJ cZ cS tb [.ref a_t] sz (wX5_basin cI cJ cZ cS a_t a_s a_keptS a_statuses a_pile a_tape a_steps a_wish a_mark a_bitsOf a_sizeOf a_number a_moved v_isKept v_taped v_at v_fault v_laid v_open v_s v_pile v_wish v_mark)) (q_Ri D rr (va_A (wX5_basin cI cJ cZ cS a_t a_s a_keptS a_statuses a_pile a_tape a_steps a_wish a_mark a_bitsOf a_sizeOf a_number a_moved v_isKept v_taped v_at v_fault v_laid v_open v_s v_pile v_wish v_mark) sz) ((fun k : (Nat → Int32) × (Nat → Int32) × (Nat → Int32) => (wX5_basin cI cJ cZ cS a_t a_s a_keptS a_statuses a_pile a_tape a_steps a_wish a_mark a_bitsOf a_sizeOf a_number a_moved v_isKept v_taped v_at v_fault v_laid v_open v_s k.1 k.2.1 k.2.2)) kk')) 0 0 (va_A (wX5_basin cI cJ cZ cS a_t a_s a_keptS a_statuses a_pile a_tape a_steps a_wish a_mark a_bitsOf a_sizeOf a_number a_moved v_isKept v_taped v_at v_fault v_laid v_open v_s v_pile v_wish v_mark) sz) := by
  refine q_enter (Qf := fun A => (q_Ri D rr A ((fun k : (Nat → Int32) × (Nat → Int32) × (Nat → Int32) => (wX5_basin cI cJ cZ cS a_t a_s a_keptS a_statuses a_pile a_tape a_steps a_wish a_mark a_bitsOf a_sizeOf a_number a_moved v_isKept v_taped v_at v_fault v_laid v_open v_s k.1 k.2.1 k.2.2)) kk'))) (by decide) rfl (Nat.le_of_ble_eq_true rfl) ?_
  intro p e s m below meth c A ls fx hname h hl
  have hx := fx.1
  have hb := fx.2.1
  have hl : lv_has ls 3 [(0, .ref a_t)] := hl
  generalize h9 : s.heap = H at h ⊢
  clear h9
  generalize h9 : ([] : List Loc) = locs at h ⊢
  clear h9
  unfold fX5_basin at hf
  refine lv_aload_n hx hb dX5_basin_0 rfl (lv_at hl 0 rfl) ?_
  obtain ⟨k7, hg, hf⟩ := bV_inv hf
  refine q_cv (rest := []) (ws' := (wX5_basin cI cJ cZ cS a_t a_s a_keptS a_statuses a_pile a_tape a_steps a_wish a_mark a_bitsOf a_sizeOf a_number a_moved v_isKept v_taped v_at v_fault v_laid v_open v_s k7.1 k7.2.1 k7.2.2)) (w1 := (wX5_looksWhere cI cJ cZ cS a_t a_s a_keptS a_statuses a_pile a_tape a_steps a_wish a_mark a_bitsOf a_sizeOf a_number a_moved v_isKept v_taped v_at v_fault v_laid v_open v_s k7.1 k7.2.1 k7.2.2)) fx h [0, 1, 2, 3, 4] rfl rfl rfl rfl (q_runV fx h hl.1 [0, 1, 2, 3, 4] rfl rfl (tX5_looksWhere l D cI cJ cZ cS tb a_t a_s a_keptS a_statuses a_pile a_tape a_steps a_wish a_mark a_bitsOf a_sizeOf a_number a_moved H.size v_isKept v_taped v_at v_fault v_laid v_open v_s v_pile v_wish v_mark k7 hg) mvX5_looksWhere k_906 ⟨rfl, rfl⟩ ⟨Nat.le_of_ble_eq_true rfl, Nat.le_of_ble_eq_true rfl⟩ rfl rfl rfl rfl (Nat.le_of_ble_eq_true rfl) dX5_basin_1 ⟨Nat.le_of_ble_eq_true rfl, Nat.le_of_ble_eq_true rfl⟩) (fun H locs h => ?_)
  refine lv_iconst (v := 0) hx hb dX5_basin_4 (by decide) ?_
  refine lv_istore_n (lv' := [(1, .int 0), (0, .ref a_t)]) hx hb dX5_basin_5 rfl hl (by decide) rfl (fun ls hl => ?_)
  refine lv_iconst (v := 0) hx hb dX5_basin_6 (by decide) ?_
  refine lv_istore_n (lv' := [(2, .int 0), (1, .int 0), (0, .ref a_t)]) hx hb dX5_basin_7 rfl hl (by decide) rfl (fun ls hl => ?_)
  exact EX5_basin_8 fx qF h (lv_sub hl [2, 1, 0] rfl) hf
/-! X5_odds -/
abbrev wX5_odds (cI cJ cZ cS : ClassId) (a_t a_s a_keptS a_statuses a_pile a_tape a_steps a_wish a_mark a_bitsOf a_sizeOf a_number a_moved : Nat) (v_isKept : Int32) (v_taped : Int32) (v_at : Int32) (v_fault : Int32) (v_laid : Int32) (v_open : Int32) (v_s : Nat → Int32) (v_statuses : Nat → Int32) (v_pile : Nat → Int32) (v_wish : Nat → Int32) (v_mark : Nat → Int32) : va_W := [(a_t, .inr (5, [.ref a_s, .ref a_keptS, .ref a_statuses, .int v_isKept, .ref a_pile, .ref a_tape, .ref a_steps, .int v_taped, .int v_at, .int v_fault, .int v_laid, .int v_open, .ref a_wish, .ref a_mark, .ref a_bitsOf, .ref a_sizeOf, .ref a_number, .ref a_moved])), (a_s, .inl (cI, 538, .inl v_s)), (a_statuses, .inl (cI, 7, .inl v_statuses)), (a_pile, .inl (cZ, 64, .inl v_pile)), (a_wish, .inl (cI, 256, .inl v_wish)), (a_mark, .inl (cI, 256, .inl v_mark))]
abbrev rX5_odds : Room := { frames := 7, cells := 0, slots := 0, locals := 160 }
def fX5_odds_113 (v_s : Nat → Int32) (v_statuses : Nat → Int32) (v_pile : Nat → Int32) (v_wish : Nat → Int32) (v_mark : Nat → Int32) (y2 : Int32) (y3 : Int32) (y4 : Int32) : Option (Int64 × (Nat → Int32) × (Nat → Int32) × (Nat → Int32) × (Nat → Int32)) :=
  (if y2 = 0 then (
  some (y3.toInt64, (v_statuses, v_pile, v_wish, v_mark)))
  else (
  some (y4.toInt64, (v_statuses, v_pile, v_wish, v_mark))))
set_option maxRecDepth 100000 in
set_option maxHeartbeats 4000000 in
theorem LX5_odds_113 {p : Program} {l : Launch} {e : Env} {s : State} {m : MethodId} {args : Array Value} {below : List Frame} {meth : Method} {c : Code} {D : va_G} {cI cJ cZ cS : ClassId} {tb : Nat} {A : Nat → Prop} {a_t a_s a_keptS a_statuses a_pile a_tape a_steps a_wish a_mark a_bitsOf a_sizeOf a_number a_moved : Nat} {v_isKept : Int32} {v_taped : Int32} {v_at : Int32} {v_fault : Int32} {v_laid : Int32} {v_open : Int32} {v_s : Nat → Int32} {rr : Int64} {kk' : (Nat → Int32) × (Nat → Int32) × (Nat → Int32) × (Nat → Int32)} (fx : q_Fx p s m args meth c cX5_odds 5 RX5 (some .long) D cI cJ cZ cS tb A) : ∀ {v_statuses : Nat → Int32} {v_pile : Nat → Int32} {v_wish : Nat → Int32} {v_mark : Nat → Int32} {y2 : Int32} {y3 : Int32} {y4 : Int32} {H : Heap} {locs : List Loc} {ls : Array Slot}, q_H D A s (wX5_odds cI cJ cZ cS a_t a_s a_keptS a_statuses a_pile a_tape a_steps a_wish a_mark a_bitsOf a_sizeOf a_number a_moved v_isKept v_taped v_at v_fault v_laid v_open v_s v_statuses v_pile v_wish v_mark) H locs → lv_has ls 5 [(2, .int y2), (3, .int y3), (4, .int y4)] → fX5_odds_113 v_s v_statuses v_pile v_wish v_mark y2 y3 y4 = some (rr, kk') → W p l e rX5_odds s m args below meth c H locs 0 0 (MQ below (q_Rl D rr A ((fun k : (Nat → Int32) × (Nat → Int32) × (Nat → Int32) × (Nat → Int32) => (wX5_odds cI cJ cZ cS a_t a_s a_keptS a_statuses a_pile a_tape a_steps a_wish a_mark a_bitsOf a_sizeOf a_number a_moved v_isKept v_taped v_at v_fault v_laid v_open v_s k.1 k.2.1 k.2.2.1 k.2.2.2)) kk')) args s 0 0 A) (F0 m 113 ls []) := by
  intro v_statuses v_pile v_wish v_mark y2 y3 y4 H locs ls h hl hf
  have hx := fx.1
  have hb := fx.2.1
  unfold fX5_odds_113 at hf
  refine lv_iload_n hx hb dX5_odds_113 rfl (lv_at hl 0 rfl) ?_
  refine lv_if_ne (tgt := 122) hx hb dX5_odds_114 (by decide) (fun c1 => ?_) (fun c1 => ?_)
  · have hf := it_f c1 hf
    refine lv_iload hx hb dX5_odds_122 (lv_at hl 2 rfl) ?_
    refine lv_i2l hx hb dX5_odds_124 rfl ?_
    exact q_retl (fun k : (Nat → Int32) × (Nat → Int32) × (Nat → Int32) × (Nat → Int32) => (wX5_odds cI cJ cZ cS a_t a_s a_keptS a_statuses a_pile a_tape a_steps a_wish a_mark a_bitsOf a_sizeOf a_number a_moved v_isKept v_taped v_at v_fault v_laid v_open v_s k.1 k.2.1 k.2.2.1 k.2.2.2)) fx hf h dX5_odds_125
  have hf := it_t c1 hf
  refine lv_iload_n hx hb dX5_odds_117 rfl (lv_at hl 1 rfl) ?_
  refine lv_i2l hx hb dX5_odds_118 rfl ?_
  refine lv_goto (tgt := 125) hx hb dX5_odds_119 (by decide) ?_
  exact q_retl (fun k : (Nat → Int32) × (Nat → Int32) × (Nat → Int32) × (Nat → Int32) => (wX5_odds cI cJ cZ cS a_t a_s a_keptS a_statuses a_pile a_tape a_steps a_wish a_mark a_bitsOf a_sizeOf a_number a_moved v_isKept v_taped v_at v_fault v_laid v_open v_s k.1 k.2.1 k.2.2.1 k.2.2.2)) fx hf h dX5_odds_125
def fX5_odds_88 (v_s : Nat → Int32) (ag88 : (Nat → Int32) → (Nat → Int32) → (Nat → Int32) → (Nat → Int32) → Int32 → Int32 → Int32 → Option (Int64 × (Nat → Int32) × (Nat → Int32) × (Nat → Int32) × (Nat → Int32))) (v_statuses : Nat → Int32) (v_pile : Nat → Int32) (v_wish : Nat → Int32) (v_mark : Nat → Int32) (y2 : Int32) (y3 : Int32) (y4 : Int32) : Option (Int64 × (Nat → Int32) × (Nat → Int32) × (Nat → Int32) × (Nat → Int32)) :=
  (if (jrem y3 2) = 0 then (
  (if y4 ≤ 1 then (
  fX5_odds_113 v_s v_statuses v_pile v_wish v_mark y2 y3 y4)
  else (
  nm (y3 / 2) (fun u4 =>
  nm (y4 / 2) (fun u5 =>
  ag88 v_statuses v_pile v_wish v_mark y2 u4 u5)))))
  else (
  fX5_odds_113 v_s v_statuses v_pile v_wish v_mark y2 y3 y4))
set_option maxRecDepth 100000 in
set_option maxHeartbeats 4000000 in
theorem LX5_odds_88 {p : Program} {l : Launch} {e : Env} {s : State} {m : MethodId} {args : Array Value} {below : List Frame} {meth : Method} {c : Code} {D : va_G} {cI cJ cZ cS : ClassId} {tb : Nat} {A : Nat → Prop} {a_t a_s a_keptS a_statuses a_pile a_tape a_steps a_wish a_mark a_bitsOf a_sizeOf a_number a_moved : Nat} {v_isKept : Int32} {v_taped : Int32} {v_at : Int32} {v_fault : Int32} {v_laid : Int32} {v_open : Int32} {v_s : Nat → Int32} {rr : Int64} {kk' : (Nat → Int32) × (Nat → Int32) × (Nat → Int32) × (Nat → Int32)} (fx : q_Fx p s m args meth c cX5_odds 5 RX5 (some .long) D cI cJ cZ cS tb A) {ag88 : (Nat → Int32) → (Nat → Int32) → (Nat → Int32) → (Nat → Int32) → Int32 → Int32 → Int32 → Option (Int64 × (Nat → Int32) × (Nat → Int32) × (Nat → Int32) × (Nat → Int32))} (hag88 : ∀ {v_statuses : Nat → Int32} {v_pile : Nat → Int32} {v_wish : Nat → Int32} {v_mark : Nat → Int32} {y2 : Int32} {y3 : Int32} {y4 : Int32} {H : Heap} {locs : List Loc} {ls : Array Slot}, q_H D A s (wX5_odds cI cJ cZ cS a_t a_s a_keptS a_statuses a_pile a_tape a_steps a_wish a_mark a_bitsOf a_sizeOf a_number a_moved v_isKept v_taped v_at v_fault v_laid v_open v_s v_statuses v_pile v_wish v_mark) H locs → lv_has ls 5 [(2, .int y2), (3, .int y3), (4, .int y4)] → ag88 v_statuses v_pile v_wish v_mark y2 y3 y4 = some (rr, kk') → W p l e rX5_odds s m args below meth c H locs 0 0 (MQ below (q_Rl D rr A ((fun k : (Nat → Int32) × (Nat → Int32) × (Nat → Int32) × (Nat → Int32) => (wX5_odds cI cJ cZ cS a_t a_s a_keptS a_statuses a_pile a_tape a_steps a_wish a_mark a_bitsOf a_sizeOf a_number a_moved v_isKept v_taped v_at v_fault v_laid v_open v_s k.1 k.2.1 k.2.2.1 k.2.2.2)) kk')) args s 0 0 A) (F0 m 88 ls [])) : ∀ {v_statuses : Nat → Int32} {v_pile : Nat → Int32} {v_wish : Nat → Int32} {v_mark : Nat → Int32} {y2 : Int32} {y3 : Int32} {y4 : Int32} {H : Heap} {locs : List Loc} {ls : Array Slot}, q_H D A s (wX5_odds cI cJ cZ cS a_t a_s a_keptS a_statuses a_pile a_tape a_steps a_wish a_mark a_bitsOf a_sizeOf a_number a_moved v_isKept v_taped v_at v_fault v_laid v_open v_s v_statuses v_pile v_wish v_mark) H locs → lv_has ls 5 [(2, .int y2), (3, .int y3), (4, .int y4)] → fX5_odds_88 v_s ag88 v_statuses v_pile v_wish v_mark y2 y3 y4 = some (rr, kk') → W p l e rX5_odds s m args below meth c H locs 0 0 (MQ below (q_Rl D rr A ((fun k : (Nat → Int32) × (Nat → Int32) × (Nat → Int32) × (Nat → Int32) => (wX5_odds cI cJ cZ cS a_t a_s a_keptS a_statuses a_pile a_tape a_steps a_wish a_mark a_bitsOf a_sizeOf a_number a_moved v_isKept v_taped v_at v_fault v_laid v_open v_s k.1 k.2.1 k.2.2.1 k.2.2.2)) kk')) args s 0 0 A) (F0 m 88 ls []) := by
  intro v_statuses v_pile v_wish v_mark y2 y3 y4 H locs ls h hl hf
  have hx := fx.1
  have hb := fx.2.1
  unfold fX5_odds_88 at hf
  refine lv_iload_n hx hb dX5_odds_88 rfl (lv_at hl 1 rfl) ?_
  refine lv_iconst (v := 2) hx hb dX5_odds_89 (by decide) ?_
  refine lv_irem hx hb dX5_odds_90 (by decide) ?_
  refine lv_if_ne (tgt := 113) hx hb dX5_odds_91 (by decide) (fun c2 => ?_) (fun c2 => ?_)
  · have hf := it_f c2 hf
    exact LX5_odds_113 fx h (lv_sub hl [0, 1, 2] rfl) hf
  have hf := it_t c2 hf
  refine lv_iload hx hb dX5_odds_94 (lv_at hl 2 rfl) ?_
  refine lv_iconst (v := 1) hx hb dX5_odds_96 (by decide) ?_
  refine lv_icmp_le (tgt := 113) hx hb dX5_odds_97 (by decide) (fun c3 => ?_) (fun c3 => ?_)
  · have hf := it_t c3 hf
    exact LX5_odds_113 fx h (lv_sub hl [0, 1, 2] rfl) hf
  have hf := it_f c3 hf
  refine lv_iload_n hx hb dX5_odds_100 rfl (lv_at hl 1 rfl) ?_
  refine lv_iconst (v := 2) hx hb dX5_odds_101 (by decide) ?_
  refine lv_idiv hx hb dX5_odds_102 (by decide) ?_
  obtain ⟨u4, eu4, hf⟩ := nm_inv hf
  refine lv_eqi eu4 ?_
  refine lv_istore_n (lv' := [(3, .int u4), (2, .int y2), (4, .int y4)]) hx hb dX5_odds_103 rfl hl (by decide) rfl (fun ls hl => ?_)
  refine lv_iload hx hb dX5_odds_104 (lv_at hl 2 rfl) ?_
  refine lv_iconst (v := 2) hx hb dX5_odds_106 (by decide) ?_
  refine lv_idiv hx hb dX5_odds_107 (by decide) ?_
  obtain ⟨u5, eu5, hf⟩ := nm_inv hf
  refine lv_eqi eu5 ?_
  refine lv_istore (lv' := [(4, .int u5), (3, .int u4), (2, .int y2)]) hx hb dX5_odds_108 hl (by decide) rfl (fun ls hl => ?_)
  refine lv_goto (tgt := 88) hx hb dX5_odds_110 (by decide) ?_
  exact hag88 h (lv_sub hl [2, 1, 0] rfl) hf
set_option maxRecDepth 100000 in
theorem EX5_odds_88 {p : Program} {l : Launch} {e : Env} {s : State} {m : MethodId} {args : Array Value} {below : List Frame} {meth : Method} {c : Code} {D : va_G} {cI cJ cZ cS : ClassId} {tb : Nat} {A : Nat → Prop} {a_t a_s a_keptS a_statuses a_pile a_tape a_steps a_wish a_mark a_bitsOf a_sizeOf a_number a_moved : Nat} {v_isKept : Int32} {v_taped : Int32} {v_at : Int32} {v_fault : Int32} {v_laid : Int32} {v_open : Int32} {v_s : Nat → Int32} {rr : Int64} {kk' : (Nat → Int32) × (Nat → Int32) × (Nat → Int32) × (Nat → Int32)} (fx : q_Fx p s m args meth c cX5_odds 5 RX5 (some .long) D cI cJ cZ cS tb A) : ∀ (n : Nat), ∀ {v_statuses : Nat → Int32} {v_pile : Nat → Int32} {v_wish : Nat → Int32} {v_mark : Nat → Int32} {y2 : Int32} {y3 : Int32} {y4 : Int32} {H : Heap} {locs : List Loc} {ls : Array Slot}, q_H D A s (wX5_odds cI cJ cZ cS a_t a_s a_keptS a_statuses a_pile a_tape a_steps a_wish a_mark a_bitsOf a_sizeOf a_number a_moved v_isKept v_taped v_at v_fault v_laid v_open v_s v_statuses v_pile v_wish v_mark) H locs → lv_has ls 5 [(2, .int y2), (3, .int y3), (4, .int y4)] → ll7 (fX5_odds_88 v_s) n v_statuses v_pile v_wish v_mark y2 y3 y4 = some (rr, kk') → W p l e rX5_odds s m args below meth c H locs 0 0 (MQ below (q_Rl D rr A ((fun k : (Nat → Int32) × (Nat → Int32) × (Nat → Int32) × (Nat → Int32) => (wX5_odds cI cJ cZ cS a_t a_s a_keptS a_statuses a_pile a_tape a_steps a_wish a_mark a_bitsOf a_sizeOf a_number a_moved v_isKept v_taped v_at v_fault v_laid v_open v_s k.1 k.2.1 k.2.2.1 k.2.2.2)) kk')) args s 0 0 A) (F0 m 88 ls []) := by
  intro n
  induction n with
  | zero => intro v_statuses v_pile v_wish v_mark y2 y3 y4 H locs ls h hl hf; exact (ll7_z hf).elim
  | succ n ih => intro v_statuses v_pile v_wish v_mark y2 y3 y4 H locs ls h hl hf; exact LX5_odds_88 fx ih h hl (ll7_s hf)
def fX5_odds_74 (v_s : Nat → Int32) (ag35 : (Nat → Int32) → (Nat → Int32) → (Nat → Int32) → (Nat → Int32) → Int32 → Int32 → Int32 → Int32 → Option (Int64 × (Nat → Int32) × (Nat → Int32) × (Nat → Int32) × (Nat → Int32))) (v_statuses : Nat → Int32) (v_pile : Nat → Int32) (v_wish : Nat → Int32) (v_mark : Nat → Int32) (s0 : Int32) (s1 : Int32) (y1 : Int32) (y2 : Int32) (y4 : Int32) : Option (Int64 × (Nat → Int32) × (Nat → Int32) × (Nat → Int32) × (Nat → Int32)) :=
  nm (s0 + s1) (fun u6 =>
  nm (y4 + 1) (fun u7 =>
  ag35 v_statuses v_pile v_wish v_mark y1 y2 u6 u7))
set_option maxRecDepth 100000 in
set_option maxHeartbeats 4000000 in
theorem LX5_odds_74 {p : Program} {l : Launch} {e : Env} {s : State} {m : MethodId} {args : Array Value} {below : List Frame} {meth : Method} {c : Code} {D : va_G} {cI cJ cZ cS : ClassId} {tb : Nat} {A : Nat → Prop} {a_t a_s a_keptS a_statuses a_pile a_tape a_steps a_wish a_mark a_bitsOf a_sizeOf a_number a_moved : Nat} {v_isKept : Int32} {v_taped : Int32} {v_at : Int32} {v_fault : Int32} {v_laid : Int32} {v_open : Int32} {v_s : Nat → Int32} {rr : Int64} {kk' : (Nat → Int32) × (Nat → Int32) × (Nat → Int32) × (Nat → Int32)} (fx : q_Fx p s m args meth c cX5_odds 5 RX5 (some .long) D cI cJ cZ cS tb A) {ag35 : (Nat → Int32) → (Nat → Int32) → (Nat → Int32) → (Nat → Int32) → Int32 → Int32 → Int32 → Int32 → Option (Int64 × (Nat → Int32) × (Nat → Int32) × (Nat → Int32) × (Nat → Int32))} (hag35 : ∀ {v_statuses : Nat → Int32} {v_pile : Nat → Int32} {v_wish : Nat → Int32} {v_mark : Nat → Int32} {y1 : Int32} {y2 : Int32} {y3 : Int32} {y4 : Int32} {H : Heap} {locs : List Loc} {ls : Array Slot}, q_H D A s (wX5_odds cI cJ cZ cS a_t a_s a_keptS a_statuses a_pile a_tape a_steps a_wish a_mark a_bitsOf a_sizeOf a_number a_moved v_isKept v_taped v_at v_fault v_laid v_open v_s v_statuses v_pile v_wish v_mark) H locs → lv_has ls 5 [(0, .ref a_t), (1, .int y1), (2, .int y2), (3, .int y3), (4, .int y4)] → ag35 v_statuses v_pile v_wish v_mark y1 y2 y3 y4 = some (rr, kk') → W p l e rX5_odds s m args below meth c H locs 0 0 (MQ below (q_Rl D rr A ((fun k : (Nat → Int32) × (Nat → Int32) × (Nat → Int32) × (Nat → Int32) => (wX5_odds cI cJ cZ cS a_t a_s a_keptS a_statuses a_pile a_tape a_steps a_wish a_mark a_bitsOf a_sizeOf a_number a_moved v_isKept v_taped v_at v_fault v_laid v_open v_s k.1 k.2.1 k.2.2.1 k.2.2.2)) kk')) args s 0 0 A) (F0 m 35 ls [])) : ∀ {v_statuses : Nat → Int32} {v_pile : Nat → Int32} {v_wish : Nat → Int32} {v_mark : Nat → Int32} {s0 : Int32} {s1 : Int32} {y1 : Int32} {y2 : Int32} {y4 : Int32} {H : Heap} {locs : List Loc} {ls : Array Slot}, q_H D A s (wX5_odds cI cJ cZ cS a_t a_s a_keptS a_statuses a_pile a_tape a_steps a_wish a_mark a_bitsOf a_sizeOf a_number a_moved v_isKept v_taped v_at v_fault v_laid v_open v_s v_statuses v_pile v_wish v_mark) H locs → lv_has ls 5 [(0, .ref a_t), (1, .int y1), (2, .int y2), (4, .int y4)] → fX5_odds_74 v_s ag35 v_statuses v_pile v_wish v_mark s0 s1 y1 y2 y4 = some (rr, kk') → W p l e rX5_odds s m args below meth c H locs 0 0 (MQ below (q_Rl D rr A ((fun k : (Nat → Int32) × (Nat → Int32) × (Nat → Int32) × (Nat → Int32) => (wX5_odds cI cJ cZ cS a_t a_s a_keptS a_statuses a_pile a_tape a_steps a_wish a_mark a_bitsOf a_sizeOf a_number a_moved v_isKept v_taped v_at v_fault v_laid v_open v_s k.1 k.2.1 k.2.2.1 k.2.2.2)) kk')) args s 0 0 A) (F0 m 74 ls [.int s1, .int s0]) := by
  intro v_statuses v_pile v_wish v_mark s0 s1 y1 y2 y4 H locs ls h hl hf
  have hx := fx.1
  have hb := fx.2.1
  unfold fX5_odds_74 at hf
  refine lv_iadd hx hb dX5_odds_74 ?_
  obtain ⟨u6, eu6, hf⟩ := nm_inv hf
  refine lv_eqi eu6 ?_
  refine lv_istore_n (lv' := [(3, .int u6), (0, .ref a_t), (1, .int y1), (2, .int y2), (4, .int y4)]) hx hb dX5_odds_75 rfl hl (by decide) rfl (fun ls hl => ?_)
  obtain ⟨u7, eu7, hf⟩ := nm_inv hf
  refine lv_iinc (v := u7) (lv' := [(4, .int u7), (3, .int u6), (0, .ref a_t), (1, .int y1), (2, .int y2)]) hx hb dX5_odds_76 hl (k := 4) rfl (by rw [eu7]; rfl) (by decide) rfl (fun ls hl => ?_)
  refine lv_goto (tgt := 35) hx hb dX5_odds_79 (by decide) ?_
  exact hag35 h (lv_sub hl [2, 3, 4, 1, 0] rfl) hf
def fX5_odds_73 (v_s : Nat → Int32) (ag35 : (Nat → Int32) → (Nat → Int32) → (Nat → Int32) → (Nat → Int32) → Int32 → Int32 → Int32 → Int32 → Option (Int64 × (Nat → Int32) × (Nat → Int32) × (Nat → Int32) × (Nat → Int32))) (v_statuses : Nat → Int32) (v_pile : Nat → Int32) (v_wish : Nat → Int32) (v_mark : Nat → Int32) (s0 : Int32) (y1 : Int32) (y2 : Int32) (y4 : Int32) : Option (Int64 × (Nat → Int32) × (Nat → Int32) × (Nat → Int32) × (Nat → Int32)) :=
  fX5_odds_74 v_s ag35 v_statuses v_pile v_wish v_mark s0 0 y1 y2 y4
set_option maxRecDepth 100000 in
set_option maxHeartbeats 4000000 in
theorem LX5_odds_73 {p : Program} {l : Launch} {e : Env} {s : State} {m : MethodId} {args : Array Value} {below : List Frame} {meth : Method} {c : Code} {D : va_G} {cI cJ cZ cS : ClassId} {tb : Nat} {A : Nat → Prop} {a_t a_s a_keptS a_statuses a_pile a_tape a_steps a_wish a_mark a_bitsOf a_sizeOf a_number a_moved : Nat} {v_isKept : Int32} {v_taped : Int32} {v_at : Int32} {v_fault : Int32} {v_laid : Int32} {v_open : Int32} {v_s : Nat → Int32} {rr : Int64} {kk' : (Nat → Int32) × (Nat → Int32) × (Nat → Int32) × (Nat → Int32)} (fx : q_Fx p s m args meth c cX5_odds 5 RX5 (some .long) D cI cJ cZ cS tb A) {ag35 : (Nat → Int32) → (Nat → Int32) → (Nat → Int32) → (Nat → Int32) → Int32 → Int32 → Int32 → Int32 → Option (Int64 × (Nat → Int32) × (Nat → Int32) × (Nat → Int32) × (Nat → Int32))} (hag35 : ∀ {v_statuses : Nat → Int32} {v_pile : Nat → Int32} {v_wish : Nat → Int32} {v_mark : Nat → Int32} {y1 : Int32} {y2 : Int32} {y3 : Int32} {y4 : Int32} {H : Heap} {locs : List Loc} {ls : Array Slot}, q_H D A s (wX5_odds cI cJ cZ cS a_t a_s a_keptS a_statuses a_pile a_tape a_steps a_wish a_mark a_bitsOf a_sizeOf a_number a_moved v_isKept v_taped v_at v_fault v_laid v_open v_s v_statuses v_pile v_wish v_mark) H locs → lv_has ls 5 [(0, .ref a_t), (1, .int y1), (2, .int y2), (3, .int y3), (4, .int y4)] → ag35 v_statuses v_pile v_wish v_mark y1 y2 y3 y4 = some (rr, kk') → W p l e rX5_odds s m args below meth c H locs 0 0 (MQ below (q_Rl D rr A ((fun k : (Nat → Int32) × (Nat → Int32) × (Nat → Int32) × (Nat → Int32) => (wX5_odds cI cJ cZ cS a_t a_s a_keptS a_statuses a_pile a_tape a_steps a_wish a_mark a_bitsOf a_sizeOf a_number a_moved v_isKept v_taped v_at v_fault v_laid v_open v_s k.1 k.2.1 k.2.2.1 k.2.2.2)) kk')) args s 0 0 A) (F0 m 35 ls [])) : ∀ {v_statuses : Nat → Int32} {v_pile : Nat → Int32} {v_wish : Nat → Int32} {v_mark : Nat → Int32} {s0 : Int32} {y1 : Int32} {y2 : Int32} {y4 : Int32} {H : Heap} {locs : List Loc} {ls : Array Slot}, q_H D A s (wX5_odds cI cJ cZ cS a_t a_s a_keptS a_statuses a_pile a_tape a_steps a_wish a_mark a_bitsOf a_sizeOf a_number a_moved v_isKept v_taped v_at v_fault v_laid v_open v_s v_statuses v_pile v_wish v_mark) H locs → lv_has ls 5 [(0, .ref a_t), (1, .int y1), (2, .int y2), (4, .int y4)] → fX5_odds_73 v_s ag35 v_statuses v_pile v_wish v_mark s0 y1 y2 y4 = some (rr, kk') → W p l e rX5_odds s m args below meth c H locs 0 0 (MQ below (q_Rl D rr A ((fun k : (Nat → Int32) × (Nat → Int32) × (Nat → Int32) × (Nat → Int32) => (wX5_odds cI cJ cZ cS a_t a_s a_keptS a_statuses a_pile a_tape a_steps a_wish a_mark a_bitsOf a_sizeOf a_number a_moved v_isKept v_taped v_at v_fault v_laid v_open v_s k.1 k.2.1 k.2.2.1 k.2.2.2)) kk')) args s 0 0 A) (F0 m 73 ls [.int s0]) := by
  intro v_statuses v_pile v_wish v_mark s0 y1 y2 y4 H locs ls h hl hf
  have hx := fx.1
  have hb := fx.2.1
  unfold fX5_odds_73 at hf
  refine lv_iconst (v := 0) hx hb dX5_odds_73 (by decide) ?_
  exact LX5_odds_74 fx hag35 h (lv_sub hl [0, 1, 2, 3] rfl) hf
def fX5_odds_35 (v_s : Nat → Int32) (ag35 : (Nat → Int32) → (Nat → Int32) → (Nat → Int32) → (Nat → Int32) → Int32 → Int32 → Int32 → Int32 → Option (Int64 × (Nat → Int32) × (Nat → Int32) × (Nat → Int32) × (Nat → Int32))) (v_statuses : Nat → Int32) (v_pile : Nat → Int32) (v_wish : Nat → Int32) (v_mark : Nat → Int32) (y1 : Int32) (y2 : Int32) (y3 : Int32) (y4 : Int32) : Option (Int64 × (Nat → Int32) × (Nat → Int32) × (Nat → Int32) × (Nat → Int32)) :=
  bR (fX5_lists v_s) (fun r8 k8 =>
  (if r8 ≤ y4 then (
  bR (fX5_lists v_s) (fun r10 k10 =>
  ll7 (fX5_odds_88 v_s) qF v_statuses v_pile v_wish v_mark y2 y3 r10))
  else (
  gIn y4 256 (
  (if (v_mark y4.toNatClampNeg) < 0 then (
  fX5_odds_73 v_s ag35 v_statuses v_pile v_wish v_mark y3 y1 y2 y4)
  else (
  gIn y4 256 (
  bR (fX5_has (v_mark y4.toNatClampNeg) y1) (fun r14 k14 =>
  (if r14 = 0 then (
  fX5_odds_73 v_s ag35 v_statuses v_pile v_wish v_mark y3 y1 y2 y4)
  else (
  fX5_odds_74 v_s ag35 v_statuses v_pile v_wish v_mark y3 1 y1 y2 y4))))))))))
set_option maxRecDepth 100000 in
set_option maxHeartbeats 4000000 in
theorem LX5_odds_35 {p : Program} {l : Launch} {e : Env} {s : State} {m : MethodId} {args : Array Value} {below : List Frame} {meth : Method} {c : Code} {D : va_G} {cI cJ cZ cS : ClassId} {tb : Nat} {A : Nat → Prop} {a_t a_s a_keptS a_statuses a_pile a_tape a_steps a_wish a_mark a_bitsOf a_sizeOf a_number a_moved : Nat} {v_isKept : Int32} {v_taped : Int32} {v_at : Int32} {v_fault : Int32} {v_laid : Int32} {v_open : Int32} {v_s : Nat → Int32} {rr : Int64} {kk' : (Nat → Int32) × (Nat → Int32) × (Nat → Int32) × (Nat → Int32)} (fx : q_Fx p s m args meth c cX5_odds 5 RX5 (some .long) D cI cJ cZ cS tb A) {ag35 : (Nat → Int32) → (Nat → Int32) → (Nat → Int32) → (Nat → Int32) → Int32 → Int32 → Int32 → Int32 → Option (Int64 × (Nat → Int32) × (Nat → Int32) × (Nat → Int32) × (Nat → Int32))} (hag35 : ∀ {v_statuses : Nat → Int32} {v_pile : Nat → Int32} {v_wish : Nat → Int32} {v_mark : Nat → Int32} {y1 : Int32} {y2 : Int32} {y3 : Int32} {y4 : Int32} {H : Heap} {locs : List Loc} {ls : Array Slot}, q_H D A s (wX5_odds cI cJ cZ cS a_t a_s a_keptS a_statuses a_pile a_tape a_steps a_wish a_mark a_bitsOf a_sizeOf a_number a_moved v_isKept v_taped v_at v_fault v_laid v_open v_s v_statuses v_pile v_wish v_mark) H locs → lv_has ls 5 [(0, .ref a_t), (1, .int y1), (2, .int y2), (3, .int y3), (4, .int y4)] → ag35 v_statuses v_pile v_wish v_mark y1 y2 y3 y4 = some (rr, kk') → W p l e rX5_odds s m args below meth c H locs 0 0 (MQ below (q_Rl D rr A ((fun k : (Nat → Int32) × (Nat → Int32) × (Nat → Int32) × (Nat → Int32) => (wX5_odds cI cJ cZ cS a_t a_s a_keptS a_statuses a_pile a_tape a_steps a_wish a_mark a_bitsOf a_sizeOf a_number a_moved v_isKept v_taped v_at v_fault v_laid v_open v_s k.1 k.2.1 k.2.2.1 k.2.2.2)) kk')) args s 0 0 A) (F0 m 35 ls [])) : ∀ {v_statuses : Nat → Int32} {v_pile : Nat → Int32} {v_wish : Nat → Int32} {v_mark : Nat → Int32} {y1 : Int32} {y2 : Int32} {y3 : Int32} {y4 : Int32} {H : Heap} {locs : List Loc} {ls : Array Slot}, q_H D A s (wX5_odds cI cJ cZ cS a_t a_s a_keptS a_statuses a_pile a_tape a_steps a_wish a_mark a_bitsOf a_sizeOf a_number a_moved v_isKept v_taped v_at v_fault v_laid v_open v_s v_statuses v_pile v_wish v_mark) H locs → lv_has ls 5 [(0, .ref a_t), (1, .int y1), (2, .int y2), (3, .int y3), (4, .int y4)] → fX5_odds_35 v_s ag35 v_statuses v_pile v_wish v_mark y1 y2 y3 y4 = some (rr, kk') → W p l e rX5_odds s m args below meth c H locs 0 0 (MQ below (q_Rl D rr A ((fun k : (Nat → Int32) × (Nat → Int32) × (Nat → Int32) × (Nat → Int32) => (wX5_odds cI cJ cZ cS a_t a_s a_keptS a_statuses a_pile a_tape a_steps a_wish a_mark a_bitsOf a_sizeOf a_number a_moved v_isKept v_taped v_at v_fault v_laid v_open v_s k.1 k.2.1 k.2.2.1 k.2.2.2)) kk')) args s 0 0 A) (F0 m 35 ls []) := by
  intro v_statuses v_pile v_wish v_mark y1 y2 y3 y4 H locs ls h hl hf
  have hx := fx.1
  have hb := fx.2.1
  unfold fX5_odds_35 at hf
  refine lv_iload hx hb dX5_odds_35 (lv_at hl 4 rfl) ?_
  refine lv_aload_n hx hb dX5_odds_37 rfl (lv_at hl 0 rfl) ?_
  obtain ⟨r8, k8, hg, hf⟩ := bR_inv hf
  refine q_ci (rest := [.int y4]) (ws' := (wX5_odds cI cJ cZ cS a_t a_s a_keptS a_statuses a_pile a_tape a_steps a_wish a_mark a_bitsOf a_sizeOf a_number a_moved v_isKept v_taped v_at v_fault v_laid v_open v_s v_statuses v_pile v_wish v_mark)) (w1 := (wX5_lists cI cJ cZ cS a_t a_s a_keptS a_statuses a_pile a_tape a_steps a_wish a_mark a_bitsOf a_sizeOf a_number a_moved v_isKept v_taped v_at v_fault v_laid v_open v_s)) fx h [0, 1] rfl rfl rfl rfl (q_runV fx h hl.1 [0, 1] rfl rfl (tX5_lists l D cI cJ cZ cS tb a_t a_s a_keptS a_statuses a_pile a_tape a_steps a_wish a_mark a_bitsOf a_sizeOf a_number a_moved H.size v_isKept v_taped v_at v_fault v_laid v_open v_s r8 k8 hg) mvX5_lists k_810 ⟨rfl, rfl⟩ ⟨Nat.le_of_ble_eq_true rfl, Nat.le_of_ble_eq_true rfl⟩ rfl rfl rfl rfl (Nat.le_of_ble_eq_true rfl) dX5_odds_38 ⟨Nat.le_of_ble_eq_true rfl, Nat.le_of_ble_eq_true rfl⟩) (fun H locs h => ?_)
  refine lv_icmp_ge (tgt := 82) hx hb dX5_odds_41 (by decide) (fun c9 => ?_) (fun c9 => ?_)
  · have hf := it_t c9 hf
    refine lv_aload_n hx hb dX5_odds_82 rfl (lv_at hl 0 rfl) ?_
    obtain ⟨r10, k10, hg, hf⟩ := bR_inv hf
    refine q_ci (rest := []) (ws' := (wX5_odds cI cJ cZ cS a_t a_s a_keptS a_statuses a_pile a_tape a_steps a_wish a_mark a_bitsOf a_sizeOf a_number a_moved v_isKept v_taped v_at v_fault v_laid v_open v_s v_statuses v_pile v_wish v_mark)) (w1 := (wX5_lists cI cJ cZ cS a_t a_s a_keptS a_statuses a_pile a_tape a_steps a_wish a_mark a_bitsOf a_sizeOf a_number a_moved v_isKept v_taped v_at v_fault v_laid v_open v_s)) fx h [0, 1] rfl rfl rfl rfl (q_runV fx h hl.1 [0, 1] rfl rfl (tX5_lists l D cI cJ cZ cS tb a_t a_s a_keptS a_statuses a_pile a_tape a_steps a_wish a_mark a_bitsOf a_sizeOf a_number a_moved H.size v_isKept v_taped v_at v_fault v_laid v_open v_s r10 k10 hg) mvX5_lists k_810 ⟨rfl, rfl⟩ ⟨Nat.le_of_ble_eq_true rfl, Nat.le_of_ble_eq_true rfl⟩ rfl rfl rfl rfl (Nat.le_of_ble_eq_true rfl) dX5_odds_83 ⟨Nat.le_of_ble_eq_true rfl, Nat.le_of_ble_eq_true rfl⟩) (fun H locs h => ?_)
    refine lv_istore (lv' := [(4, .int r10), (0, .ref a_t), (1, .int y1), (2, .int y2), (3, .int y3)]) hx hb dX5_odds_86 hl (by decide) rfl (fun ls hl => ?_)
    exact EX5_odds_88 fx qF h (lv_sub hl [3, 4, 0] rfl) hf
  have hf := it_f c9 hf
  refine lv_iload_n hx hb dX5_odds_44 rfl (lv_at hl 3 rfl) ?_
  refine lv_aload_n hx hb dX5_odds_45 rfl (lv_at hl 0 rfl) ?_
  refine q_get (v := .ref a_mark) fx inX5 h 0 rfl rfl 13 (by decide) k_649 rfl dX5_odds_46 ?_
  refine lv_iload hx hb dX5_odds_49 (lv_at hl 4 rfl) ?_
  obtain ⟨i11, hf⟩ := gIn_inv hf
  refine q_iald fx h 5 rfl i11 dX5_odds_51 ?_
  refine lv_if_lt (tgt := 73) hx hb dX5_odds_52 (by decide) (fun c12 => ?_) (fun c12 => ?_)
  · have hf := it_t c12 hf
    exact LX5_odds_73 fx hag35 h (lv_sub hl [0, 1, 2, 4] rfl) hf
  have hf := it_f c12 hf
  refine lv_aload_n hx hb dX5_odds_55 rfl (lv_at hl 0 rfl) ?_
  refine q_get (v := .ref a_mark) fx inX5 h 0 rfl rfl 13 (by decide) k_649 rfl dX5_odds_56 ?_
  refine lv_iload hx hb dX5_odds_59 (lv_at hl 4 rfl) ?_
  obtain ⟨i13, hf⟩ := gIn_inv hf
  refine q_iald fx h 5 rfl i13 dX5_odds_61 ?_
  refine lv_iload_n hx hb dX5_odds_62 rfl (lv_at hl 1 rfl) ?_
  obtain ⟨r14, k14, hg, hf⟩ := bR_inv hf
  refine q_ci (rest := [.int y3]) (ws' := (wX5_odds cI cJ cZ cS a_t a_s a_keptS a_statuses a_pile a_tape a_steps a_wish a_mark a_bitsOf a_sizeOf a_number a_moved v_isKept v_taped v_at v_fault v_laid v_open v_s v_statuses v_pile v_wish v_mark)) (w1 := (wX5_has cI cJ cZ cS)) fx h [] rfl rfl rfl rfl (q_runS fx h hl.1 [] rfl rfl (tX5_has l D cI cJ cZ cS tb H.size (v_mark y4.toNatClampNeg) y1 r14 k14 hg) msX5_has k_733 ⟨rfl, rfl⟩ ⟨Nat.le_of_ble_eq_true rfl, Nat.le_of_ble_eq_true rfl⟩ rfl rfl (Nat.le_of_ble_eq_true rfl) dX5_odds_63 ⟨Nat.le_of_ble_eq_true rfl, Nat.le_of_ble_eq_true rfl⟩) (fun H locs h => ?_)
  refine lv_if_eq (tgt := 73) hx hb dX5_odds_66 (by decide) (fun c15 => ?_) (fun c15 => ?_)
  · have hf := it_t c15 hf
    exact LX5_odds_73 fx hag35 h (lv_sub hl [0, 1, 2, 4] rfl) hf
  have hf := it_f c15 hf
  refine lv_iconst (v := 1) hx hb dX5_odds_69 (by decide) ?_
  refine lv_goto (tgt := 74) hx hb dX5_odds_70 (by decide) ?_
  exact LX5_odds_74 fx hag35 h (lv_sub hl [0, 1, 2, 4] rfl) hf
set_option maxRecDepth 100000 in
theorem EX5_odds_35 {p : Program} {l : Launch} {e : Env} {s : State} {m : MethodId} {args : Array Value} {below : List Frame} {meth : Method} {c : Code} {D : va_G} {cI cJ cZ cS : ClassId} {tb : Nat} {A : Nat → Prop} {a_t a_s a_keptS a_statuses a_pile a_tape a_steps a_wish a_mark a_bitsOf a_sizeOf a_number a_moved : Nat} {v_isKept : Int32} {v_taped : Int32} {v_at : Int32} {v_fault : Int32} {v_laid : Int32} {v_open : Int32} {v_s : Nat → Int32} {rr : Int64} {kk' : (Nat → Int32) × (Nat → Int32) × (Nat → Int32) × (Nat → Int32)} (fx : q_Fx p s m args meth c cX5_odds 5 RX5 (some .long) D cI cJ cZ cS tb A) : ∀ (n : Nat), ∀ {v_statuses : Nat → Int32} {v_pile : Nat → Int32} {v_wish : Nat → Int32} {v_mark : Nat → Int32} {y1 : Int32} {y2 : Int32} {y3 : Int32} {y4 : Int32} {H : Heap} {locs : List Loc} {ls : Array Slot}, q_H D A s (wX5_odds cI cJ cZ cS a_t a_s a_keptS a_statuses a_pile a_tape a_steps a_wish a_mark a_bitsOf a_sizeOf a_number a_moved v_isKept v_taped v_at v_fault v_laid v_open v_s v_statuses v_pile v_wish v_mark) H locs → lv_has ls 5 [(0, .ref a_t), (1, .int y1), (2, .int y2), (3, .int y3), (4, .int y4)] → ll8 (fX5_odds_35 v_s) n v_statuses v_pile v_wish v_mark y1 y2 y3 y4 = some (rr, kk') → W p l e rX5_odds s m args below meth c H locs 0 0 (MQ below (q_Rl D rr A ((fun k : (Nat → Int32) × (Nat → Int32) × (Nat → Int32) × (Nat → Int32) => (wX5_odds cI cJ cZ cS a_t a_s a_keptS a_statuses a_pile a_tape a_steps a_wish a_mark a_bitsOf a_sizeOf a_number a_moved v_isKept v_taped v_at v_fault v_laid v_open v_s k.1 k.2.1 k.2.2.1 k.2.2.2)) kk')) args s 0 0 A) (F0 m 35 ls []) := by
  intro n
  induction n with
  | zero => intro v_statuses v_pile v_wish v_mark y1 y2 y3 y4 H locs ls h hl hf; exact (ll8_z hf).elim
  | succ n ih => intro v_statuses v_pile v_wish v_mark y1 y2 y3 y4 H locs ls h hl hf; exact LX5_odds_35 fx ih h hl (ll8_s hf)
def fX5_odds_18 (v_s : Nat → Int32) (v_statuses : Nat → Int32) (v_pile : Nat → Int32) (v_wish : Nat → Int32) (v_mark : Nat → Int32) : Option (Int64 × (Nat → Int32) × (Nat → Int32) × (Nat → Int32) × (Nat → Int32)) :=
  bR (fX5_finds v_statuses (-1000000001)) (fun r16 k16 =>
  some (r16.toInt64, (k16, v_pile, v_wish, v_mark)))
set_option maxRecDepth 100000 in
set_option maxHeartbeats 4000000 in
theorem LX5_odds_18 {p : Program} {l : Launch} {e : Env} {s : State} {m : MethodId} {args : Array Value} {below : List Frame} {meth : Method} {c : Code} {D : va_G} {cI cJ cZ cS : ClassId} {tb : Nat} {A : Nat → Prop} {a_t a_s a_keptS a_statuses a_pile a_tape a_steps a_wish a_mark a_bitsOf a_sizeOf a_number a_moved : Nat} {v_isKept : Int32} {v_taped : Int32} {v_at : Int32} {v_fault : Int32} {v_laid : Int32} {v_open : Int32} {v_s : Nat → Int32} {rr : Int64} {kk' : (Nat → Int32) × (Nat → Int32) × (Nat → Int32) × (Nat → Int32)} (fx : q_Fx p s m args meth c cX5_odds 5 RX5 (some .long) D cI cJ cZ cS tb A) : ∀ {v_statuses : Nat → Int32} {v_pile : Nat → Int32} {v_wish : Nat → Int32} {v_mark : Nat → Int32} {H : Heap} {locs : List Loc} {ls : Array Slot}, q_H D A s (wX5_odds cI cJ cZ cS a_t a_s a_keptS a_statuses a_pile a_tape a_steps a_wish a_mark a_bitsOf a_sizeOf a_number a_moved v_isKept v_taped v_at v_fault v_laid v_open v_s v_statuses v_pile v_wish v_mark) H locs → lv_has ls 5 [(0, .ref a_t)] → fX5_odds_18 v_s v_statuses v_pile v_wish v_mark = some (rr, kk') → W p l e rX5_odds s m args below meth c H locs 0 0 (MQ below (q_Rl D rr A ((fun k : (Nat → Int32) × (Nat → Int32) × (Nat → Int32) × (Nat → Int32) => (wX5_odds cI cJ cZ cS a_t a_s a_keptS a_statuses a_pile a_tape a_steps a_wish a_mark a_bitsOf a_sizeOf a_number a_moved v_isKept v_taped v_at v_fault v_laid v_open v_s k.1 k.2.1 k.2.2.1 k.2.2.2)) kk')) args s 0 0 A) (F0 m 18 ls []) := by
  intro v_statuses v_pile v_wish v_mark H locs ls h hl hf
  have hx := fx.1
  have hb := fx.2.1
  unfold fX5_odds_18 at hf
  refine lv_aload_n hx hb dX5_odds_18 rfl (lv_at hl 0 rfl) ?_
  refine q_ldc fx k_701 dX5_odds_19 ?_
  obtain ⟨r16, k16, hg, hf⟩ := bR_inv hf
  refine q_ci (rest := []) (ws' := (wX5_odds cI cJ cZ cS a_t a_s a_keptS a_statuses a_pile a_tape a_steps a_wish a_mark a_bitsOf a_sizeOf a_number a_moved v_isKept v_taped v_at v_fault v_laid v_open v_s k16 v_pile v_wish v_mark)) (w1 := (wX5_finds cI cJ cZ cS a_t a_s a_keptS a_statuses a_pile a_tape a_steps a_wish a_mark a_bitsOf a_sizeOf a_number a_moved v_isKept v_taped v_at v_fault v_laid v_open k16)) fx h [0, 2] rfl rfl rfl rfl (q_runV fx h hl.1 [0, 2] rfl rfl (tX5_finds l D cI cJ cZ cS tb a_t a_s a_keptS a_statuses a_pile a_tape a_steps a_wish a_mark a_bitsOf a_sizeOf a_number a_moved H.size v_isKept v_taped v_at v_fault v_laid v_open v_statuses (-1000000001) r16 k16 hg) mvX5_finds k_702 ⟨rfl, rfl⟩ ⟨Nat.le_of_ble_eq_true rfl, Nat.le_of_ble_eq_true rfl⟩ rfl rfl rfl rfl (Nat.le_of_ble_eq_true rfl) dX5_odds_21 ⟨Nat.le_of_ble_eq_true rfl, Nat.le_of_ble_eq_true rfl⟩) (fun H locs h => ?_)
  refine lv_i2l hx hb dX5_odds_24 rfl ?_
  exact q_retl (fun k : (Nat → Int32) × (Nat → Int32) × (Nat → Int32) × (Nat → Int32) => (wX5_odds cI cJ cZ cS a_t a_s a_keptS a_statuses a_pile a_tape a_steps a_wish a_mark a_bitsOf a_sizeOf a_number a_moved v_isKept v_taped v_at v_fault v_laid v_open v_s k.1 k.2.1 k.2.2.1 k.2.2.2)) fx hf h dX5_odds_25
def fX5_odds (v_s : Nat → Int32) (v_statuses : Nat → Int32) (v_pile : Nat → Int32) (v_wish : Nat → Int32) (v_mark : Nat → Int32) (x1 : Int32) (x2 : Int32) : Option (Int64 × (Nat → Int32) × (Nat → Int32) × (Nat → Int32) × (Nat → Int32)) :=
  bR (fX5_isGuest v_s x1) (fun r17 k17 =>
  (if r17 = 0 then (
  fX5_odds_18 v_s v_statuses v_pile v_wish v_mark)
  else (
  bR (fX5_in (x2.toInt64) 0 1) (fun r19 k19 =>
  (if r19 = 0 then (
  fX5_odds_18 v_s v_statuses v_pile v_wish v_mark)
  else (
  bV (fX5_looksWhere v_s v_pile v_wish v_mark) (fun k21 =>
  ll8 (fX5_odds_35 v_s) qF v_statuses k21.1 k21.2.1 k21.2.2 x1 x2 0 0)))))))
set_option maxRecDepth 100000 in
set_option maxHeartbeats 4000000 in
theorem tX5_odds (l : Launch) (D : va_G) (cI cJ cZ cS : ClassId) (tb : Nat) (a_t a_s a_keptS a_statuses a_pile a_tape a_steps a_wish a_mark a_bitsOf a_sizeOf a_number a_moved : Nat) (sz : Nat) (v_isKept : Int32) (v_taped : Int32) (v_at : Int32) (v_fault : Int32) (v_laid : Int32) (v_open : Int32) (v_s : Nat → Int32) (v_statuses : Nat → Int32) (v_pile : Nat → Int32) (v_wish : Nat → Int32) (v_mark : Nat → Int32) (x1 : Int32) (x2 : Int32) (rr : Int64) (kk' : (Nat → Int32) × (Nat → Int32) × (Nat → Int32) × (Nat → Int32)) (hf : fX5_odds v_s v_statuses v_pile v_wish v_mark x1 x2 = some (rr, kk')) : Met l yX5_odds (Cond.code yX5_odds cX5_odds 5 (some .long) :: wA) rX5_odds (q_Pre D cI cJ cZ cS tb [.ref a_t, .int x1, .int x2] sz (wX5_odds cI cJ cZ cS a_t a_s a_keptS a_statuses a_pile a_tape a_steps a_wish a_mark a_bitsOf a_sizeOf a_number a_moved v_isKept v_taped v_at v_fault v_laid v_open v_s v_statuses v_pile v_wish v_mark)) (q_Rl D rr (va_A (wX5_odds cI cJ cZ cS a_t a_s a_keptS a_statuses a_pile a_tape a_steps a_wish a_mark a_bitsOf a_sizeOf a_number a_moved v_isKept v_taped v_at v_fault v_laid v_open v_s v_statuses v_pile v_wish v_mark) sz) ((fun k : (Nat → Int32) × (Nat → Int32) × (Nat → Int32) × (Nat → Int32) => (wX5_odds cI cJ cZ cS a_t a_s a_keptS a_statuses a_pile a_tape a_steps a_wish a_mark a_bitsOf a_sizeOf a_number a_moved v_isKept v_taped v_at v_fault v_laid v_open v_s k.1 k.2.1 k.2.2.1 k.2.2.2)) kk')) 0 0 (va_A (wX5_odds cI cJ cZ cS a_t a_s a_keptS a_statuses a_pile a_tape a_steps a_wish a_mark a_bitsOf a_sizeOf a_number a_moved v_isKept v_taped v_at v_fault v_laid v_open v_s v_statuses v_pile v_wish v_mark) sz) := by
  refine q_enter (Qf := fun A => (q_Rl D rr A ((fun k : (Nat → Int32) × (Nat → Int32) × (Nat → Int32) × (Nat → Int32) => (wX5_odds cI cJ cZ cS a_t a_s a_keptS a_statuses a_pile a_tape a_steps a_wish a_mark a_bitsOf a_sizeOf a_number a_moved v_isKept v_taped v_at v_fault v_laid v_open v_s k.1 k.2.1 k.2.2.1 k.2.2.2)) kk'))) (by decide) rfl (Nat.le_of_ble_eq_true rfl) ?_
  intro p e s m below meth c A ls fx hname h hl
  have hx := fx.1
  have hb := fx.2.1
  have hl : lv_has ls 5 [(0, .ref a_t), (1, .int x1), (2, .int x2)] := hl
  generalize h9 : s.heap = H at h ⊢
  clear h9
  generalize h9 : ([] : List Loc) = locs at h ⊢
  clear h9
  unfold fX5_odds at hf
  refine lv_aload_n hx hb dX5_odds_0 rfl (lv_at hl 0 rfl) ?_
  refine lv_iload_n hx hb dX5_odds_1 rfl (lv_at hl 1 rfl) ?_
  obtain ⟨r17, k17, hg, hf⟩ := bR_inv hf
  refine q_ci (rest := []) (ws' := (wX5_odds cI cJ cZ cS a_t a_s a_keptS a_statuses a_pile a_tape a_steps a_wish a_mark a_bitsOf a_sizeOf a_number a_moved v_isKept v_taped v_at v_fault v_laid v_open v_s v_statuses v_pile v_wish v_mark)) (w1 := (wX5_isGuest cI cJ cZ cS a_t a_s a_keptS a_statuses a_pile a_tape a_steps a_wish a_mark a_bitsOf a_sizeOf a_number a_moved v_isKept v_taped v_at v_fault v_laid v_open v_s)) fx h [0, 1] rfl rfl rfl rfl (q_runV fx h hl.1 [0, 1] rfl rfl (tX5_isGuest l D cI cJ cZ cS tb a_t a_s a_keptS a_statuses a_pile a_tape a_steps a_wish a_mark a_bitsOf a_sizeOf a_number a_moved H.size v_isKept v_taped v_at v_fault v_laid v_open v_s x1 r17 k17 hg) mvX5_isGuest k_711 ⟨rfl, rfl⟩ ⟨Nat.le_of_ble_eq_true rfl, Nat.le_of_ble_eq_true rfl⟩ rfl rfl rfl rfl (Nat.le_of_ble_eq_true rfl) dX5_odds_2 ⟨Nat.le_of_ble_eq_true rfl, Nat.le_of_ble_eq_true rfl⟩) (fun H locs h => ?_)
  refine lv_if_eq (tgt := 18) hx hb dX5_odds_5 (by decide) (fun c18 => ?_) (fun c18 => ?_)
  · have hf := it_t c18 hf
    exact LX5_odds_18 fx h (lv_sub hl [0] rfl) hf
  have hf := it_f c18 hf
  refine lv_iload_n hx hb dX5_odds_8 rfl (lv_at hl 2 rfl) ?_
  refine lv_i2l hx hb dX5_odds_9 rfl ?_
  refine lv_lconst (v := 0) hx hb dX5_odds_10 (by decide) ?_
  refine lv_lconst (v := 1) hx hb dX5_odds_11 (by decide) ?_
  obtain ⟨r19, k19, hg, hf⟩ := bR_inv hf
  refine q_ci (rest := []) (ws' := (wX5_odds cI cJ cZ cS a_t a_s a_keptS a_statuses a_pile a_tape a_steps a_wish a_mark a_bitsOf a_sizeOf a_number a_moved v_isKept v_taped v_at v_fault v_laid v_open v_s v_statuses v_pile v_wish v_mark)) (w1 := (wX5_in cI cJ cZ cS)) fx h [] rfl rfl rfl rfl (q_runS fx h hl.1 [] rfl rfl (tX5_in l D cI cJ cZ cS tb H.size (x2.toInt64) 0 1 r19 k19 hg) msX5_in k_697 ⟨rfl, rfl⟩ ⟨Nat.le_of_ble_eq_true rfl, Nat.le_of_ble_eq_true rfl⟩ rfl rfl (Nat.le_of_ble_eq_true rfl) dX5_odds_12 ⟨Nat.le_of_ble_eq_true rfl, Nat.le_of_ble_eq_true rfl⟩) (fun H locs h => ?_)
  refine lv_if_ne (tgt := 26) hx hb dX5_odds_15 (by decide) (fun c20 => ?_) (fun c20 => ?_)
  · have hf := it_f c20 hf
    refine lv_aload_n hx hb dX5_odds_26 rfl (lv_at hl 0 rfl) ?_
    obtain ⟨k21, hg, hf⟩ := bV_inv hf
    refine q_cv (rest := []) (ws' := (wX5_odds cI cJ cZ cS a_t a_s a_keptS a_statuses a_pile a_tape a_steps a_wish a_mark a_bitsOf a_sizeOf a_number a_moved v_isKept v_taped v_at v_fault v_laid v_open v_s v_statuses k21.1 k21.2.1 k21.2.2)) (w1 := (wX5_looksWhere cI cJ cZ cS a_t a_s a_keptS a_statuses a_pile a_tape a_steps a_wish a_mark a_bitsOf a_sizeOf a_number a_moved v_isKept v_taped v_at v_fault v_laid v_open v_s k21.1 k21.2.1 k21.2.2)) fx h [0, 1, 3, 4, 5] rfl rfl rfl rfl (q_runV fx h hl.1 [0, 1, 3, 4, 5] rfl rfl (tX5_looksWhere l D cI cJ cZ cS tb a_t a_s a_keptS a_statuses a_pile a_tape a_steps a_wish a_mark a_bitsOf a_sizeOf a_number a_moved H.size v_isKept v_taped v_at v_fault v_laid v_open v_s v_pile v_wish v_mark k21 hg) mvX5_looksWhere k_906 ⟨rfl, rfl⟩ ⟨Nat.le_of_ble_eq_true rfl, Nat.le_of_ble_eq_true rfl⟩ rfl rfl rfl rfl (Nat.le_of_ble_eq_true rfl) dX5_odds_27 ⟨Nat.le_of_ble_eq_true rfl, Nat.le_of_ble_eq_true rfl⟩) (fun H locs h => ?_)
    refine lv_iconst (v := 0) hx hb dX5_odds_30 (by decide) ?_
    refine lv_istore_n (lv' := [(3, .int 0), (0, .ref a_t), (1, .int x1), (2, .int x2)]) hx hb dX5_odds_31 rfl hl (by decide) rfl (fun ls hl => ?_)
    refine lv_iconst (v := 0) hx hb dX5_odds_32 (by decide) ?_
    refine lv_istore (lv' := [(4, .int 0), (3, .int 0), (0, .ref a_t), (1, .int x1), (2, .int x2)]) hx hb dX5_odds_33 hl (by decide) rfl (fun ls hl => ?_)
    exact EX5_odds_35 fx qF h (lv_sub hl [2, 3, 4, 1, 0] rfl) hf
  have hf := it_t c20 hf
  exact LX5_odds_18 fx h (lv_sub hl [0] rfl) hf
/-! X5_lastOf -/
abbrev wX5_lastOf (cI cJ cZ cS : ClassId) (a_t a_s a_keptS a_statuses a_pile a_tape a_steps a_wish a_mark a_bitsOf a_sizeOf a_number a_moved : Nat) (v_isKept : Int32) (v_taped : Int32) (v_at : Int32) (v_fault : Int32) (v_laid : Int32) (v_open : Int32) (v_wish : Nat → Int32) : va_W := [(a_t, .inr (5, [.ref a_s, .ref a_keptS, .ref a_statuses, .int v_isKept, .ref a_pile, .ref a_tape, .ref a_steps, .int v_taped, .int v_at, .int v_fault, .int v_laid, .int v_open, .ref a_wish, .ref a_mark, .ref a_bitsOf, .ref a_sizeOf, .ref a_number, .ref a_moved])), (a_wish, .inl (cI, 256, .inl v_wish))]
abbrev rX5_lastOf : Room := { frames := 0, cells := 0, slots := 0, locals := 0 }
def fX5_lastOf_5 (v_wish : Nat → Int32) (ag5 : Int32 → Int32 → Int32 → Int32 → Option (Int32 × Unit)) (y1 : Int32) (y2 : Int32) (y3 : Int32) (y4 : Int32) : Option (Int32 × Unit) :=
  (if (64 : Int32) ≤ y4 then (
  some (y3, ()))
  else (
  gIn y3 256 (
  nm (((v_wish y3.toNatClampNeg) &&& y2) ||| y1) (fun u3 =>
  nm (y4 + 1) (fun u4 =>
  ag5 y1 y2 u3 u4)))))
set_option maxRecDepth 100000 in
set_option maxHeartbeats 4000000 in
theorem LX5_lastOf_5 {p : Program} {l : Launch} {e : Env} {s : State} {m : MethodId} {args : Array Value} {below : List Frame} {meth : Method} {c : Code} {D : va_G} {cI cJ cZ cS : ClassId} {tb : Nat} {A : Nat → Prop} {a_t a_s a_keptS a_statuses a_pile a_tape a_steps a_wish a_mark a_bitsOf a_sizeOf a_number a_moved : Nat} {v_isKept : Int32} {v_taped : Int32} {v_at : Int32} {v_fault : Int32} {v_laid : Int32} {v_open : Int32} {v_wish : Nat → Int32} {rr : Int32} {kk' : Unit} (fx : q_Fx p s m args meth c cX5_lastOf 5 RX5 (some .int) D cI cJ cZ cS tb A) {ag5 : Int32 → Int32 → Int32 → Int32 → Option (Int32 × Unit)} (hag5 : ∀ {y1 : Int32} {y2 : Int32} {y3 : Int32} {y4 : Int32} {H : Heap} {locs : List Loc} {ls : Array Slot}, q_H D A s (wX5_lastOf cI cJ cZ cS a_t a_s a_keptS a_statuses a_pile a_tape a_steps a_wish a_mark a_bitsOf a_sizeOf a_number a_moved v_isKept v_taped v_at v_fault v_laid v_open v_wish) H locs → lv_has ls 5 [(0, .ref a_t), (1, .int y1), (2, .int y2), (3, .int y3), (4, .int y4)] → ag5 y1 y2 y3 y4 = some (rr, kk') → W p l e rX5_lastOf s m args below meth c H locs 0 0 (MQ below (q_Ri D rr A ((fun k : Unit => (wX5_lastOf cI cJ cZ cS a_t a_s a_keptS a_statuses a_pile a_tape a_steps a_wish a_mark a_bitsOf a_sizeOf a_number a_moved v_isKept v_taped v_at v_fault v_laid v_open v_wish)) kk')) args s 0 0 A) (F0 m 5 ls [])) : ∀ {y1 : Int32} {y2 : Int32} {y3 : Int32} {y4 : Int32} {H : Heap} {locs : List Loc} {ls : Array Slot}, q_H D A s (wX5_lastOf cI cJ cZ cS a_t a_s a_keptS a_statuses a_pile a_tape a_steps a_wish a_mark a_bitsOf a_sizeOf a_number a_moved v_isKept v_taped v_at v_fault v_laid v_open v_wish) H locs → lv_has ls 5 [(0, .ref a_t), (1, .int y1), (2, .int y2), (3, .int y3), (4, .int y4)] → fX5_lastOf_5 v_wish ag5 y1 y2 y3 y4 = some (rr, kk') → W p l e rX5_lastOf s m args below meth c H locs 0 0 (MQ below (q_Ri D rr A ((fun k : Unit => (wX5_lastOf cI cJ cZ cS a_t a_s a_keptS a_statuses a_pile a_tape a_steps a_wish a_mark a_bitsOf a_sizeOf a_number a_moved v_isKept v_taped v_at v_fault v_laid v_open v_wish)) kk')) args s 0 0 A) (F0 m 5 ls []) := by
  intro y1 y2 y3 y4 H locs ls h hl hf
  have hx := fx.1
  have hb := fx.2.1
  unfold fX5_lastOf_5 at hf
  refine lv_iload hx hb dX5_lastOf_5 (lv_at hl 4 rfl) ?_
  refine lv_bipush (v := 64) hx hb dX5_lastOf_7 (by decide) ?_
  refine lv_icmp_ge (tgt := 29) hx hb dX5_lastOf_9 (by decide) (fun c1 => ?_) (fun c1 => ?_)
  · have hf := it_t c1 hf
    refine lv_iload_n hx hb dX5_lastOf_29 rfl (lv_at hl 3 rfl) ?_
    exact q_reti (fun k : Unit => (wX5_lastOf cI cJ cZ cS a_t a_s a_keptS a_statuses a_pile a_tape a_steps a_wish a_mark a_bitsOf a_sizeOf a_number a_moved v_isKept v_taped v_at v_fault v_laid v_open v_wish)) fx hf h dX5_lastOf_30
  have hf := it_f c1 hf
  refine lv_aload_n hx hb dX5_lastOf_12 rfl (lv_at hl 0 rfl) ?_
  refine q_get (v := .ref a_wish) fx inX5 h 0 rfl rfl 12 (by decide) k_648 rfl dX5_lastOf_13 ?_
  refine lv_iload_n hx hb dX5_lastOf_16 rfl (lv_at hl 3 rfl) ?_
  obtain ⟨i2, hf⟩ := gIn_inv hf
  refine q_iald fx h 1 rfl i2 dX5_lastOf_17 ?_
  refine lv_iload_n hx hb dX5_lastOf_18 rfl (lv_at hl 2 rfl) ?_
  refine lv_iand hx hb dX5_lastOf_19 ?_
  refine lv_iload_n hx hb dX5_lastOf_20 rfl (lv_at hl 1 rfl) ?_
  refine lv_ior hx hb dX5_lastOf_21 ?_
  obtain ⟨u3, eu3, hf⟩ := nm_inv hf
  refine lv_eqi eu3 ?_
  refine lv_istore_n (lv' := [(3, .int u3), (0, .ref a_t), (1, .int y1), (2, .int y2), (4, .int y4)]) hx hb dX5_lastOf_22 rfl hl (by decide) rfl (fun ls hl => ?_)
  obtain ⟨u4, eu4, hf⟩ := nm_inv hf
  refine lv_iinc (v := u4) (lv' := [(4, .int u4), (3, .int u3), (0, .ref a_t), (1, .int y1), (2, .int y2)]) hx hb dX5_lastOf_23 hl (k := 4) rfl (by rw [eu4]; rfl) (by decide) rfl (fun ls hl => ?_)
  refine lv_goto (tgt := 5) hx hb dX5_lastOf_26 (by decide) ?_
  exact hag5 h (lv_sub hl [2, 3, 4, 1, 0] rfl) hf
set_option maxRecDepth 100000 in
theorem EX5_lastOf_5 {p : Program} {l : Launch} {e : Env} {s : State} {m : MethodId} {args : Array Value} {below : List Frame} {meth : Method} {c : Code} {D : va_G} {cI cJ cZ cS : ClassId} {tb : Nat} {A : Nat → Prop} {a_t a_s a_keptS a_statuses a_pile a_tape a_steps a_wish a_mark a_bitsOf a_sizeOf a_number a_moved : Nat} {v_isKept : Int32} {v_taped : Int32} {v_at : Int32} {v_fault : Int32} {v_laid : Int32} {v_open : Int32} {v_wish : Nat → Int32} {rr : Int32} {kk' : Unit} (fx : q_Fx p s m args meth c cX5_lastOf 5 RX5 (some .int) D cI cJ cZ cS tb A) : ∀ (n : Nat), ∀ {y1 : Int32} {y2 : Int32} {y3 : Int32} {y4 : Int32} {H : Heap} {locs : List Loc} {ls : Array Slot}, q_H D A s (wX5_lastOf cI cJ cZ cS a_t a_s a_keptS a_statuses a_pile a_tape a_steps a_wish a_mark a_bitsOf a_sizeOf a_number a_moved v_isKept v_taped v_at v_fault v_laid v_open v_wish) H locs → lv_has ls 5 [(0, .ref a_t), (1, .int y1), (2, .int y2), (3, .int y3), (4, .int y4)] → ll4 (fX5_lastOf_5 v_wish) n y1 y2 y3 y4 = some (rr, kk') → W p l e rX5_lastOf s m args below meth c H locs 0 0 (MQ below (q_Ri D rr A ((fun k : Unit => (wX5_lastOf cI cJ cZ cS a_t a_s a_keptS a_statuses a_pile a_tape a_steps a_wish a_mark a_bitsOf a_sizeOf a_number a_moved v_isKept v_taped v_at v_fault v_laid v_open v_wish)) kk')) args s 0 0 A) (F0 m 5 ls []) := by
  intro n
  induction n with
  | zero => intro y1 y2 y3 y4 H locs ls h hl hf; exact (ll4_z hf).elim
  | succ n ih => intro y1 y2 y3 y4 H locs ls h hl hf; exact LX5_lastOf_5 fx ih h hl (ll4_s hf)
def fX5_lastOf (v_wish : Nat → Int32) (x1 : Int32) (x2 : Int32) : Option (Int32 × Unit) :=
  ll4 (fX5_lastOf_5 v_wish) qF x1 x2 x1 0
set_option maxRecDepth 100000 in
set_option maxHeartbeats 4000000 in
theorem tX5_lastOf (l : Launch) (D : va_G) (cI cJ cZ cS : ClassId) (tb : Nat) (a_t a_s a_keptS a_statuses a_pile a_tape a_steps a_wish a_mark a_bitsOf a_sizeOf a_number a_moved : Nat) (sz : Nat) (v_isKept : Int32) (v_taped : Int32) (v_at : Int32) (v_fault : Int32) (v_laid : Int32) (v_open : Int32) (v_wish : Nat → Int32) (x1 : Int32) (x2 : Int32) (rr : Int32) (kk' : Unit) (hf : fX5_lastOf v_wish x1 x2 = some (rr, kk')) : Met l yX5_lastOf (Cond.code yX5_lastOf cX5_lastOf 5 (some .int) :: wA) rX5_lastOf (q_Pre D cI cJ cZ cS tb [.ref a_t, .int x1, .int x2] sz (wX5_lastOf cI cJ cZ cS a_t a_s a_keptS a_statuses a_pile a_tape a_steps a_wish a_mark a_bitsOf a_sizeOf a_number a_moved v_isKept v_taped v_at v_fault v_laid v_open v_wish)) (q_Ri D rr (va_A (wX5_lastOf cI cJ cZ cS a_t a_s a_keptS a_statuses a_pile a_tape a_steps a_wish a_mark a_bitsOf a_sizeOf a_number a_moved v_isKept v_taped v_at v_fault v_laid v_open v_wish) sz) ((fun k : Unit => (wX5_lastOf cI cJ cZ cS a_t a_s a_keptS a_statuses a_pile a_tape a_steps a_wish a_mark a_bitsOf a_sizeOf a_number a_moved v_isKept v_taped v_at v_fault v_laid v_open v_wish)) kk')) 0 0 (va_A (wX5_lastOf cI cJ cZ cS a_t a_s a_keptS a_statuses a_pile a_tape a_steps a_wish a_mark a_bitsOf a_sizeOf a_number a_moved v_isKept v_taped v_at v_fault v_laid v_open v_wish) sz) := by
  refine q_enter (Qf := fun A => (q_Ri D rr A ((fun k : Unit => (wX5_lastOf cI cJ cZ cS a_t a_s a_keptS a_statuses a_pile a_tape a_steps a_wish a_mark a_bitsOf a_sizeOf a_number a_moved v_isKept v_taped v_at v_fault v_laid v_open v_wish)) kk'))) (by decide) rfl (Nat.le_of_ble_eq_true rfl) ?_
  intro p e s m below meth c A ls fx hname h hl
  have hx := fx.1
  have hb := fx.2.1
  have hl : lv_has ls 5 [(0, .ref a_t), (1, .int x1), (2, .int x2)] := hl
  generalize h9 : s.heap = H at h ⊢
  clear h9
  generalize h9 : ([] : List Loc) = locs at h ⊢
  clear h9
  unfold fX5_lastOf at hf
  refine lv_iload_n hx hb dX5_lastOf_0 rfl (lv_at hl 1 rfl) ?_
  refine lv_istore_n (lv' := [(3, .int x1), (0, .ref a_t), (1, .int x1), (2, .int x2)]) hx hb dX5_lastOf_1 rfl hl (by decide) rfl (fun ls hl => ?_)
  refine lv_iconst (v := 0) hx hb dX5_lastOf_2 (by decide) ?_
  refine lv_istore (lv' := [(4, .int 0), (3, .int x1), (0, .ref a_t), (1, .int x1), (2, .int x2)]) hx hb dX5_lastOf_3 hl (by decide) rfl (fun ls hl => ?_)
  exact EX5_lastOf_5 fx qF h (lv_sub hl [2, 3, 4, 1, 0] rfl) hf
/-! X5_last -/
abbrev wX5_last (cI cJ cZ cS : ClassId) (a_t a_s a_keptS a_statuses a_pile a_tape a_steps a_wish a_mark a_bitsOf a_sizeOf a_number a_moved : Nat) (v_isKept : Int32) (v_taped : Int32) (v_at : Int32) (v_fault : Int32) (v_laid : Int32) (v_open : Int32) (v_s : Nat → Int32) (v_statuses : Nat → Int32) (v_pile : Nat → Int32) (v_wish : Nat → Int32) : va_W := [(a_t, .inr (5, [.ref a_s, .ref a_keptS, .ref a_statuses, .int v_isKept, .ref a_pile, .ref a_tape, .ref a_steps, .int v_taped, .int v_at, .int v_fault, .int v_laid, .int v_open, .ref a_wish, .ref a_mark, .ref a_bitsOf, .ref a_sizeOf, .ref a_number, .ref a_moved])), (a_s, .inl (cI, 538, .inl v_s)), (a_statuses, .inl (cI, 7, .inl v_statuses)), (a_pile, .inl (cZ, 64, .inl v_pile)), (a_wish, .inl (cI, 256, .inl v_wish))]
abbrev rX5_last : Room := { frames := 6, cells := 0, slots := 0, locals := 137 }
def fX5_last (v_s : Nat → Int32) (v_statuses : Nat → Int32) (v_pile : Nat → Int32) (v_wish : Nat → Int32) (x1 : Int32) : Option (Int32 × (Nat → Int32) × (Nat → Int32) × (Nat → Int32)) :=
  bR (fX5_isList v_s (x1.toInt64)) (fun r1 k1 =>
  (if r1 = 0 then (
  bR (fX5_finds v_statuses (-1000000001)) (fun r5 k5 =>
  some (r5, (k5, v_pile, v_wish))))
  else (
  bV (fX5_looksAll v_s v_pile v_wish) (fun k3 =>
  bR (fX5_lastOf k3.2 x1 255) (fun r4 k4 =>
  some (r4, (v_statuses, k3.1, k3.2)))))))
set_option maxRecDepth 100000 in
set_option maxHeartbeats 4000000 in
theorem tX5_last (l : Launch) (D : va_G) (cI cJ cZ cS : ClassId) (tb : Nat) (a_t a_s a_keptS a_statuses a_pile a_tape a_steps a_wish a_mark a_bitsOf a_sizeOf a_number a_moved : Nat) (sz : Nat) (v_isKept : Int32) (v_taped : Int32) (v_at : Int32) (v_fault : Int32) (v_laid : Int32) (v_open : Int32) (v_s : Nat → Int32) (v_statuses : Nat → Int32) (v_pile : Nat → Int32) (v_wish : Nat → Int32) (x1 : Int32) (rr : Int32) (kk' : (Nat → Int32) × (Nat → Int32) × (Nat → Int32)) (hf : fX5_last v_s v_statuses v_pile v_wish x1 = some (rr, kk')) : Met l yX5_last (Cond.code yX5_last cX5_last 2 (some .int) :: wA) rX5_last (q_Pre D cI cJ cZ cS tb [.ref a_t, .int x1] sz (wX5_last cI cJ cZ cS a_t a_s a_keptS a_statuses a_pile a_tape a_steps a_wish a_mark a_bitsOf a_sizeOf a_number a_moved v_isKept v_taped v_at v_fault v_laid v_open v_s v_statuses v_pile v_wish)) (q_Ri D rr (va_A (wX5_last cI cJ cZ cS a_t a_s a_keptS a_statuses a_pile a_tape a_steps a_wish a_mark a_bitsOf a_sizeOf a_number a_moved v_isKept v_taped v_at v_fault v_laid v_open v_s v_statuses v_pile v_wish) sz) ((fun k : (Nat → Int32) × (Nat → Int32) × (Nat → Int32) => (wX5_last cI cJ cZ cS a_t a_s a_keptS a_statuses a_pile a_tape a_steps a_wish a_mark a_bitsOf a_sizeOf a_number a_moved v_isKept v_taped v_at v_fault v_laid v_open v_s k.1 k.2.1 k.2.2)) kk')) 0 0 (va_A (wX5_last cI cJ cZ cS a_t a_s a_keptS a_statuses a_pile a_tape a_steps a_wish a_mark a_bitsOf a_sizeOf a_number a_moved v_isKept v_taped v_at v_fault v_laid v_open v_s v_statuses v_pile v_wish) sz) := by
  refine q_enter (Qf := fun A => (q_Ri D rr A ((fun k : (Nat → Int32) × (Nat → Int32) × (Nat → Int32) => (wX5_last cI cJ cZ cS a_t a_s a_keptS a_statuses a_pile a_tape a_steps a_wish a_mark a_bitsOf a_sizeOf a_number a_moved v_isKept v_taped v_at v_fault v_laid v_open v_s k.1 k.2.1 k.2.2)) kk'))) (by decide) rfl (Nat.le_of_ble_eq_true rfl) ?_
  intro p e s m below meth c A ls fx hname h hl
  have hx := fx.1
  have hb := fx.2.1
  have hl : lv_has ls 2 [(0, .ref a_t), (1, .int x1)] := hl
  generalize h9 : s.heap = H at h ⊢
  clear h9
  generalize h9 : ([] : List Loc) = locs at h ⊢
  clear h9
  unfold fX5_last at hf
  refine lv_aload_n hx hb dX5_last_0 rfl (lv_at hl 0 rfl) ?_
  refine lv_iload_n hx hb dX5_last_1 rfl (lv_at hl 1 rfl) ?_
  refine lv_i2l hx hb dX5_last_2 rfl ?_
  obtain ⟨r1, k1, hg, hf⟩ := bR_inv hf
  refine q_ci (rest := []) (ws' := (wX5_last cI cJ cZ cS a_t a_s a_keptS a_statuses a_pile a_tape a_steps a_wish a_mark a_bitsOf a_sizeOf a_number a_moved v_isKept v_taped v_at v_fault v_laid v_open v_s v_statuses v_pile v_wish)) (w1 := (wX5_isList cI cJ cZ cS a_t a_s a_keptS a_statuses a_pile a_tape a_steps a_wish a_mark a_bitsOf a_sizeOf a_number a_moved v_isKept v_taped v_at v_fault v_laid v_open v_s)) fx h [0, 1] rfl rfl rfl rfl (q_runV fx h hl.1 [0, 1] rfl rfl (tX5_isList l D cI cJ cZ cS tb a_t a_s a_keptS a_statuses a_pile a_tape a_steps a_wish a_mark a_bitsOf a_sizeOf a_number a_moved H.size v_isKept v_taped v_at v_fault v_laid v_open v_s (x1.toInt64) r1 k1 hg) mvX5_isList k_806 ⟨rfl, rfl⟩ ⟨Nat.le_of_ble_eq_true rfl, Nat.le_of_ble_eq_true rfl⟩ rfl rfl rfl rfl (Nat.le_of_ble_eq_true rfl) dX5_last_3 ⟨Nat.le_of_ble_eq_true rfl, Nat.le_of_ble_eq_true rfl⟩) (fun H locs h => ?_)
  refine lv_if_ne (tgt := 16) hx hb dX5_last_6 (by decide) (fun c2 => ?_) (fun c2 => ?_)
  · have hf := it_f c2 hf
    refine lv_aload_n hx hb dX5_last_16 rfl (lv_at hl 0 rfl) ?_
    obtain ⟨k3, hg, hf⟩ := bV_inv hf
    refine q_cv (rest := []) (ws' := (wX5_last cI cJ cZ cS a_t a_s a_keptS a_statuses a_pile a_tape a_steps a_wish a_mark a_bitsOf a_sizeOf a_number a_moved v_isKept v_taped v_at v_fault v_laid v_open v_s v_statuses k3.1 k3.2)) (w1 := (wX5_looksAll cI cJ cZ cS a_t a_s a_keptS a_statuses a_pile a_tape a_steps a_wish a_mark a_bitsOf a_sizeOf a_number a_moved v_isKept v_taped v_at v_fault v_laid v_open v_s k3.1 k3.2)) fx h [0, 1, 3, 4] rfl rfl rfl rfl (q_runV fx h hl.1 [0, 1, 3, 4] rfl rfl (tX5_looksAll l D cI cJ cZ cS tb a_t a_s a_keptS a_statuses a_pile a_tape a_steps a_wish a_mark a_bitsOf a_sizeOf a_number a_moved H.size v_isKept v_taped v_at v_fault v_laid v_open v_s v_pile v_wish k3 hg) mvX5_looksAll k_860 ⟨rfl, rfl⟩ ⟨Nat.le_of_ble_eq_true rfl, Nat.le_of_ble_eq_true rfl⟩ rfl rfl rfl rfl (Nat.le_of_ble_eq_true rfl) dX5_last_17 ⟨Nat.le_of_ble_eq_true rfl, Nat.le_of_ble_eq_true rfl⟩) (fun H locs h => ?_)
    refine lv_aload_n hx hb dX5_last_20 rfl (lv_at hl 0 rfl) ?_
    refine lv_iload_n hx hb dX5_last_21 rfl (lv_at hl 1 rfl) ?_
    refine lv_sipush (v := 255) hx hb dX5_last_22 (by decide) ?_
    obtain ⟨r4, k4, hg, hf⟩ := bR_inv hf
    refine q_ci (rest := []) (ws' := (wX5_last cI cJ cZ cS a_t a_s a_keptS a_statuses a_pile a_tape a_steps a_wish a_mark a_bitsOf a_sizeOf a_number a_moved v_isKept v_taped v_at v_fault v_laid v_open v_s v_statuses k3.1 k3.2)) (w1 := (wX5_lastOf cI cJ cZ cS a_t a_s a_keptS a_statuses a_pile a_tape a_steps a_wish a_mark a_bitsOf a_sizeOf a_number a_moved v_isKept v_taped v_at v_fault v_laid v_open k3.2)) fx h [0, 4] rfl rfl rfl rfl (q_runV fx h hl.1 [0, 4] rfl rfl (tX5_lastOf l D cI cJ cZ cS tb a_t a_s a_keptS a_statuses a_pile a_tape a_steps a_wish a_mark a_bitsOf a_sizeOf a_number a_moved H.size v_isKept v_taped v_at v_fault v_laid v_open k3.2 x1 255 r4 k4 hg) mvX5_lastOf k_918 ⟨rfl, rfl⟩ ⟨Nat.le_of_ble_eq_true rfl, Nat.le_of_ble_eq_true rfl⟩ rfl rfl rfl rfl (Nat.le_of_ble_eq_true rfl) dX5_last_25 ⟨Nat.le_of_ble_eq_true rfl, Nat.le_of_ble_eq_true rfl⟩) (fun H locs h => ?_)
    exact q_reti (fun k : (Nat → Int32) × (Nat → Int32) × (Nat → Int32) => (wX5_last cI cJ cZ cS a_t a_s a_keptS a_statuses a_pile a_tape a_steps a_wish a_mark a_bitsOf a_sizeOf a_number a_moved v_isKept v_taped v_at v_fault v_laid v_open v_s k.1 k.2.1 k.2.2)) fx hf h dX5_last_28
  have hf := it_t c2 hf
  refine lv_aload_n hx hb dX5_last_9 rfl (lv_at hl 0 rfl) ?_
  refine q_ldc fx k_701 dX5_last_10 ?_
  obtain ⟨r5, k5, hg, hf⟩ := bR_inv hf
  refine q_ci (rest := []) (ws' := (wX5_last cI cJ cZ cS a_t a_s a_keptS a_statuses a_pile a_tape a_steps a_wish a_mark a_bitsOf a_sizeOf a_number a_moved v_isKept v_taped v_at v_fault v_laid v_open v_s k5 v_pile v_wish)) (w1 := (wX5_finds cI cJ cZ cS a_t a_s a_keptS a_statuses a_pile a_tape a_steps a_wish a_mark a_bitsOf a_sizeOf a_number a_moved v_isKept v_taped v_at v_fault v_laid v_open k5)) fx h [0, 2] rfl rfl rfl rfl (q_runV fx h hl.1 [0, 2] rfl rfl (tX5_finds l D cI cJ cZ cS tb a_t a_s a_keptS a_statuses a_pile a_tape a_steps a_wish a_mark a_bitsOf a_sizeOf a_number a_moved H.size v_isKept v_taped v_at v_fault v_laid v_open v_statuses (-1000000001) r5 k5 hg) mvX5_finds k_702 ⟨rfl, rfl⟩ ⟨Nat.le_of_ble_eq_true rfl, Nat.le_of_ble_eq_true rfl⟩ rfl rfl rfl rfl (Nat.le_of_ble_eq_true rfl) dX5_last_12 ⟨Nat.le_of_ble_eq_true rfl, Nat.le_of_ble_eq_true rfl⟩) (fun H locs h => ?_)
  exact q_reti (fun k : (Nat → Int32) × (Nat → Int32) × (Nat → Int32) => (wX5_last cI cJ cZ cS a_t a_s a_keptS a_statuses a_pile a_tape a_steps a_wish a_mark a_bitsOf a_sizeOf a_number a_moved v_isKept v_taped v_at v_fault v_laid v_open v_s k.1 k.2.1 k.2.2)) fx hf h dX5_last_15
