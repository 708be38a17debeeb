/-! X5_ring -/
abbrev wX5_ring (cI cJ cZ cS : ClassId) (a_t a_s a_keptS a_statuses a_pile a_tape a_steps a_wish a_mark a_bitsOf a_sizeOf a_number a_moved : Nat) (v_isKept : Int32) (v_taped : Int32) (v_at : Int32) (v_fault : Int32) (v_laid : Int32) (v_open : Int32) (v_s : Nat → Int32) (v_statuses : Nat → Int32) (v_pile : Nat → Int32) (v_wish : Nat → Int32) (v_mark : Nat → Int32) : va_W := [(a_t, .inr (5, [.ref a_s, .ref a_keptS, .ref a_statuses, .int v_isKept, .ref a_pile, .ref a_tape, .ref a_steps, .int v_taped, .int v_at, .int v_fault, .int v_laid, .int v_open, .ref a_wish, .ref a_mark, .ref a_bitsOf, .ref a_sizeOf, .ref a_number, .ref a_moved])), (a_s, .inl (cI, 538, .inl v_s)), (a_statuses, .inl (cI, 7, .inl v_statuses)), (a_pile, .inl (cZ, 64, .inl v_pile)), (a_wish, .inl (cI, 256, .inl v_wish)), (a_mark, .inl (cI, 256, .inl v_mark))]
abbrev rX5_ring : Room := { frames := 6, cells := 0, slots := 0, locals := 137 }
def fX5_ring_52 (v_s : Nat → Int32) (ag52 : (Nat → Int32) → (Nat → Int32) → (Nat → Int32) → (Nat → Int32) → Int32 → Int32 → Int32 → Option (Int32 × (Nat → Int32) × (Nat → Int32) × (Nat → Int32) × (Nat → Int32))) (v_statuses : Nat → Int32) (v_pile : Nat → Int32) (v_wish : Nat → Int32) (v_mark : Nat → Int32) (y1 : Int32) (y2 : Int32) (y3 : Int32) : Option (Int32 × (Nat → Int32) × (Nat → Int32) × (Nat → Int32) × (Nat → Int32)) :=
  gIn y2 256 (
  (if (0 : Int32) ≤ (v_mark y2.toNatClampNeg) then (
  (if y1 = 0 then (
  gIn y2 256 (
  some (v_mark y2.toNatClampNeg, (v_statuses, v_pile, v_wish, v_mark))))
  else (
  gIn y2 256 (
  some (y3 - (v_mark y2.toNatClampNeg), (v_statuses, v_pile, v_wish, v_mark))))))
  else (
  gIn y2 256 (
  gIn y2 256 (
  nm (v_wish y2.toNatClampNeg) (fun u8 =>
  nm (y3 + 1) (fun u9 =>
  ag52 v_statuses v_pile v_wish (upd v_mark y2.toNatClampNeg y3) y1 u8 u9)))))))
set_option maxRecDepth 100000 in
set_option maxHeartbeats 4000000 in
theorem LX5_ring_52 {p : Program} {l : Launch} {e : Env} {s : State} {m : MethodId} {args : Array Value} {below : List Frame} {meth : Method} {c : Code} {D : va_G} {cI cJ cZ cS : ClassId} {tb : Nat} {A : Nat → Prop} {a_t a_s a_keptS a_statuses a_pile a_tape a_steps a_wish a_mark a_bitsOf a_sizeOf a_number a_moved : Nat} {v_isKept : Int32} {v_taped : Int32} {v_at : Int32} {v_fault : Int32} {v_laid : Int32} {v_open : Int32} {v_s : Nat → Int32} {rr : Int32} {kk' : (Nat → Int32) × (Nat → Int32) × (Nat → Int32) × (Nat → Int32)} (fx : q_Fx p s m args meth c cX5_ring 4 RX5 (some .int) D cI cJ cZ cS tb A) {ag52 : (Nat → Int32) → (Nat → Int32) → (Nat → Int32) → (Nat → Int32) → Int32 → Int32 → Int32 → Option (Int32 × (Nat → Int32) × (Nat → Int32) × (Nat → Int32) × (Nat → Int32))} (hag52 : ∀ {v_statuses : Nat → Int32} {v_pile : Nat → Int32} {v_wish : Nat → Int32} {v_mark : Nat → Int32} {y1 : Int32} {y2 : Int32} {y3 : Int32} {H : Heap} {locs : List Loc} {ls : Array Slot}, q_H D A s (wX5_ring cI cJ cZ cS a_t a_s a_keptS a_statuses a_pile a_tape a_steps a_wish a_mark a_bitsOf a_sizeOf a_number a_moved v_isKept v_taped v_at v_fault v_laid v_open v_s v_statuses v_pile v_wish v_mark) H locs → lv_has ls 4 [(0, .ref a_t), (1, .int y1), (2, .int y2), (3, .int y3)] → ag52 v_statuses v_pile v_wish v_mark y1 y2 y3 = some (rr, kk') → W p l e rX5_ring s m args below meth c H locs 0 0 (MQ below (q_Ri D rr A ((fun k : (Nat → Int32) × (Nat → Int32) × (Nat → Int32) × (Nat → Int32) => (wX5_ring cI cJ cZ cS a_t a_s a_keptS a_statuses a_pile a_tape a_steps a_wish a_mark a_bitsOf a_sizeOf a_number a_moved v_isKept v_taped v_at v_fault v_laid v_open v_s k.1 k.2.1 k.2.2.1 k.2.2.2)) kk')) args s 0 0 A) (F0 m 52 ls [])) : ∀ {v_statuses : Nat → Int32} {v_pile : Nat → Int32} {v_wish : Nat → Int32} {v_mark : Nat → Int32} {y1 : Int32} {y2 : Int32} {y3 : Int32} {H : Heap} {locs : List Loc} {ls : Array Slot}, q_H D A s (wX5_ring cI cJ cZ cS a_t a_s a_keptS a_statuses a_pile a_tape a_steps a_wish a_mark a_bitsOf a_sizeOf a_number a_moved v_isKept v_taped v_at v_fault v_laid v_open v_s v_statuses v_pile v_wish v_mark) H locs → lv_has ls 4 [(0, .ref a_t), (1, .int y1), (2, .int y2), (3, .int y3)] → fX5_ring_52 v_s ag52 v_statuses v_pile v_wish v_mark y1 y2 y3 = some (rr, kk') → W p l e rX5_ring s m args below meth c H locs 0 0 (MQ below (q_Ri D rr A ((fun k : (Nat → Int32) × (Nat → Int32) × (Nat → Int32) × (Nat → Int32) => (wX5_ring cI cJ cZ cS a_t a_s a_keptS a_statuses a_pile a_tape a_steps a_wish a_mark a_bitsOf a_sizeOf a_number a_moved v_isKept v_taped v_at v_fault v_laid v_open v_s k.1 k.2.1 k.2.2.1 k.2.2.2)) kk')) args s 0 0 A) (F0 m 52 ls []) := by
  intro v_statuses v_pile v_wish v_mark y1 y2 y3 H locs ls h hl hf
  have hx := fx.1
  have hb := fx.2.1
  unfold fX5_ring_52 at hf
  refine lv_aload_n hx hb dX5_ring_52 rfl (lv_at hl 0 rfl) ?_
  refine q_get (v := .ref a_mark) fx inX5 h 0 rfl rfl 13 (by decide) k_649 rfl dX5_ring_53 ?_
  refine lv_iload_n hx hb dX5_ring_56 rfl (lv_at hl 2 rfl) ?_
  obtain ⟨i1, hf⟩ := gIn_inv hf
  refine q_iald fx h 5 rfl i1 dX5_ring_57 ?_
  refine lv_if_ge (tgt := 81) hx hb dX5_ring_58 (by decide) (fun c2 => ?_) (fun c2 => ?_)
  · have hf := it_t c2 hf
    refine lv_iload_n hx hb dX5_ring_81 rfl (lv_at hl 1 rfl) ?_
    refine lv_if_ne (tgt := 94) hx hb dX5_ring_82 (by decide) (fun c3 => ?_) (fun c3 => ?_)
    · have hf := it_f c3 hf
      refine lv_iload_n hx hb dX5_ring_94 rfl (lv_at hl 3 rfl) ?_
      refine lv_aload_n hx hb dX5_ring_95 rfl (lv_at hl 0 rfl) ?_
      refine q_get (v := .ref a_mark) fx inX5 h 0 rfl rfl 13 (by decide) k_649 rfl dX5_ring_96 ?_
      refine lv_iload_n hx hb dX5_ring_99 rfl (lv_at hl 2 rfl) ?_
      obtain ⟨i4, hf⟩ := gIn_inv hf
      refine q_iald fx h 5 rfl i4 dX5_ring_100 ?_
      refine lv_isub hx hb dX5_ring_101 ?_
      exact q_reti (fun k : (Nat → Int32) × (Nat → Int32) × (Nat → Int32) × (Nat → Int32) => (wX5_ring cI cJ cZ cS a_t a_s a_keptS a_statuses a_pile a_tape a_steps a_wish a_mark a_bitsOf a_sizeOf a_number a_moved v_isKept v_taped v_at v_fault v_laid v_open v_s k.1 k.2.1 k.2.2.1 k.2.2.2)) fx hf h dX5_ring_102
    have hf := it_t c3 hf
    refine lv_aload_n hx hb dX5_ring_85 rfl (lv_at hl 0 rfl) ?_
    refine q_get (v := .ref a_mark) fx inX5 h 0 rfl rfl 13 (by decide) k_649 rfl dX5_ring_86 ?_
    refine lv_iload_n hx hb dX5_ring_89 rfl (lv_at hl 2 rfl) ?_
    obtain ⟨i5, hf⟩ := gIn_inv hf
    refine q_iald fx h 5 rfl i5 dX5_ring_90 ?_
    refine lv_goto (tgt := 102) hx hb dX5_ring_91 (by decide) ?_
    exact q_reti (fun k : (Nat → Int32) × (Nat → Int32) × (Nat → Int32) × (Nat → Int32) => (wX5_ring cI cJ cZ cS a_t a_s a_keptS a_statuses a_pile a_tape a_steps a_wish a_mark a_bitsOf a_sizeOf a_number a_moved v_isKept v_taped v_at v_fault v_laid v_open v_s k.1 k.2.1 k.2.2.1 k.2.2.2)) fx hf h dX5_ring_102
  have hf := it_f c2 hf
  refine lv_aload_n hx hb dX5_ring_61 rfl (lv_at hl 0 rfl) ?_
  refine q_get (v := .ref a_mark) fx inX5 h 0 rfl rfl 13 (by decide) k_649 rfl dX5_ring_62 ?_
  refine lv_iload_n hx hb dX5_ring_65 rfl (lv_at hl 2 rfl) ?_
  refine lv_iload_n hx hb dX5_ring_66 rfl (lv_at hl 3 rfl) ?_
  obtain ⟨i6, hf⟩ := gIn_inv hf
  refine q_iast (ws' := (wX5_ring cI cJ cZ cS a_t a_s a_keptS a_statuses a_pile a_tape a_steps a_wish a_mark a_bitsOf a_sizeOf a_number a_moved v_isKept v_taped v_at v_fault v_laid v_open v_s v_statuses v_pile v_wish (upd v_mark y2.toNatClampNeg y3))) fx h 5 rfl i6 rfl dX5_ring_67 (fun H locs h => ?_)
  refine lv_aload_n hx hb dX5_ring_68 rfl (lv_at hl 0 rfl) ?_
  refine q_get (v := .ref a_wish) fx inX5 h 0 rfl rfl 12 (by decide) k_648 rfl dX5_ring_69 ?_
  refine lv_iload_n hx hb dX5_ring_72 rfl (lv_at hl 2 rfl) ?_
  obtain ⟨i7, hf⟩ := gIn_inv hf
  refine q_iald fx h 4 rfl i7 dX5_ring_73 ?_
  obtain ⟨u8, eu8, hf⟩ := nm_inv hf
  refine lv_eqi eu8 ?_
  refine lv_istore_n (lv' := [(2, .int u8), (0, .ref a_t), (1, .int y1), (3, .int y3)]) hx hb dX5_ring_74 rfl hl (by decide) rfl (fun ls hl => ?_)
  obtain ⟨u9, eu9, hf⟩ := nm_inv hf
  refine lv_iinc (v := u9) (lv' := [(3, .int u9), (2, .int u8), (0, .ref a_t), (1, .int y1)]) hx hb dX5_ring_75 hl (k := 3) rfl (by rw [eu9]; rfl) (by decide) rfl (fun ls hl => ?_)
  refine lv_goto (tgt := 52) hx hb dX5_ring_78 (by decide) ?_
  exact hag52 h (lv_sub hl [2, 3, 1, 0] rfl) hf
set_option maxRecDepth 100000 in
theorem EX5_ring_52 {p : Program} {l : Launch} {e : Env} {s : State} {m : MethodId} {args : Array Value} {below : List Frame} {meth : Method} {c : Code} {D : va_G} {cI cJ cZ cS : ClassId} {tb : Nat} {A : Nat → Prop} {a_t a_s a_keptS a_statuses a_pile a_tape a_steps a_wish a_mark a_bitsOf a_sizeOf a_number a_moved : Nat} {v_isKept : Int32} {v_taped : Int32} {v_at : Int32} {v_fault : Int32} {v_laid : Int32} {v_open : Int32} {v_s : Nat → Int32} {rr : Int32} {kk' : (Nat → Int32) × (Nat → Int32) × (Nat → Int32) × (Nat → Int32)} (fx : q_Fx p s m args meth c cX5_ring 4 RX5 (some .int) D cI cJ cZ cS tb A) : ∀ (n : Nat), ∀ {v_statuses : Nat → Int32} {v_pile : Nat → Int32} {v_wish : Nat → Int32} {v_mark : Nat → Int32} {y1 : Int32} {y2 : Int32} {y3 : Int32} {H : Heap} {locs : List Loc} {ls : Array Slot}, q_H D A s (wX5_ring cI cJ cZ cS a_t a_s a_keptS a_statuses a_pile a_tape a_steps a_wish a_mark a_bitsOf a_sizeOf a_number a_moved v_isKept v_taped v_at v_fault v_laid v_open v_s v_statuses v_pile v_wish v_mark) H locs → lv_has ls 4 [(0, .ref a_t), (1, .int y1), (2, .int y2), (3, .int y3)] → ll7 (fX5_ring_52 v_s) n v_statuses v_pile v_wish v_mark y1 y2 y3 = some (rr, kk') → W p l e rX5_ring s m args below meth c H locs 0 0 (MQ below (q_Ri D rr A ((fun k : (Nat → Int32) × (Nat → Int32) × (Nat → Int32) × (Nat → Int32) => (wX5_ring cI cJ cZ cS a_t a_s a_keptS a_statuses a_pile a_tape a_steps a_wish a_mark a_bitsOf a_sizeOf a_number a_moved v_isKept v_taped v_at v_fault v_laid v_open v_s k.1 k.2.1 k.2.2.1 k.2.2.2)) kk')) args s 0 0 A) (F0 m 52 ls []) := by
  intro n
  induction n with
  | zero => intro v_statuses v_pile v_wish v_mark y1 y2 y3 H locs ls h hl hf; exact (ll7_z hf).elim
  | succ n ih => intro v_statuses v_pile v_wish v_mark y1 y2 y3 H locs ls h hl hf; exact LX5_ring_52 fx ih h hl (ll7_s hf)
def fX5_ring_23 (v_s : Nat → Int32) (ag23 : (Nat → Int32) → (Nat → Int32) → (Nat → Int32) → (Nat → Int32) → Int32 → Int32 → Option (Int32 × (Nat → Int32) × (Nat → Int32) × (Nat → Int32) × (Nat → Int32))) (v_statuses : Nat → Int32) (v_pile : Nat → Int32) (v_wish : Nat → Int32) (v_mark : Nat → Int32) (y1 : Int32) (y2 : Int32) : Option (Int32 × (Nat → Int32) × (Nat → Int32) × (Nat → Int32) × (Nat → Int32)) :=
  (if (256 : Int32) ≤ y2 then (
  nm (v_s 1) (fun u11 =>
  ll7 (fX5_ring_52 v_s) qF v_statuses v_pile v_wish v_mark y1 u11 0))
  else (
  gIn y2 256 (
  nm (y2 + 1) (fun u13 =>
  ag23 v_statuses v_pile v_wish (upd v_mark y2.toNatClampNeg (-1)) y1 u13))))
set_option maxRecDepth 100000 in
set_option maxHeartbeats 4000000 in
theorem LX5_ring_23 {p : Program} {l : Launch} {e : Env} {s : State} {m : MethodId} {args : Array Value} {below : List Frame} {meth : Method} {c : Code} {D : va_G} {cI cJ cZ cS : ClassId} {tb : Nat} {A : Nat → Prop} {a_t a_s a_keptS a_statuses a_pile a_tape a_steps a_wish a_mark a_bitsOf a_sizeOf a_number a_moved : Nat} {v_isKept : Int32} {v_taped : Int32} {v_at : Int32} {v_fault : Int32} {v_laid : Int32} {v_open : Int32} {v_s : Nat → Int32} {rr : Int32} {kk' : (Nat → Int32) × (Nat → Int32) × (Nat → Int32) × (Nat → Int32)} (fx : q_Fx p s m args meth c cX5_ring 4 RX5 (some .int) D cI cJ cZ cS tb A) {ag23 : (Nat → Int32) → (Nat → Int32) → (Nat → Int32) → (Nat → Int32) → Int32 → Int32 → Option (Int32 × (Nat → Int32) × (Nat → Int32) × (Nat → Int32) × (Nat → Int32))} (hag23 : ∀ {v_statuses : Nat → Int32} {v_pile : Nat → Int32} {v_wish : Nat → Int32} {v_mark : Nat → Int32} {y1 : Int32} {y2 : Int32} {H : Heap} {locs : List Loc} {ls : Array Slot}, q_H D A s (wX5_ring cI cJ cZ cS a_t a_s a_keptS a_statuses a_pile a_tape a_steps a_wish a_mark a_bitsOf a_sizeOf a_number a_moved v_isKept v_taped v_at v_fault v_laid v_open v_s v_statuses v_pile v_wish v_mark) H locs → lv_has ls 4 [(0, .ref a_t), (1, .int y1), (2, .int y2)] → ag23 v_statuses v_pile v_wish v_mark y1 y2 = some (rr, kk') → W p l e rX5_ring s m args below meth c H locs 0 0 (MQ below (q_Ri D rr A ((fun k : (Nat → Int32) × (Nat → Int32) × (Nat → Int32) × (Nat → Int32) => (wX5_ring cI cJ cZ cS a_t a_s a_keptS a_statuses a_pile a_tape a_steps a_wish a_mark a_bitsOf a_sizeOf a_number a_moved v_isKept v_taped v_at v_fault v_laid v_open v_s k.1 k.2.1 k.2.2.1 k.2.2.2)) kk')) args s 0 0 A) (F0 m 23 ls [])) : ∀ {v_statuses : Nat → Int32} {v_pile : Nat → Int32} {v_wish : Nat → Int32} {v_mark : Nat → Int32} {y1 : Int32} {y2 : Int32} {H : Heap} {locs : List Loc} {ls : Array Slot}, q_H D A s (wX5_ring cI cJ cZ cS a_t a_s a_keptS a_statuses a_pile a_tape a_steps a_wish a_mark a_bitsOf a_sizeOf a_number a_moved v_isKept v_taped v_at v_fault v_laid v_open v_s v_statuses v_pile v_wish v_mark) H locs → lv_has ls 4 [(0, .ref a_t), (1, .int y1), (2, .int y2)] → fX5_ring_23 v_s ag23 v_statuses v_pile v_wish v_mark y1 y2 = some (rr, kk') → W p l e rX5_ring s m args below meth c H locs 0 0 (MQ below (q_Ri D rr A ((fun k : (Nat → Int32) × (Nat → Int32) × (Nat → Int32) × (Nat → Int32) => (wX5_ring cI cJ cZ cS a_t a_s a_keptS a_statuses a_pile a_tape a_steps a_wish a_mark a_bitsOf a_sizeOf a_number a_moved v_isKept v_taped v_at v_fault v_laid v_open v_s k.1 k.2.1 k.2.2.1 k.2.2.2)) kk')) args s 0 0 A) (F0 m 23 ls []) := by
  intro v_statuses v_pile v_wish v_mark y1 y2 H locs ls h hl hf
  have hx := fx.1
  have hb := fx.2.1
  unfold fX5_ring_23 at hf
  refine lv_iload_n hx hb dX5_ring_23 rfl (lv_at hl 2 rfl) ?_
  refine lv_sipush (v := 256) hx hb dX5_ring_24 (by decide) ?_
  refine lv_icmp_ge (tgt := 43) hx hb dX5_ring_27 (by decide) (fun c10 => ?_) (fun c10 => ?_)
  · have hf := it_t c10 hf
    refine lv_aload_n hx hb dX5_ring_43 rfl (lv_at hl 0 rfl) ?_
    refine q_get (v := .ref a_s) fx inX5 h 0 rfl rfl 0 (by decide) k_636 rfl dX5_ring_44 ?_
    refine lv_iconst (v := 1) hx hb dX5_ring_47 (by decide) ?_
    refine q_ialdK fx h 1 rfl 1 (vinK (by decide)) (by decide) dX5_ring_48 ?_
    obtain ⟨u11, eu11, hf⟩ := nm_inv hf
    refine lv_eqi eu11 ?_
    refine lv_istore_n (lv' := [(2, .int u11), (0, .ref a_t), (1, .int y1)]) hx hb dX5_ring_49 rfl hl (by decide) rfl (fun ls hl => ?_)
    refine lv_iconst (v := 0) hx hb dX5_ring_50 (by decide) ?_
    refine lv_istore_n (lv' := [(3, .int 0), (2, .int u11), (0, .ref a_t), (1, .int y1)]) hx hb dX5_ring_51 rfl hl (by decide) rfl (fun ls hl => ?_)
    exact EX5_ring_52 fx qF h (lv_sub hl [2, 3, 1, 0] rfl) hf
  have hf := it_f c10 hf
  refine lv_aload_n hx hb dX5_ring_30 rfl (lv_at hl 0 rfl) ?_
  refine q_get (v := .ref a_mark) fx inX5 h 0 rfl rfl 13 (by decide) k_649 rfl dX5_ring_31 ?_
  refine lv_iload_n hx hb dX5_ring_34 rfl (lv_at hl 2 rfl) ?_
  refine lv_iconst (v := -1) hx hb dX5_ring_35 (by decide) ?_
  obtain ⟨i12, hf⟩ := gIn_inv hf
  refine q_iast (ws' := (wX5_ring cI cJ cZ cS a_t a_s a_keptS a_statuses a_pile a_tape a_steps a_wish a_mark a_bitsOf a_sizeOf a_number a_moved v_isKept v_taped v_at v_fault v_laid v_open v_s v_statuses v_pile v_wish (upd v_mark y2.toNatClampNeg (-1)))) fx h 5 rfl i12 rfl dX5_ring_36 (fun H locs h => ?_)
  obtain ⟨u13, eu13, hf⟩ := nm_inv hf
  refine lv_iinc (v := u13) (lv' := [(2, .int u13), (0, .ref a_t), (1, .int y1)]) hx hb dX5_ring_37 hl (k := 2) rfl (by rw [eu13]; rfl) (by decide) rfl (fun ls hl => ?_)
  refine lv_goto (tgt := 23) hx hb dX5_ring_40 (by decide) ?_
  exact hag23 h (lv_sub hl [1, 2, 0] rfl) hf
set_option maxRecDepth 100000 in
theorem EX5_ring_23 {p : Program} {l : Launch} {e : Env} {s : State} {m : MethodId} {args : Array Value} {below : List Frame} {meth : Method} {c : Code} {D : va_G} {cI cJ cZ cS : ClassId} {tb : Nat} {A : Nat → Prop} {a_t a_s a_keptS a_statuses a_pile a_tape a_steps a_wish a_mark a_bitsOf a_sizeOf a_number a_moved : Nat} {v_isKept : Int32} {v_taped : Int32} {v_at : Int32} {v_fault : Int32} {v_laid : Int32} {v_open : Int32} {v_s : Nat → Int32} {rr : Int32} {kk' : (Nat → Int32) × (Nat → Int32) × (Nat → Int32) × (Nat → Int32)} (fx : q_Fx p s m args meth c cX5_ring 4 RX5 (some .int) D cI cJ cZ cS tb A) : ∀ (n : Nat), ∀ {v_statuses : Nat → Int32} {v_pile : Nat → Int32} {v_wish : Nat → Int32} {v_mark : Nat → Int32} {y1 : Int32} {y2 : Int32} {H : Heap} {locs : List Loc} {ls : Array Slot}, q_H D A s (wX5_ring cI cJ cZ cS a_t a_s a_keptS a_statuses a_pile a_tape a_steps a_wish a_mark a_bitsOf a_sizeOf a_number a_moved v_isKept v_taped v_at v_fault v_laid v_open v_s v_statuses v_pile v_wish v_mark) H locs → lv_has ls 4 [(0, .ref a_t), (1, .int y1), (2, .int y2)] → ll6 (fX5_ring_23 v_s) n v_statuses v_pile v_wish v_mark y1 y2 = some (rr, kk') → W p l e rX5_ring s m args below meth c H locs 0 0 (MQ below (q_Ri D rr A ((fun k : (Nat → Int32) × (Nat → Int32) × (Nat → Int32) × (Nat → Int32) => (wX5_ring cI cJ cZ cS a_t a_s a_keptS a_statuses a_pile a_tape a_steps a_wish a_mark a_bitsOf a_sizeOf a_number a_moved v_isKept v_taped v_at v_fault v_laid v_open v_s k.1 k.2.1 k.2.2.1 k.2.2.2)) kk')) args s 0 0 A) (F0 m 23 ls []) := by
  intro n
  induction n with
  | zero => intro v_statuses v_pile v_wish v_mark y1 y2 H locs ls h hl hf; exact (ll6_z hf).elim
  | succ n ih => intro v_statuses v_pile v_wish v_mark y1 y2 H locs ls h hl hf; exact LX5_ring_23 fx ih h hl (ll6_s hf)
def fX5_ring (v_s : Nat → Int32) (v_statuses : Nat → Int32) (v_pile : Nat → Int32) (v_wish : Nat → Int32) (v_mark : Nat → Int32) (x1 : Int32) : Option (Int32 × (Nat → Int32) × (Nat → Int32) × (Nat → Int32) × (Nat → Int32)) :=
  bR (fX5_in (x1.toInt64) 0 1) (fun r14 k14 =>
  (if r14 = 0 then (
  bR (fX5_finds v_statuses (-1000000001)) (fun r17 k17 =>
  some (r17, (k17, v_pile, v_wish, v_mark))))
  else (
  bV (fX5_looksAll v_s v_pile v_wish) (fun k16 =>
  ll6 (fX5_ring_23 v_s) qF v_statuses k16.1 k16.2 v_mark x1 0))))
set_option maxRecDepth 100000 in
set_option maxHeartbeats 4000000 in
theorem tX5_ring (l : Launch) (D : va_G) (cI cJ cZ cS : ClassId) (tb : Nat) (a_t a_s a_keptS a_statuses a_pile a_tape a_steps a_wish a_mark a_bitsOf a_sizeOf a_number a_moved : Nat) (sz : Nat) (v_isKept : Int32) (v_taped : Int32) (v_at : Int32) (v_fault : Int32) (v_laid : Int32) (v_open : Int32) (v_s : Nat → Int32) (v_statuses : Nat → Int32) (v_pile : Nat → Int32) (v_wish : Nat → Int32) (v_mark : Nat → Int32) (x1 : Int32) (rr : Int32) (kk' : (Nat → Int32) × (Nat → Int32) × (Nat → Int32) × (Nat → Int32)) (hf : fX5_ring v_s v_statuses v_pile v_wish v_mark x1 = some (rr, kk')) : Met l yX5_ring (Cond.code yX5_ring cX5_ring 4 (some .int) :: wA) rX5_ring (q_Pre D cI cJ cZ cS tb [.ref a_t, .int x1] sz (wX5_ring cI cJ cZ cS a_t a_s a_keptS a_statuses a_pile a_tape a_steps a_wish a_mark a_bitsOf a_sizeOf a_number a_moved v_isKept v_taped v_at v_fault v_laid v_open v_s v_statuses v_pile v_wish v_mark)) (q_Ri D rr (va_A (wX5_ring cI cJ cZ cS a_t a_s a_keptS a_statuses a_pile a_tape a_steps a_wish a_mark a_bitsOf a_sizeOf a_number a_moved v_isKept v_taped v_at v_fault v_laid v_open v_s v_statuses v_pile v_wish v_mark) sz) ((fun k : (Nat → Int32) × (Nat → Int32) × (Nat → Int32) × (Nat → Int32) => (wX5_ring cI cJ cZ cS a_t a_s a_keptS a_statuses a_pile a_tape a_steps a_wish a_mark a_bitsOf a_sizeOf a_number a_moved v_isKept v_taped v_at v_fault v_laid v_open v_s k.1 k.2.1 k.2.2.1 k.2.2.2)) kk')) 0 0 (va_A (wX5_ring cI cJ cZ cS a_t a_s a_keptS a_statuses a_pile a_tape a_steps a_wish a_mark a_bitsOf a_sizeOf a_number a_moved v_isKept v_taped v_at v_fault v_laid v_open v_s v_statuses v_pile v_wish v_mark) sz) := by
  refine q_enter (Qf := fun A => (q_Ri D rr A ((fun k : (Nat → Int32) × (Nat → Int32) × (Nat → Int32) × (Nat → Int32) => (wX5_ring cI cJ cZ cS a_t a_s a_keptS a_statuses a_pile a_tape a_steps a_wish a_mark a_bitsOf a_sizeOf a_number a_moved v_isKept v_taped v_at v_fault v_laid v_open v_s k.1 k.2.1 k.2.2.1 k.2.2.2)) kk'))) (by decide) rfl (Nat.le_of_ble_eq_true rfl) ?_
  intro p e s m below meth c A ls fx hname h hl
  have hx := fx.1
  have hb := fx.2.1
  have hl : lv_has ls 4 [(0, .ref a_t), (1, .int x1)] := hl
  generalize h9 : s.heap = H at h ⊢
  clear h9
  generalize h9 : ([] : List Loc) = locs at h ⊢
  clear h9
  unfold fX5_ring at hf
  refine lv_iload_n hx hb dX5_ring_0 rfl (lv_at hl 1 rfl) ?_
  refine lv_i2l hx hb dX5_ring_1 rfl ?_
  refine lv_lconst (v := 0) hx hb dX5_ring_2 (by decide) ?_
  refine lv_lconst (v := 1) hx hb dX5_ring_3 (by decide) ?_
  obtain ⟨r14, k14, hg, hf⟩ := bR_inv hf
  refine q_ci (rest := []) (ws' := (wX5_ring cI cJ cZ cS a_t a_s a_keptS a_statuses a_pile a_tape a_steps a_wish a_mark a_bitsOf a_sizeOf a_number a_moved v_isKept v_taped v_at v_fault v_laid v_open v_s v_statuses v_pile v_wish v_mark)) (w1 := (wX5_in cI cJ cZ cS)) fx h [] rfl rfl rfl rfl (q_runS fx h hl.1 [] rfl rfl (tX5_in l D cI cJ cZ cS tb H.size (x1.toInt64) 0 1 r14 k14 hg) msX5_in k_697 ⟨rfl, rfl⟩ ⟨Nat.le_of_ble_eq_true rfl, Nat.le_of_ble_eq_true rfl⟩ rfl rfl (Nat.le_of_ble_eq_true rfl) dX5_ring_4 ⟨Nat.le_of_ble_eq_true rfl, Nat.le_of_ble_eq_true rfl⟩) (fun H locs h => ?_)
  refine lv_if_ne (tgt := 17) hx hb dX5_ring_7 (by decide) (fun c15 => ?_) (fun c15 => ?_)
  · have hf := it_f c15 hf
    refine lv_aload_n hx hb dX5_ring_17 rfl (lv_at hl 0 rfl) ?_
    obtain ⟨k16, hg, hf⟩ := bV_inv hf
    refine q_cv (rest := []) (ws' := (wX5_ring cI cJ cZ cS a_t a_s a_keptS a_statuses a_pile a_tape a_steps a_wish a_mark a_bitsOf a_sizeOf a_number a_moved v_isKept v_taped v_at v_fault v_laid v_open v_s v_statuses k16.1 k16.2 v_mark)) (w1 := (wX5_looksAll cI cJ cZ cS a_t a_s a_keptS a_statuses a_pile a_tape a_steps a_wish a_mark a_bitsOf a_sizeOf a_number a_moved v_isKept v_taped v_at v_fault v_laid v_open v_s k16.1 k16.2)) fx h [0, 1, 3, 4] rfl rfl rfl rfl (q_runV fx h hl.1 [0, 1, 3, 4] rfl rfl (tX5_looksAll l D cI cJ cZ cS tb a_t a_s a_keptS a_statuses a_pile a_tape a_steps a_wish a_mark a_bitsOf a_sizeOf a_number a_moved H.size v_isKept v_taped v_at v_fault v_laid v_open v_s v_pile v_wish k16 hg) mvX5_looksAll k_860 ⟨rfl, rfl⟩ ⟨Nat.le_of_ble_eq_true rfl, Nat.le_of_ble_eq_true rfl⟩ rfl rfl rfl rfl (Nat.le_of_ble_eq_true rfl) dX5_ring_18 ⟨Nat.le_of_ble_eq_true rfl, Nat.le_of_ble_eq_true rfl⟩) (fun H locs h => ?_)
    refine lv_iconst (v := 0) hx hb dX5_ring_21 (by decide) ?_
    refine lv_istore_n (lv' := [(2, .int 0), (0, .ref a_t), (1, .int x1)]) hx hb dX5_ring_22 rfl hl (by decide) rfl (fun ls hl => ?_)
    exact EX5_ring_23 fx qF h (lv_sub hl [1, 2, 0] rfl) hf
  have hf := it_t c15 hf
  refine lv_aload_n hx hb dX5_ring_10 rfl (lv_at hl 0 rfl) ?_
  refine q_ldc fx k_701 dX5_ring_11 ?_
  obtain ⟨r17, k17, hg, hf⟩ := bR_inv hf
  refine q_ci (rest := []) (ws' := (wX5_ring cI cJ cZ cS a_t a_s a_keptS a_statuses a_pile a_tape a_steps a_wish a_mark a_bitsOf a_sizeOf a_number a_moved v_isKept v_taped v_at v_fault v_laid v_open v_s k17 v_pile v_wish v_mark)) (w1 := (wX5_finds cI cJ cZ cS a_t a_s a_keptS a_statuses a_pile a_tape a_steps a_wish a_mark a_bitsOf a_sizeOf a_number a_moved v_isKept v_taped v_at v_fault v_laid v_open k17)) fx h [0, 2] rfl rfl rfl rfl (q_runV fx h hl.1 [0, 2] rfl rfl (tX5_finds l D cI cJ cZ cS tb a_t a_s a_keptS a_statuses a_pile a_tape a_steps a_wish a_mark a_bitsOf a_sizeOf a_number a_moved H.size v_isKept v_taped v_at v_fault v_laid v_open v_statuses (-1000000001) r17 k17 hg) mvX5_finds k_702 ⟨rfl, rfl⟩ ⟨Nat.le_of_ble_eq_true rfl, Nat.le_of_ble_eq_true rfl⟩ rfl rfl rfl rfl (Nat.le_of_ble_eq_true rfl) dX5_ring_13 ⟨Nat.le_of_ble_eq_true rfl, Nat.le_of_ble_eq_true rfl⟩) (fun H locs h => ?_)
  exact q_reti (fun k : (Nat → Int32) × (Nat → Int32) × (Nat → Int32) × (Nat → Int32) => (wX5_ring cI cJ cZ cS a_t a_s a_keptS a_statuses a_pile a_tape a_steps a_wish a_mark a_bitsOf a_sizeOf a_number a_moved v_isKept v_taped v_at v_fault v_laid v_open v_s k.1 k.2.1 k.2.2.1 k.2.2.2)) fx hf h dX5_ring_16
/-! X5_looksFar -/
abbrev wX5_looksFar (cI cJ cZ cS : ClassId) (a_t a_s a_keptS a_statuses a_pile a_tape a_steps a_wish a_mark a_bitsOf a_sizeOf a_number a_moved : Nat) (v_isKept : Int32) (v_taped : Int32) (v_at : Int32) (v_fault : Int32) (v_laid : Int32) (v_open : Int32) (v_s : Nat → Int32) (v_pile : Nat → Int32) (v_mark : Nat → Int32) : va_W := [(a_t, .inr (5, [.ref a_s, .ref a_keptS, .ref a_statuses, .int v_isKept, .ref a_pile, .ref a_tape, .ref a_steps, .int v_taped, .int v_at, .int v_fault, .int v_laid, .int v_open, .ref a_wish, .ref a_mark, .ref a_bitsOf, .ref a_sizeOf, .ref a_number, .ref a_moved])), (a_s, .inl (cI, 538, .inl v_s)), (a_pile, .inl (cZ, 64, .inl v_pile)), (a_mark, .inl (cI, 256, .inl v_mark))]
abbrev rX5_looksFar : Room := { frames := 5, cells := 0, slots := 0, locals := 116 }
def fX5_looksFar_112 (v_s : Nat → Int32) (ag40 : (Nat → Int32) → (Nat → Int32) → Int32 → Int32 → Option ((Nat → Int32) × (Nat → Int32))) (ag48 : (Nat → Int32) → (Nat → Int32) → Int32 → Int32 → Int32 → Option ((Nat → Int32) × (Nat → Int32))) (v_pile : Nat → Int32) (v_mark : Nat → Int32) (y1 : Int32) (y2 : Int32) (y3 : Int32) : Option ((Nat → Int32) × (Nat → Int32)) :=
  nm (y3 + 1) (fun u1 =>
  ag48 v_pile v_mark y1 y2 u1)
set_option maxRecDepth 100000 in
set_option maxHeartbeats 4000000 in
theorem LX5_looksFar_112 {p : Program} {l : Launch} {e : Env} {s : State} {m : MethodId} {args : Array Value} {below : List Frame} {meth : Method} {c : Code} {D : va_G} {cI cJ cZ cS : ClassId} {tb : Nat} {A : Nat → Prop} {a_t a_s a_keptS a_statuses a_pile a_tape a_steps a_wish a_mark a_bitsOf a_sizeOf a_number a_moved : Nat} {v_isKept : Int32} {v_taped : Int32} {v_at : Int32} {v_fault : Int32} {v_laid : Int32} {v_open : Int32} {v_s : Nat → Int32} {kk' : (Nat → Int32) × (Nat → Int32)} (fx : q_Fx p s m args meth c cX5_looksFar 5 RX5 none D cI cJ cZ cS tb A) {ag40 : (Nat → Int32) → (Nat → Int32) → Int32 → Int32 → Option ((Nat → Int32) × (Nat → Int32))} (hag40 : ∀ {v_pile : Nat → Int32} {v_mark : Nat → Int32} {y1 : Int32} {y2 : Int32} {H : Heap} {locs : List Loc} {ls : Array Slot}, q_H D A s (wX5_looksFar cI cJ cZ cS a_t a_s a_keptS a_statuses a_pile a_tape a_steps a_wish a_mark a_bitsOf a_sizeOf a_number a_moved v_isKept v_taped v_at v_fault v_laid v_open v_s v_pile v_mark) H locs → lv_has ls 5 [(0, .ref a_t), (1, .int y1), (2, .int y2)] → ag40 v_pile v_mark y1 y2 = some kk' → W p l e rX5_looksFar s m args below meth c H locs 0 0 (MQ below (q_Rv D A ((fun k : (Nat → Int32) × (Nat → Int32) => (wX5_looksFar cI cJ cZ cS a_t a_s a_keptS a_statuses a_pile a_tape a_steps a_wish a_mark a_bitsOf a_sizeOf a_number a_moved v_isKept v_taped v_at v_fault v_laid v_open v_s k.1 k.2)) kk')) args s 0 0 A) (F0 m 40 ls [])) {ag48 : (Nat → Int32) → (Nat → Int32) → Int32 → Int32 → Int32 → Option ((Nat → Int32) × (Nat → Int32))} (hag48 : ∀ {v_pile : Nat → Int32} {v_mark : Nat → Int32} {y1 : Int32} {y2 : Int32} {y3 : Int32} {H : Heap} {locs : List Loc} {ls : Array Slot}, q_H D A s (wX5_looksFar cI cJ cZ cS a_t a_s a_keptS a_statuses a_pile a_tape a_steps a_wish a_mark a_bitsOf a_sizeOf a_number a_moved v_isKept v_taped v_at v_fault v_laid v_open v_s v_pile v_mark) H locs → lv_has ls 5 [(0, .ref a_t), (1, .int y1), (2, .int y2), (3, .int y3)] → ag48 v_pile v_mark y1 y2 y3 = some kk' → W p l e rX5_looksFar s m args below meth c H locs 0 0 (MQ below (q_Rv D A ((fun k : (Nat → Int32) × (Nat → Int32) => (wX5_looksFar cI cJ cZ cS a_t a_s a_keptS a_statuses a_pile a_tape a_steps a_wish a_mark a_bitsOf a_sizeOf a_number a_moved v_isKept v_taped v_at v_fault v_laid v_open v_s k.1 k.2)) kk')) args s 0 0 A) (F0 m 48 ls [])) : ∀ {v_pile : Nat → Int32} {v_mark : Nat → Int32} {y1 : Int32} {y2 : Int32} {y3 : Int32} {H : Heap} {locs : List Loc} {ls : Array Slot}, q_H D A s (wX5_looksFar cI cJ cZ cS a_t a_s a_keptS a_statuses a_pile a_tape a_steps a_wish a_mark a_bitsOf a_sizeOf a_number a_moved v_isKept v_taped v_at v_fault v_laid v_open v_s v_pile v_mark) H locs → lv_has ls 5 [(0, .ref a_t), (1, .int y1), (2, .int y2), (3, .int y3)] → fX5_looksFar_112 v_s ag40 ag48 v_pile v_mark y1 y2 y3 = some kk' → W p l e rX5_looksFar s m args below meth c H locs 0 0 (MQ below (q_Rv D A ((fun k : (Nat → Int32) × (Nat → Int32) => (wX5_looksFar cI cJ cZ cS a_t a_s a_keptS a_statuses a_pile a_tape a_steps a_wish a_mark a_bitsOf a_sizeOf a_number a_moved v_isKept v_taped v_at v_fault v_laid v_open v_s k.1 k.2)) kk')) args s 0 0 A) (F0 m 112 ls []) := by
  intro v_pile v_mark y1 y2 y3 H locs ls h hl hf
  have hx := fx.1
  have hb := fx.2.1
  unfold fX5_looksFar_112 at hf
  obtain ⟨u1, eu1, hf⟩ := nm_inv hf
  refine lv_iinc (v := u1) (lv' := [(3, .int u1), (0, .ref a_t), (1, .int y1), (2, .int y2)]) hx hb dX5_looksFar_112 hl (k := 3) rfl (by rw [eu1]; rfl) (by decide) rfl (fun ls hl => ?_)
  refine lv_goto (tgt := 48) hx hb dX5_looksFar_115 (by decide) ?_
  exact hag48 h (lv_sub hl [1, 2, 3, 0] rfl) hf
def fX5_looksFar_106 (v_s : Nat → Int32) (ag40 : (Nat → Int32) → (Nat → Int32) → Int32 → Int32 → Option ((Nat → Int32) × (Nat → Int32))) (ag48 : (Nat → Int32) → (Nat → Int32) → Int32 → Int32 → Int32 → Option ((Nat → Int32) × (Nat → Int32))) (ag59 : (Nat → Int32) → (Nat → Int32) → Int32 → Int32 → Int32 → Int32 → Option ((Nat → Int32) × (Nat → Int32))) (v_pile : Nat → Int32) (v_mark : Nat → Int32) (y1 : Int32) (y2 : Int32) (y3 : Int32) (y4 : Int32) : Option ((Nat → Int32) × (Nat → Int32)) :=
  nm (y4 + 1) (fun u2 =>
  ag59 v_pile v_mark y1 y2 y3 u2)
set_option maxRecDepth 100000 in
set_option maxHeartbeats 4000000 in
theorem LX5_looksFar_106 {p : Program} {l : Launch} {e : Env} {s : State} {m : MethodId} {args : Array Value} {below : List Frame} {meth : Method} {c : Code} {D : va_G} {cI cJ cZ cS : ClassId} {tb : Nat} {A : Nat → Prop} {a_t a_s a_keptS a_statuses a_pile a_tape a_steps a_wish a_mark a_bitsOf a_sizeOf a_number a_moved : Nat} {v_isKept : Int32} {v_taped : Int32} {v_at : Int32} {v_fault : Int32} {v_laid : Int32} {v_open : Int32} {v_s : Nat → Int32} {kk' : (Nat → Int32) × (Nat → Int32)} (fx : q_Fx p s m args meth c cX5_looksFar 5 RX5 none D cI cJ cZ cS tb A) {ag40 : (Nat → Int32) → (Nat → Int32) → Int32 → Int32 → Option ((Nat → Int32) × (Nat → Int32))} (hag40 : ∀ {v_pile : Nat → Int32} {v_mark : Nat → Int32} {y1 : Int32} {y2 : Int32} {H : Heap} {locs : List Loc} {ls : Array Slot}, q_H D A s (wX5_looksFar cI cJ cZ cS a_t a_s a_keptS a_statuses a_pile a_tape a_steps a_wish a_mark a_bitsOf a_sizeOf a_number a_moved v_isKept v_taped v_at v_fault v_laid v_open v_s v_pile v_mark) H locs → lv_has ls 5 [(0, .ref a_t), (1, .int y1), (2, .int y2)] → ag40 v_pile v_mark y1 y2 = some kk' → W p l e rX5_looksFar s m args below meth c H locs 0 0 (MQ below (q_Rv D A ((fun k : (Nat → Int32) × (Nat → Int32) => (wX5_looksFar cI cJ cZ cS a_t a_s a_keptS a_statuses a_pile a_tape a_steps a_wish a_mark a_bitsOf a_sizeOf a_number a_moved v_isKept v_taped v_at v_fault v_laid v_open v_s k.1 k.2)) kk')) args s 0 0 A) (F0 m 40 ls [])) {ag48 : (Nat → Int32) → (Nat → Int32) → Int32 → Int32 → Int32 → Option ((Nat → Int32) × (Nat → Int32))} (hag48 : ∀ {v_pile : Nat → Int32} {v_mark : Nat → Int32} {y1 : Int32} {y2 : Int32} {y3 : Int32} {H : Heap} {locs : List Loc} {ls : Array Slot}, q_H D A s (wX5_looksFar cI cJ cZ cS a_t a_s a_keptS a_statuses a_pile a_tape a_steps a_wish a_mark a_bitsOf a_sizeOf a_number a_moved v_isKept v_taped v_at v_fault v_laid v_open v_s v_pile v_mark) H locs → lv_has ls 5 [(0, .ref a_t), (1, .int y1), (2, .int y2), (3, .int y3)] → ag48 v_pile v_mark y1 y2 y3 = some kk' → W p l e rX5_looksFar s m args below meth c H locs 0 0 (MQ below (q_Rv D A ((fun k : (Nat → Int32) × (Nat → Int32) => (wX5_looksFar cI cJ cZ cS a_t a_s a_keptS a_statuses a_pile a_tape a_steps a_wish a_mark a_bitsOf a_sizeOf a_number a_moved v_isKept v_taped v_at v_fault v_laid v_open v_s k.1 k.2)) kk')) args s 0 0 A) (F0 m 48 ls [])) {ag59 : (Nat → Int32) → (Nat → Int32) → Int32 → Int32 → Int32 → Int32 → Option ((Nat → Int32) × (Nat → Int32))} (hag59 : ∀ {v_pile : Nat → Int32} {v_mark : Nat → Int32} {y1 : Int32} {y2 : Int32} {y3 : Int32} {y4 : Int32} {H : Heap} {locs : List Loc} {ls : Array Slot}, q_H D A s (wX5_looksFar cI cJ cZ cS a_t a_s a_keptS a_statuses a_pile a_tape a_steps a_wish a_mark a_bitsOf a_sizeOf a_number a_moved v_isKept v_taped v_at v_fault v_laid v_open v_s v_pile v_mark) H locs → lv_has ls 5 [(0, .ref a_t), (1, .int y1), (2, .int y2), (3, .int y3), (4, .int y4)] → ag59 v_pile v_mark y1 y2 y3 y4 = some kk' → W p l e rX5_looksFar s m args below meth c H locs 0 0 (MQ below (q_Rv D A ((fun k : (Nat → Int32) × (Nat → Int32) => (wX5_looksFar cI cJ cZ cS a_t a_s a_keptS a_statuses a_pile a_tape a_steps a_wish a_mark a_bitsOf a_sizeOf a_number a_moved v_isKept v_taped v_at v_fault v_laid v_open v_s k.1 k.2)) kk')) args s 0 0 A) (F0 m 59 ls [])) : ∀ {v_pile : Nat → Int32} {v_mark : Nat → Int32} {y1 : Int32} {y2 : Int32} {y3 : Int32} {y4 : Int32} {H : Heap} {locs : List Loc} {ls : Array Slot}, q_H D A s (wX5_looksFar cI cJ cZ cS a_t a_s a_keptS a_statuses a_pile a_tape a_steps a_wish a_mark a_bitsOf a_sizeOf a_number a_moved v_isKept v_taped v_at v_fault v_laid v_open v_s v_pile v_mark) H locs → lv_has ls 5 [(0, .ref a_t), (1, .int y1), (2, .int y2), (3, .int y3), (4, .int y4)] → fX5_looksFar_106 v_s ag40 ag48 ag59 v_pile v_mark y1 y2 y3 y4 = some kk' → W p l e rX5_looksFar s m args below meth c H locs 0 0 (MQ below (q_Rv D A ((fun k : (Nat → Int32) × (Nat → Int32) => (wX5_looksFar cI cJ cZ cS a_t a_s a_keptS a_statuses a_pile a_tape a_steps a_wish a_mark a_bitsOf a_sizeOf a_number a_moved v_isKept v_taped v_at v_fault v_laid v_open v_s k.1 k.2)) kk')) args s 0 0 A) (F0 m 106 ls []) := by
  intro v_pile v_mark y1 y2 y3 y4 H locs ls h hl hf
  have hx := fx.1
  have hb := fx.2.1
  unfold fX5_looksFar_106 at hf
  obtain ⟨u2, eu2, hf⟩ := nm_inv hf
  refine lv_iinc (v := u2) (lv' := [(4, .int u2), (0, .ref a_t), (1, .int y1), (2, .int y2), (3, .int y3)]) hx hb dX5_looksFar_106 hl (k := 4) rfl (by rw [eu2]; rfl) (by decide) rfl (fun ls hl => ?_)
  refine lv_goto (tgt := 59) hx hb dX5_looksFar_109 (by decide) ?_
  exact hag59 h (lv_sub hl [1, 2, 3, 4, 0] rfl) hf
def fX5_looksFar_59 (v_s : Nat → Int32) (ag40 : (Nat → Int32) → (Nat → Int32) → Int32 → Int32 → Option ((Nat → Int32) × (Nat → Int32))) (ag48 : (Nat → Int32) → (Nat → Int32) → Int32 → Int32 → Int32 → Option ((Nat → Int32) × (Nat → Int32))) (ag59 : (Nat → Int32) → (Nat → Int32) → Int32 → Int32 → Int32 → Int32 → Option ((Nat → Int32) × (Nat → Int32))) (v_pile : Nat → Int32) (v_mark : Nat → Int32) (y1 : Int32) (y2 : Int32) (y3 : Int32) (y4 : Int32) : Option ((Nat → Int32) × (Nat → Int32)) :=
  (if (v_s 0) ≤ y4 then (
  fX5_looksFar_112 v_s ag40 ag48 v_pile v_mark y1 y2 y3)
  else (
  gIn y3 256 (
  (if (0 : Int32) ≤ (v_mark y3.toNatClampNeg) then (
  fX5_looksFar_112 v_s ag40 ag48 v_pile v_mark y1 y2 y3)
  else (
  bR (fX5_called v_s v_pile y3 y4) (fun r6 k6 =>
  gIn r6 256 (
  (if (v_mark r6.toNatClampNeg) = (y2 - 1) then (
  gIn y3 256 (
  fX5_looksFar_106 v_s ag40 ag48 ag59 k6 (upd v_mark y3.toNatClampNeg y2) 1 y2 y3 y4))
  else (
  fX5_looksFar_106 v_s ag40 ag48 ag59 k6 v_mark y1 y2 y3 y4)))))))))
set_option maxRecDepth 100000 in
set_option maxHeartbeats 4000000 in
theorem LX5_looksFar_59 {p : Program} {l : Launch} {e : Env} {s : State} {m : MethodId} {args : Array Value} {below : List Frame} {meth : Method} {c : Code} {D : va_G} {cI cJ cZ cS : ClassId} {tb : Nat} {A : Nat → Prop} {a_t a_s a_keptS a_statuses a_pile a_tape a_steps a_wish a_mark a_bitsOf a_sizeOf a_number a_moved : Nat} {v_isKept : Int32} {v_taped : Int32} {v_at : Int32} {v_fault : Int32} {v_laid : Int32} {v_open : Int32} {v_s : Nat → Int32} {kk' : (Nat → Int32) × (Nat → Int32)} (fx : q_Fx p s m args meth c cX5_looksFar 5 RX5 none D cI cJ cZ cS tb A) {ag40 : (Nat → Int32) → (Nat → Int32) → Int32 → Int32 → Option ((Nat → Int32) × (Nat → Int32))} (hag40 : ∀ {v_pile : Nat → Int32} {v_mark : Nat → Int32} {y1 : Int32} {y2 : Int32} {H : Heap} {locs : List Loc} {ls : Array Slot}, q_H D A s (wX5_looksFar cI cJ cZ cS a_t a_s a_keptS a_statuses a_pile a_tape a_steps a_wish a_mark a_bitsOf a_sizeOf a_number a_moved v_isKept v_taped v_at v_fault v_laid v_open v_s v_pile v_mark) H locs → lv_has ls 5 [(0, .ref a_t), (1, .int y1), (2, .int y2)] → ag40 v_pile v_mark y1 y2 = some kk' → W p l e rX5_looksFar s m args below meth c H locs 0 0 (MQ below (q_Rv D A ((fun k : (Nat → Int32) × (Nat → Int32) => (wX5_looksFar cI cJ cZ cS a_t a_s a_keptS a_statuses a_pile a_tape a_steps a_wish a_mark a_bitsOf a_sizeOf a_number a_moved v_isKept v_taped v_at v_fault v_laid v_open v_s k.1 k.2)) kk')) args s 0 0 A) (F0 m 40 ls [])) {ag48 : (Nat → Int32) → (Nat → Int32) → Int32 → Int32 → Int32 → Option ((Nat → Int32) × (Nat → Int32))} (hag48 : ∀ {v_pile : Nat → Int32} {v_mark : Nat → Int32} {y1 : Int32} {y2 : Int32} {y3 : Int32} {H : Heap} {locs : List Loc} {ls : Array Slot}, q_H D A s (wX5_looksFar cI cJ cZ cS a_t a_s a_keptS a_statuses a_pile a_tape a_steps a_wish a_mark a_bitsOf a_sizeOf a_number a_moved v_isKept v_taped v_at v_fault v_laid v_open v_s v_pile v_mark) H locs → lv_has ls 5 [(0, .ref a_t), (1, .int y1), (2, .int y2), (3, .int y3)] → ag48 v_pile v_mark y1 y2 y3 = some kk' → W p l e rX5_looksFar s m args below meth c H locs 0 0 (MQ below (q_Rv D A ((fun k : (Nat → Int32) × (Nat → Int32) => (wX5_looksFar cI cJ cZ cS a_t a_s a_keptS a_statuses a_pile a_tape a_steps a_wish a_mark a_bitsOf a_sizeOf a_number a_moved v_isKept v_taped v_at v_fault v_laid v_open v_s k.1 k.2)) kk')) args s 0 0 A) (F0 m 48 ls [])) {ag59 : (Nat → Int32) → (Nat → Int32) → Int32 → Int32 → Int32 → Int32 → Option ((Nat → Int32) × (Nat → Int32))} (hag59 : ∀ {v_pile : Nat → Int32} {v_mark : Nat → Int32} {y1 : Int32} {y2 : Int32} {y3 : Int32} {y4 : Int32} {H : Heap} {locs : List Loc} {ls : Array Slot}, q_H D A s (wX5_looksFar cI cJ cZ cS a_t a_s a_keptS a_statuses a_pile a_tape a_steps a_wish a_mark a_bitsOf a_sizeOf a_number a_moved v_isKept v_taped v_at v_fault v_laid v_open v_s v_pile v_mark) H locs → lv_has ls 5 [(0, .ref a_t), (1, .int y1), (2, .int y2), (3, .int y3), (4, .int y4)] → ag59 v_pile v_mark y1 y2 y3 y4 = some kk' → W p l e rX5_looksFar s m args below meth c H locs 0 0 (MQ below (q_Rv D A ((fun k : (Nat → Int32) × (Nat → Int32) => (wX5_looksFar cI cJ cZ cS a_t a_s a_keptS a_statuses a_pile a_tape a_steps a_wish a_mark a_bitsOf a_sizeOf a_number a_moved v_isKept v_taped v_at v_fault v_laid v_open v_s k.1 k.2)) kk')) args s 0 0 A) (F0 m 59 ls [])) : ∀ {v_pile : Nat → Int32} {v_mark : Nat → Int32} {y1 : Int32} {y2 : Int32} {y3 : Int32} {y4 : Int32} {H : Heap} {locs : List Loc} {ls : Array Slot}, q_H D A s (wX5_looksFar cI cJ cZ cS a_t a_s a_keptS a_statuses a_pile a_tape a_steps a_wish a_mark a_bitsOf a_sizeOf a_number a_moved v_isKept v_taped v_at v_fault v_laid v_open v_s v_pile v_mark) H locs → lv_has ls 5 [(0, .ref a_t), (1, .int y1), (2, .int y2), (3, .int y3), (4, .int y4)] → fX5_looksFar_59 v_s ag40 ag48 ag59 v_pile v_mark y1 y2 y3 y4 = some kk' → W p l e rX5_looksFar s m args below meth c H locs 0 0 (MQ below (q_Rv D A ((fun k : (Nat → Int32) × (Nat → Int32) => (wX5_looksFar cI cJ cZ cS a_t a_s a_keptS a_statuses a_pile a_tape a_steps a_wish a_mark a_bitsOf a_sizeOf a_number a_moved v_isKept v_taped v_at v_fault v_laid v_open v_s k.1 k.2)) kk')) args s 0 0 A) (F0 m 59 ls []) := by
  intro v_pile v_mark y1 y2 y3 y4 H locs ls h hl hf
  have hx := fx.1
  have hb := fx.2.1
  unfold fX5_looksFar_59 at hf
  refine lv_iload hx hb dX5_looksFar_59 (lv_at hl 4 rfl) ?_
  refine lv_aload_n hx hb dX5_looksFar_61 rfl (lv_at hl 0 rfl) ?_
  refine q_get (v := .ref a_s) fx inX5 h 0 rfl rfl 0 (by decide) k_636 rfl dX5_looksFar_62 ?_
  refine lv_iconst (v := 0) hx hb dX5_looksFar_65 (by decide) ?_
  refine q_ialdK fx h 1 rfl 0 (vinK (by decide)) (by decide) dX5_looksFar_66 ?_
  refine lv_icmp_ge (tgt := 112) hx hb dX5_looksFar_67 (by decide) (fun c3 => ?_) (fun c3 => ?_)
  · have hf := it_t c3 hf
    exact LX5_looksFar_112 fx hag40 hag48 h (lv_sub hl [0, 1, 2, 3] rfl) hf
  have hf := it_f c3 hf
  refine lv_aload_n hx hb dX5_looksFar_70 rfl (lv_at hl 0 rfl) ?_
  refine q_get (v := .ref a_mark) fx inX5 h 0 rfl rfl 13 (by decide) k_649 rfl dX5_looksFar_71 ?_
  refine lv_iload_n hx hb dX5_looksFar_74 rfl (lv_at hl 3 rfl) ?_
  obtain ⟨i4, hf⟩ := gIn_inv hf
  refine q_iald fx h 3 rfl i4 dX5_looksFar_75 ?_
  refine lv_if_ge (tgt := 112) hx hb dX5_looksFar_76 (by decide) (fun c5 => ?_) (fun c5 => ?_)
  · have hf := it_t c5 hf
    exact LX5_looksFar_112 fx hag40 hag48 h (lv_sub hl [0, 1, 2, 3] rfl) hf
  have hf := it_f c5 hf
  refine lv_aload_n hx hb dX5_looksFar_79 rfl (lv_at hl 0 rfl) ?_
  refine q_get (v := .ref a_mark) fx inX5 h 0 rfl rfl 13 (by decide) k_649 rfl dX5_looksFar_80 ?_
  refine lv_aload_n hx hb dX5_looksFar_83 rfl (lv_at hl 0 rfl) ?_
  refine lv_iload_n hx hb dX5_looksFar_84 rfl (lv_at hl 3 rfl) ?_
  refine lv_iload hx hb dX5_looksFar_85 (lv_at hl 4 rfl) ?_
  obtain ⟨r6, k6, hg, hf⟩ := bR_inv hf
  refine q_ci (rest := [.ref a_mark]) (ws' := (wX5_looksFar cI cJ cZ cS a_t a_s a_keptS a_statuses a_pile a_tape a_steps a_wish a_mark a_bitsOf a_sizeOf a_number a_moved v_isKept v_taped v_at v_fault v_laid v_open v_s k6 v_mark)) (w1 := (wX5_called cI cJ cZ cS a_t a_s a_keptS a_statuses a_pile a_tape a_steps a_wish a_mark a_bitsOf a_sizeOf a_number a_moved v_isKept v_taped v_at v_fault v_laid v_open v_s k6)) fx h [0, 1, 2] rfl rfl rfl rfl (q_runV fx h hl.1 [0, 1, 2] rfl rfl (tX5_called l D cI cJ cZ cS tb a_t a_s a_keptS a_statuses a_pile a_tape a_steps a_wish a_mark a_bitsOf a_sizeOf a_number a_moved H.size v_isKept v_taped v_at v_fault v_laid v_open v_s v_pile y3 y4 r6 k6 hg) mvX5_called k_834 ⟨rfl, rfl⟩ ⟨Nat.le_of_ble_eq_true rfl, Nat.le_of_ble_eq_true rfl⟩ rfl rfl rfl rfl (Nat.le_of_ble_eq_true rfl) dX5_looksFar_87 ⟨Nat.le_of_ble_eq_true rfl, Nat.le_of_ble_eq_true rfl⟩) (fun H locs h => ?_)
  obtain ⟨i7, hf⟩ := gIn_inv hf
  refine q_iald fx h 3 rfl i7 dX5_looksFar_90 ?_
  refine lv_iload_n hx hb dX5_looksFar_91 rfl (lv_at hl 2 rfl) ?_
  refine lv_iconst (v := 1) hx hb dX5_looksFar_92 (by decide) ?_
  refine lv_isub hx hb dX5_looksFar_93 ?_
  refine lv_icmp_ne (tgt := 106) hx hb dX5_looksFar_94 (by decide) (fun c8 => ?_) (fun c8 => ?_)
  · have hf := it_f c8 hf
    exact LX5_looksFar_106 fx hag40 hag48 hag59 h (lv_sub hl [0, 1, 2, 3, 4] rfl) hf
  have hf := it_t c8 hf
  refine lv_aload_n hx hb dX5_looksFar_97 rfl (lv_at hl 0 rfl) ?_
  refine q_get (v := .ref a_mark) fx inX5 h 0 rfl rfl 13 (by decide) k_649 rfl dX5_looksFar_98 ?_
  refine lv_iload_n hx hb dX5_looksFar_101 rfl (lv_at hl 3 rfl) ?_
  refine lv_iload_n hx hb dX5_looksFar_102 rfl (lv_at hl 2 rfl) ?_
  obtain ⟨i9, hf⟩ := gIn_inv hf
  refine q_iast (ws' := (wX5_looksFar cI cJ cZ cS a_t a_s a_keptS a_statuses a_pile a_tape a_steps a_wish a_mark a_bitsOf a_sizeOf a_number a_moved v_isKept v_taped v_at v_fault v_laid v_open v_s k6 (upd v_mark y3.toNatClampNeg y2))) fx h 3 rfl i9 rfl dX5_looksFar_103 (fun H locs h => ?_)
  refine lv_iconst (v := 1) hx hb dX5_looksFar_104 (by decide) ?_
  refine lv_istore_n (lv' := [(1, .int 1), (0, .ref a_t), (2, .int y2), (3, .int y3), (4, .int y4)]) hx hb dX5_looksFar_105 rfl hl (by decide) rfl (fun ls hl => ?_)
  exact LX5_looksFar_106 fx hag40 hag48 hag59 h (lv_sub hl [1, 0, 2, 3, 4] rfl) hf
set_option maxRecDepth 100000 in
theorem EX5_looksFar_59 {p : Program} {l : Launch} {e : Env} {s : State} {m : MethodId} {args : Array Value} {below : List Frame} {meth : Method} {c : Code} {D : va_G} {cI cJ cZ cS : ClassId} {tb : Nat} {A : Nat → Prop} {a_t a_s a_keptS a_statuses a_pile a_tape a_steps a_wish a_mark a_bitsOf a_sizeOf a_number a_moved : Nat} {v_isKept : Int32} {v_taped : Int32} {v_at : Int32} {v_fault : Int32} {v_laid : Int32} {v_open : Int32} {v_s : Nat → Int32} {kk' : (Nat → Int32) × (Nat → Int32)} (fx : q_Fx p s m args meth c cX5_looksFar 5 RX5 none D cI cJ cZ cS tb A) {ag40 : (Nat → Int32) → (Nat → Int32) → Int32 → Int32 → Option ((Nat → Int32) × (Nat → Int32))} (hag40 : ∀ {v_pile : Nat → Int32} {v_mark : Nat → Int32} {y1 : Int32} {y2 : Int32} {H : Heap} {locs : List Loc} {ls : Array Slot}, q_H D A s (wX5_looksFar cI cJ cZ cS a_t a_s a_keptS a_statuses a_pile a_tape a_steps a_wish a_mark a_bitsOf a_sizeOf a_number a_moved v_isKept v_taped v_at v_fault v_laid v_open v_s v_pile v_mark) H locs → lv_has ls 5 [(0, .ref a_t), (1, .int y1), (2, .int y2)] → ag40 v_pile v_mark y1 y2 = some kk' → W p l e rX5_looksFar s m args below meth c H locs 0 0 (MQ below (q_Rv D A ((fun k : (Nat → Int32) × (Nat → Int32) => (wX5_looksFar cI cJ cZ cS a_t a_s a_keptS a_statuses a_pile a_tape a_steps a_wish a_mark a_bitsOf a_sizeOf a_number a_moved v_isKept v_taped v_at v_fault v_laid v_open v_s k.1 k.2)) kk')) args s 0 0 A) (F0 m 40 ls [])) {ag48 : (Nat → Int32) → (Nat → Int32) → Int32 → Int32 → Int32 → Option ((Nat → Int32) × (Nat → Int32))} (hag48 : ∀ {v_pile : Nat → Int32} {v_mark : Nat → Int32} {y1 : Int32} {y2 : Int32} {y3 : Int32} {H : Heap} {locs : List Loc} {ls : Array Slot}, q_H D A s (wX5_looksFar cI cJ cZ cS a_t a_s a_keptS a_statuses a_pile a_tape a_steps a_wish a_mark a_bitsOf a_sizeOf a_number a_moved v_isKept v_taped v_at v_fault v_laid v_open v_s v_pile v_mark) H locs → lv_has ls 5 [(0, .ref a_t), (1, .int y1), (2, .int y2), (3, .int y3)] → ag48 v_pile v_mark y1 y2 y3 = some kk' → W p l e rX5_looksFar s m args below meth c H locs 0 0 (MQ below (q_Rv D A ((fun k : (Nat → Int32) × (Nat → Int32) => (wX5_looksFar cI cJ cZ cS a_t a_s a_keptS a_statuses a_pile a_tape a_steps a_wish a_mark a_bitsOf a_sizeOf a_number a_moved v_isKept v_taped v_at v_fault v_laid v_open v_s k.1 k.2)) kk')) args s 0 0 A) (F0 m 48 ls [])) : ∀ (n : Nat), ∀ {v_pile : Nat → Int32} {v_mark : Nat → Int32} {y1 : Int32} {y2 : Int32} {y3 : Int32} {y4 : Int32} {H : Heap} {locs : List Loc} {ls : Array Slot}, q_H D A s (wX5_looksFar cI cJ cZ cS a_t a_s a_keptS a_statuses a_pile a_tape a_steps a_wish a_mark a_bitsOf a_sizeOf a_number a_moved v_isKept v_taped v_at v_fault v_laid v_open v_s v_pile v_mark) H locs → lv_has ls 5 [(0, .ref a_t), (1, .int y1), (2, .int y2), (3, .int y3), (4, .int y4)] → ll6 (fX5_looksFar_59 v_s ag40 ag48) n v_pile v_mark y1 y2 y3 y4 = some kk' → W p l e rX5_looksFar s m args below meth c H locs 0 0 (MQ below (q_Rv D A ((fun k : (Nat → Int32) × (Nat → Int32) => (wX5_looksFar cI cJ cZ cS a_t a_s a_keptS a_statuses a_pile a_tape a_steps a_wish a_mark a_bitsOf a_sizeOf a_number a_moved v_isKept v_taped v_at v_fault v_laid v_open v_s k.1 k.2)) kk')) args s 0 0 A) (F0 m 59 ls []) := by
  intro n
  induction n with
  | zero => intro v_pile v_mark y1 y2 y3 y4 H locs ls h hl hf; exact (ll6_z hf).elim
  | succ n ih => intro v_pile v_mark y1 y2 y3 y4 H locs ls h hl hf; exact LX5_looksFar_59 fx hag40 hag48 ih h hl (ll6_s hf)
def fX5_looksFar_48 (v_s : Nat → Int32) (ag40 : (Nat → Int32) → (Nat → Int32) → Int32 → Int32 → Option ((Nat → Int32) × (Nat → Int32))) (ag48 : (Nat → Int32) → (Nat → Int32) → Int32 → Int32 → Int32 → Option ((Nat → Int32) × (Nat → Int32))) (v_pile : Nat → Int32) (v_mark : Nat → Int32) (y1 : Int32) (y2 : Int32) (y3 : Int32) : Option ((Nat → Int32) × (Nat → Int32)) :=
  bR (fX5_lists v_s) (fun r10 k10 =>
  (if r10 ≤ y3 then (
  nm (y2 + 1) (fun u12 =>
  ag40 v_pile v_mark y1 u12))
  else (
  ll6 (fX5_looksFar_59 v_s ag40 ag48) qF v_pile v_mark y1 y2 y3 0)))
set_option maxRecDepth 100000 in
set_option maxHeartbeats 4000000 in
theorem LX5_looksFar_48 {p : Program} {l : Launch} {e : Env} {s : State} {m : MethodId} {args : Array Value} {below : List Frame} {meth : Method} {c : Code} {D : va_G} {cI cJ cZ cS : ClassId} {tb : Nat} {A : Nat → Prop} {a_t a_s a_keptS a_statuses a_pile a_tape a_steps a_wish a_mark a_bitsOf a_sizeOf a_number a_moved : Nat} {v_isKept : Int32} {v_taped : Int32} {v_at : Int32} {v_fault : Int32} {v_laid : Int32} {v_open : Int32} {v_s : Nat → Int32} {kk' : (Nat → Int32) × (Nat → Int32)} (fx : q_Fx p s m args meth c cX5_looksFar 5 RX5 none D cI cJ cZ cS tb A) {ag40 : (Nat → Int32) → (Nat → Int32) → Int32 → Int32 → Option ((Nat → Int32) × (Nat → Int32))} (hag40 : ∀ {v_pile : Nat → Int32} {v_mark : Nat → Int32} {y1 : Int32} {y2 : Int32} {H : Heap} {locs : List Loc} {ls : Array Slot}, q_H D A s (wX5_looksFar cI cJ cZ cS a_t a_s a_keptS a_statuses a_pile a_tape a_steps a_wish a_mark a_bitsOf a_sizeOf a_number a_moved v_isKept v_taped v_at v_fault v_laid v_open v_s v_pile v_mark) H locs → lv_has ls 5 [(0, .ref a_t), (1, .int y1), (2, .int y2)] → ag40 v_pile v_mark y1 y2 = some kk' → W p l e rX5_looksFar s m args below meth c H locs 0 0 (MQ below (q_Rv D A ((fun k : (Nat → Int32) × (Nat → Int32) => (wX5_looksFar cI cJ cZ cS a_t a_s a_keptS a_statuses a_pile a_tape a_steps a_wish a_mark a_bitsOf a_sizeOf a_number a_moved v_isKept v_taped v_at v_fault v_laid v_open v_s k.1 k.2)) kk')) args s 0 0 A) (F0 m 40 ls [])) {ag48 : (Nat → Int32) → (Nat → Int32) → Int32 → Int32 → Int32 → Option ((Nat → Int32) × (Nat → Int32))} (hag48 : ∀ {v_pile : Nat → Int32} {v_mark : Nat → Int32} {y1 : Int32} {y2 : Int32} {y3 : Int32} {H : Heap} {locs : List Loc} {ls : Array Slot}, q_H D A s (wX5_looksFar cI cJ cZ cS a_t a_s a_keptS a_statuses a_pile a_tape a_steps a_wish a_mark a_bitsOf a_sizeOf a_number a_moved v_isKept v_taped v_at v_fault v_laid v_open v_s v_pile v_mark) H locs → lv_has ls 5 [(0, .ref a_t), (1, .int y1), (2, .int y2), (3, .int y3)] → ag48 v_pile v_mark y1 y2 y3 = some kk' → W p l e rX5_looksFar s m args below meth c H locs 0 0 (MQ below (q_Rv D A ((fun k : (Nat → Int32) × (Nat → Int32) => (wX5_looksFar cI cJ cZ cS a_t a_s a_keptS a_statuses a_pile a_tape a_steps a_wish a_mark a_bitsOf a_sizeOf a_number a_moved v_isKept v_taped v_at v_fault v_laid v_open v_s k.1 k.2)) kk')) args s 0 0 A) (F0 m 48 ls [])) : ∀ {v_pile : Nat → Int32} {v_mark : Nat → Int32} {y1 : Int32} {y2 : Int32} {y3 : Int32} {H : Heap} {locs : List Loc} {ls : Array Slot}, q_H D A s (wX5_looksFar cI cJ cZ cS a_t a_s a_keptS a_statuses a_pile a_tape a_steps a_wish a_mark a_bitsOf a_sizeOf a_number a_moved v_isKept v_taped v_at v_fault v_laid v_open v_s v_pile v_mark) H locs → lv_has ls 5 [(0, .ref a_t), (1, .int y1), (2, .int y2), (3, .int y3)] → fX5_looksFar_48 v_s ag40 ag48 v_pile v_mark y1 y2 y3 = some kk' → W p l e rX5_looksFar s m args below meth c H locs 0 0 (MQ below (q_Rv D A ((fun k : (Nat → Int32) × (Nat → Int32) => (wX5_looksFar cI cJ cZ cS a_t a_s a_keptS a_statuses a_pile a_tape a_steps a_wish a_mark a_bitsOf a_sizeOf a_number a_moved v_isKept v_taped v_at v_fault v_laid v_open v_s k.1 k.2)) kk')) args s 0 0 A) (F0 m 48 ls []) := by
  intro v_pile v_mark y1 y2 y3 H locs ls h hl hf
  have hx := fx.1
  have hb := fx.2.1
  unfold fX5_looksFar_48 at hf
  refine lv_iload_n hx hb dX5_looksFar_48 rfl (lv_at hl 3 rfl) ?_
  refine lv_aload_n hx hb dX5_looksFar_49 rfl (lv_at hl 0 rfl) ?_
  obtain ⟨r10, k10, hg, hf⟩ := bR_inv hf
  refine q_ci (rest := [.int y3]) (ws' := (wX5_looksFar cI cJ cZ cS a_t a_s a_keptS a_statuses a_pile a_tape a_steps a_wish a_mark a_bitsOf a_sizeOf a_number a_moved v_isKept v_taped v_at v_fault v_laid v_open v_s v_pile v_mark)) (w1 := (wX5_lists cI cJ cZ cS a_t a_s a_keptS a_statuses a_pile a_tape a_steps a_wish a_mark a_bitsOf a_sizeOf a_number a_moved v_isKept v_taped v_at v_fault v_laid v_open v_s)) fx h [0, 1] rfl rfl rfl rfl (q_runV fx h hl.1 [0, 1] rfl rfl (tX5_lists l D cI cJ cZ cS tb a_t a_s a_keptS a_statuses a_pile a_tape a_steps a_wish a_mark a_bitsOf a_sizeOf a_number a_moved H.size v_isKept v_taped v_at v_fault v_laid v_open v_s r10 k10 hg) mvX5_lists k_810 ⟨rfl, rfl⟩ ⟨Nat.le_of_ble_eq_true rfl, Nat.le_of_ble_eq_true rfl⟩ rfl rfl rfl rfl (Nat.le_of_ble_eq_true rfl) dX5_looksFar_50 ⟨Nat.le_of_ble_eq_true rfl, Nat.le_of_ble_eq_true rfl⟩) (fun H locs h => ?_)
  refine lv_icmp_ge (tgt := 118) hx hb dX5_looksFar_53 (by decide) (fun c11 => ?_) (fun c11 => ?_)
  · have hf := it_t c11 hf
    obtain ⟨u12, eu12, hf⟩ := nm_inv hf
    refine lv_iinc (v := u12) (lv' := [(2, .int u12), (0, .ref a_t), (1, .int y1), (3, .int y3)]) hx hb dX5_looksFar_118 hl (k := 2) rfl (by rw [eu12]; rfl) (by decide) rfl (fun ls hl => ?_)
    refine lv_goto (tgt := 40) hx hb dX5_looksFar_121 (by decide) ?_
    exact hag40 h (lv_sub hl [1, 2, 0] rfl) hf
  have hf := it_f c11 hf
  refine lv_iconst (v := 0) hx hb dX5_looksFar_56 (by decide) ?_
  refine lv_istore (lv' := [(4, .int 0), (0, .ref a_t), (1, .int y1), (2, .int y2), (3, .int y3)]) hx hb dX5_looksFar_57 hl (by decide) rfl (fun ls hl => ?_)
  exact EX5_looksFar_59 fx hag40 hag48 qF h (lv_sub hl [1, 2, 3, 4, 0] rfl) hf
set_option maxRecDepth 100000 in
theorem EX5_looksFar_48 {p : Program} {l : Launch} {e : Env} {s : State} {m : MethodId} {args : Array Value} {below : List Frame} {meth : Method} {c : Code} {D : va_G} {cI cJ cZ cS : ClassId} {tb : Nat} {A : Nat → Prop} {a_t a_s a_keptS a_statuses a_pile a_tape a_steps a_wish a_mark a_bitsOf a_sizeOf a_number a_moved : Nat} {v_isKept : Int32} {v_taped : Int32} {v_at : Int32} {v_fault : Int32} {v_laid : Int32} {v_open : Int32} {v_s : Nat → Int32} {kk' : (Nat → Int32) × (Nat → Int32)} (fx : q_Fx p s m args meth c cX5_looksFar 5 RX5 none D cI cJ cZ cS tb A) {ag40 : (Nat → Int32) → (Nat → Int32) → Int32 → Int32 → Option ((Nat → Int32) × (Nat → Int32))} (hag40 : ∀ {v_pile : Nat → Int32} {v_mark : Nat → Int32} {y1 : Int32} {y2 : Int32} {H : Heap} {locs : List Loc} {ls : Array Slot}, q_H D A s (wX5_looksFar cI cJ cZ cS a_t a_s a_keptS a_statuses a_pile a_tape a_steps a_wish a_mark a_bitsOf a_sizeOf a_number a_moved v_isKept v_taped v_at v_fault v_laid v_open v_s v_pile v_mark) H locs → lv_has ls 5 [(0, .ref a_t), (1, .int y1), (2, .int y2)] → ag40 v_pile v_mark y1 y2 = some kk' → W p l e rX5_looksFar s m args below meth c H locs 0 0 (MQ below (q_Rv D A ((fun k : (Nat → Int32) × (Nat → Int32) => (wX5_looksFar cI cJ cZ cS a_t a_s a_keptS a_statuses a_pile a_tape a_steps a_wish a_mark a_bitsOf a_sizeOf a_number a_moved v_isKept v_taped v_at v_fault v_laid v_open v_s k.1 k.2)) kk')) args s 0 0 A) (F0 m 40 ls [])) : ∀ (n : Nat), ∀ {v_pile : Nat → Int32} {v_mark : Nat → Int32} {y1 : Int32} {y2 : Int32} {y3 : Int32} {H : Heap} {locs : List Loc} {ls : Array Slot}, q_H D A s (wX5_looksFar cI cJ cZ cS a_t a_s a_keptS a_statuses a_pile a_tape a_steps a_wish a_mark a_bitsOf a_sizeOf a_number a_moved v_isKept v_taped v_at v_fault v_laid v_open v_s v_pile v_mark) H locs → lv_has ls 5 [(0, .ref a_t), (1, .int y1), (2, .int y2), (3, .int y3)] → ll5 (fX5_looksFar_48 v_s ag40) n v_pile v_mark y1 y2 y3 = some kk' → W p l e rX5_looksFar s m args below meth c H locs 0 0 (MQ below (q_Rv D A ((fun k : (Nat → Int32) × (Nat → Int32) => (wX5_looksFar cI cJ cZ cS a_t a_s a_keptS a_statuses a_pile a_tape a_steps a_wish a_mark a_bitsOf a_sizeOf a_number a_moved v_isKept v_taped v_at v_fault v_laid v_open v_s k.1 k.2)) kk')) args s 0 0 A) (F0 m 48 ls []) := by
  intro n
  induction n with
  | zero => intro v_pile v_mark y1 y2 y3 H locs ls h hl hf; exact (ll5_z hf).elim
  | succ n ih => intro v_pile v_mark y1 y2 y3 H locs ls h hl hf; exact LX5_looksFar_48 fx hag40 ih h hl (ll5_s hf)
def fX5_looksFar_40 (v_s : Nat → Int32) (ag40 : (Nat → Int32) → (Nat → Int32) → Int32 → Int32 → Option ((Nat → Int32) × (Nat → Int32))) (v_pile : Nat → Int32) (v_mark : Nat → Int32) (y1 : Int32) (y2 : Int32) : Option ((Nat → Int32) × (Nat → Int32)) :=
  (if y1 = 0 then (
  some (v_pile, v_mark))
  else (
  ll5 (fX5_looksFar_48 v_s ag40) qF v_pile v_mark 0 y2 0))
set_option maxRecDepth 100000 in
set_option maxHeartbeats 4000000 in
theorem LX5_looksFar_40 {p : Program} {l : Launch} {e : Env} {s : State} {m : MethodId} {args : Array Value} {below : List Frame} {meth : Method} {c : Code} {D : va_G} {cI cJ cZ cS : ClassId} {tb : Nat} {A : Nat → Prop} {a_t a_s a_keptS a_statuses a_pile a_tape a_steps a_wish a_mark a_bitsOf a_sizeOf a_number a_moved : Nat} {v_isKept : Int32} {v_taped : Int32} {v_at : Int32} {v_fault : Int32} {v_laid : Int32} {v_open : Int32} {v_s : Nat → Int32} {kk' : (Nat → Int32) × (Nat → Int32)} (fx : q_Fx p s m args meth c cX5_looksFar 5 RX5 none D cI cJ cZ cS tb A) {ag40 : (Nat → Int32) → (Nat → Int32) → Int32 → Int32 → Option ((Nat → Int32) × (Nat → Int32))} (hag40 : ∀ {v_pile : Nat → Int32} {v_mark : Nat → Int32} {y1 : Int32} {y2 : Int32} {H : Heap} {locs : List Loc} {ls : Array Slot}, q_H D A s (wX5_looksFar cI cJ cZ cS a_t a_s a_keptS a_statuses a_pile a_tape a_steps a_wish a_mark a_bitsOf a_sizeOf a_number a_moved v_isKept v_taped v_at v_fault v_laid v_open v_s v_pile v_mark) H locs → lv_has ls 5 [(0, .ref a_t), (1, .int y1), (2, .int y2)] → ag40 v_pile v_mark y1 y2 = some kk' → W p l e rX5_looksFar s m args below meth c H locs 0 0 (MQ below (q_Rv D A ((fun k : (Nat → Int32) × (Nat → Int32) => (wX5_looksFar cI cJ cZ cS a_t a_s a_keptS a_statuses a_pile a_tape a_steps a_wish a_mark a_bitsOf a_sizeOf a_number a_moved v_isKept v_taped v_at v_fault v_laid v_open v_s k.1 k.2)) kk')) args s 0 0 A) (F0 m 40 ls [])) : ∀ {v_pile : Nat → Int32} {v_mark : Nat → Int32} {y1 : Int32} {y2 : Int32} {H : Heap} {locs : List Loc} {ls : Array Slot}, q_H D A s (wX5_looksFar cI cJ cZ cS a_t a_s a_keptS a_statuses a_pile a_tape a_steps a_wish a_mark a_bitsOf a_sizeOf a_number a_moved v_isKept v_taped v_at v_fault v_laid v_open v_s v_pile v_mark) H locs → lv_has ls 5 [(0, .ref a_t), (1, .int y1), (2, .int y2)] → fX5_looksFar_40 v_s ag40 v_pile v_mark y1 y2 = some kk' → W p l e rX5_looksFar s m args below meth c H locs 0 0 (MQ below (q_Rv D A ((fun k : (Nat → Int32) × (Nat → Int32) => (wX5_looksFar cI cJ cZ cS a_t a_s a_keptS a_statuses a_pile a_tape a_steps a_wish a_mark a_bitsOf a_sizeOf a_number a_moved v_isKept v_taped v_at v_fault v_laid v_open v_s k.1 k.2)) kk')) args s 0 0 A) (F0 m 40 ls []) := by
  intro v_pile v_mark y1 y2 H locs ls h hl hf
  have hx := fx.1
  have hb := fx.2.1
  unfold fX5_looksFar_40 at hf
  refine lv_iload_n hx hb dX5_looksFar_40 rfl (lv_at hl 1 rfl) ?_
  refine lv_if_eq (tgt := 124) hx hb dX5_looksFar_41 (by decide) (fun c13 => ?_) (fun c13 => ?_)
  · have hf := it_t c13 hf
    exact q_retv (fun k : (Nat → Int32) × (Nat → Int32) => (wX5_looksFar cI cJ cZ cS a_t a_s a_keptS a_statuses a_pile a_tape a_steps a_wish a_mark a_bitsOf a_sizeOf a_number a_moved v_isKept v_taped v_at v_fault v_laid v_open v_s k.1 k.2)) fx hf h dX5_looksFar_124
  have hf := it_f c13 hf
  refine lv_iconst (v := 0) hx hb dX5_looksFar_44 (by decide) ?_
  refine lv_istore_n (lv' := [(1, .int 0), (0, .ref a_t), (2, .int y2)]) hx hb dX5_looksFar_45 rfl hl (by decide) rfl (fun ls hl => ?_)
  refine lv_iconst (v := 0) hx hb dX5_looksFar_46 (by decide) ?_
  refine lv_istore_n (lv' := [(3, .int 0), (1, .int 0), (0, .ref a_t), (2, .int y2)]) hx hb dX5_looksFar_47 rfl hl (by decide) rfl (fun ls hl => ?_)
  exact EX5_looksFar_48 fx hag40 qF h (lv_sub hl [2, 1, 3, 0] rfl) hf
set_option maxRecDepth 100000 in
theorem EX5_looksFar_40 {p : Program} {l : Launch} {e : Env} {s : State} {m : MethodId} {args : Array Value} {below : List Frame} {meth : Method} {c : Code} {D : va_G} {cI cJ cZ cS : ClassId} {tb : Nat} {A : Nat → Prop} {a_t a_s a_keptS a_statuses a_pile a_tape a_steps a_wish a_mark a_bitsOf a_sizeOf a_number a_moved : Nat} {v_isKept : Int32} {v_taped : Int32} {v_at : Int32} {v_fault : Int32} {v_laid : Int32} {v_open : Int32} {v_s : Nat → Int32} {kk' : (Nat → Int32) × (Nat → Int32)} (fx : q_Fx p s m args meth c cX5_looksFar 5 RX5 none D cI cJ cZ cS tb A) : ∀ (n : Nat), ∀ {v_pile : Nat → Int32} {v_mark : Nat → Int32} {y1 : Int32} {y2 : Int32} {H : Heap} {locs : List Loc} {ls : Array Slot}, q_H D A s (wX5_looksFar cI cJ cZ cS a_t a_s a_keptS a_statuses a_pile a_tape a_steps a_wish a_mark a_bitsOf a_sizeOf a_number a_moved v_isKept v_taped v_at v_fault v_laid v_open v_s v_pile v_mark) H locs → lv_has ls 5 [(0, .ref a_t), (1, .int y1), (2, .int y2)] → ll4 (fX5_looksFar_40 v_s) n v_pile v_mark y1 y2 = some kk' → W p l e rX5_looksFar s m args below meth c H locs 0 0 (MQ below (q_Rv D A ((fun k : (Nat → Int32) × (Nat → Int32) => (wX5_looksFar cI cJ cZ cS a_t a_s a_keptS a_statuses a_pile a_tape a_steps a_wish a_mark a_bitsOf a_sizeOf a_number a_moved v_isKept v_taped v_at v_fault v_laid v_open v_s k.1 k.2)) kk')) args s 0 0 A) (F0 m 40 ls []) := by
  intro n
  induction n with
  | zero => intro v_pile v_mark y1 y2 H locs ls h hl hf; exact (ll4_z hf).elim
  | succ n ih => intro v_pile v_mark y1 y2 H locs ls h hl hf; exact LX5_looksFar_40 fx ih h hl (ll4_s hf)
def fX5_looksFar_29 (v_s : Nat → Int32) (ag2 : (Nat → Int32) → (Nat → Int32) → Int32 → Option ((Nat → Int32) × (Nat → Int32))) (v_pile : Nat → Int32) (v_mark : Nat → Int32) (s1 : Int32) (s2 : Int32) (y1 : Int32) : Option ((Nat → Int32) × (Nat → Int32)) :=
  gIn s1 256 (
  nm (y1 + 1) (fun u15 =>
  ag2 v_pile (upd v_mark s1.toNatClampNeg s2) u15))
set_option maxRecDepth 100000 in
set_option maxHeartbeats 4000000 in
theorem LX5_looksFar_29 {p : Program} {l : Launch} {e : Env} {s : State} {m : MethodId} {args : Array Value} {below : List Frame} {meth : Method} {c : Code} {D : va_G} {cI cJ cZ cS : ClassId} {tb : Nat} {A : Nat → Prop} {a_t a_s a_keptS a_statuses a_pile a_tape a_steps a_wish a_mark a_bitsOf a_sizeOf a_number a_moved : Nat} {v_isKept : Int32} {v_taped : Int32} {v_at : Int32} {v_fault : Int32} {v_laid : Int32} {v_open : Int32} {v_s : Nat → Int32} {kk' : (Nat → Int32) × (Nat → Int32)} (fx : q_Fx p s m args meth c cX5_looksFar 5 RX5 none D cI cJ cZ cS tb A) {ag2 : (Nat → Int32) → (Nat → Int32) → Int32 → Option ((Nat → Int32) × (Nat → Int32))} (hag2 : ∀ {v_pile : Nat → Int32} {v_mark : Nat → Int32} {y1 : Int32} {H : Heap} {locs : List Loc} {ls : Array Slot}, q_H D A s (wX5_looksFar cI cJ cZ cS a_t a_s a_keptS a_statuses a_pile a_tape a_steps a_wish a_mark a_bitsOf a_sizeOf a_number a_moved v_isKept v_taped v_at v_fault v_laid v_open v_s v_pile v_mark) H locs → lv_has ls 5 [(0, .ref a_t), (1, .int y1)] → ag2 v_pile v_mark y1 = some kk' → W p l e rX5_looksFar s m args below meth c H locs 0 0 (MQ below (q_Rv D A ((fun k : (Nat → Int32) × (Nat → Int32) => (wX5_looksFar cI cJ cZ cS a_t a_s a_keptS a_statuses a_pile a_tape a_steps a_wish a_mark a_bitsOf a_sizeOf a_number a_moved v_isKept v_taped v_at v_fault v_laid v_open v_s k.1 k.2)) kk')) args s 0 0 A) (F0 m 2 ls [])) : ∀ {v_pile : Nat → Int32} {v_mark : Nat → Int32} {s1 : Int32} {s2 : Int32} {y1 : Int32} {H : Heap} {locs : List Loc} {ls : Array Slot}, q_H D A s (wX5_looksFar cI cJ cZ cS a_t a_s a_keptS a_statuses a_pile a_tape a_steps a_wish a_mark a_bitsOf a_sizeOf a_number a_moved v_isKept v_taped v_at v_fault v_laid v_open v_s v_pile v_mark) H locs → lv_has ls 5 [(0, .ref a_t), (1, .int y1)] → fX5_looksFar_29 v_s ag2 v_pile v_mark s1 s2 y1 = some kk' → W p l e rX5_looksFar s m args below meth c H locs 0 0 (MQ below (q_Rv D A ((fun k : (Nat → Int32) × (Nat → Int32) => (wX5_looksFar cI cJ cZ cS a_t a_s a_keptS a_statuses a_pile a_tape a_steps a_wish a_mark a_bitsOf a_sizeOf a_number a_moved v_isKept v_taped v_at v_fault v_laid v_open v_s k.1 k.2)) kk')) args s 0 0 A) (F0 m 29 ls [.int s2, .int s1, .ref a_mark]) := by
  intro v_pile v_mark s1 s2 y1 H locs ls h hl hf
  have hx := fx.1
  have hb := fx.2.1
  unfold fX5_looksFar_29 at hf
  obtain ⟨i14, hf⟩ := gIn_inv hf
  refine q_iast (ws' := (wX5_looksFar cI cJ cZ cS a_t a_s a_keptS a_statuses a_pile a_tape a_steps a_wish a_mark a_bitsOf a_sizeOf a_number a_moved v_isKept v_taped v_at v_fault v_laid v_open v_s v_pile (upd v_mark s1.toNatClampNeg s2))) fx h 3 rfl i14 rfl dX5_looksFar_29 (fun H locs h => ?_)
  obtain ⟨u15, eu15, hf⟩ := nm_inv hf
  refine lv_iinc (v := u15) (lv' := [(1, .int u15), (0, .ref a_t)]) hx hb dX5_looksFar_30 hl (k := 1) rfl (by rw [eu15]; rfl) (by decide) rfl (fun ls hl => ?_)
  refine lv_goto (tgt := 2) hx hb dX5_looksFar_33 (by decide) ?_
  exact hag2 h (lv_sub hl [1, 0] rfl) hf
def fX5_looksFar_2 (v_s : Nat → Int32) (ag2 : (Nat → Int32) → (Nat → Int32) → Int32 → Option ((Nat → Int32) × (Nat → Int32))) (v_pile : Nat → Int32) (v_mark : Nat → Int32) (y1 : Int32) : Option ((Nat → Int32) × (Nat → Int32)) :=
  bR (fX5_lists v_s) (fun r16 k16 =>
  (if r16 ≤ y1 then (
  ll4 (fX5_looksFar_40 v_s) qF v_pile v_mark 1 1)
  else (
  bR (fX5_would v_s v_pile y1) (fun r18 k18 =>
  (if r18 = y1 then (
  fX5_looksFar_29 v_s ag2 k18 v_mark y1 0 y1)
  else (
  fX5_looksFar_29 v_s ag2 k18 v_mark y1 (-1) y1))))))
set_option maxRecDepth 100000 in
set_option maxHeartbeats 4000000 in
theorem LX5_looksFar_2 {p : Program} {l : Launch} {e : Env} {s : State} {m : MethodId} {args : Array Value} {below : List Frame} {meth : Method} {c : Code} {D : va_G} {cI cJ cZ cS : ClassId} {tb : Nat} {A : Nat → Prop} {a_t a_s a_keptS a_statuses a_pile a_tape a_steps a_wish a_mark a_bitsOf a_sizeOf a_number a_moved : Nat} {v_isKept : Int32} {v_taped : Int32} {v_at : Int32} {v_fault : Int32} {v_laid : Int32} {v_open : Int32} {v_s : Nat → Int32} {kk' : (Nat → Int32) × (Nat → Int32)} (fx : q_Fx p s m args meth c cX5_looksFar 5 RX5 none D cI cJ cZ cS tb A) {ag2 : (Nat → Int32) → (Nat → Int32) → Int32 → Option ((Nat → Int32) × (Nat → Int32))} (hag2 : ∀ {v_pile : Nat → Int32} {v_mark : Nat → Int32} {y1 : Int32} {H : Heap} {locs : List Loc} {ls : Array Slot}, q_H D A s (wX5_looksFar cI cJ cZ cS a_t a_s a_keptS a_statuses a_pile a_tape a_steps a_wish a_mark a_bitsOf a_sizeOf a_number a_moved v_isKept v_taped v_at v_fault v_laid v_open v_s v_pile v_mark) H locs → lv_has ls 5 [(0, .ref a_t), (1, .int y1)] → ag2 v_pile v_mark y1 = some kk' → W p l e rX5_looksFar s m args below meth c H locs 0 0 (MQ below (q_Rv D A ((fun k : (Nat → Int32) × (Nat → Int32) => (wX5_looksFar cI cJ cZ cS a_t a_s a_keptS a_statuses a_pile a_tape a_steps a_wish a_mark a_bitsOf a_sizeOf a_number a_moved v_isKept v_taped v_at v_fault v_laid v_open v_s k.1 k.2)) kk')) args s 0 0 A) (F0 m 2 ls [])) : ∀ {v_pile : Nat → Int32} {v_mark : Nat → Int32} {y1 : Int32} {H : Heap} {locs : List Loc} {ls : Array Slot}, q_H D A s (wX5_looksFar cI cJ cZ cS a_t a_s a_keptS a_statuses a_pile a_tape a_steps a_wish a_mark a_bitsOf a_sizeOf a_number a_moved v_isKept v_taped v_at v_fault v_laid v_open v_s v_pile v_mark) H locs → lv_has ls 5 [(0, .ref a_t), (1, .int y1)] → fX5_looksFar_2 v_s ag2 v_pile v_mark y1 = some kk' → W p l e rX5_looksFar s m args below meth c H locs 0 0 (MQ below (q_Rv D A ((fun k : (Nat → Int32) × (Nat → Int32) => (wX5_looksFar cI cJ cZ cS a_t a_s a_keptS a_statuses a_pile a_tape a_steps a_wish a_mark a_bitsOf a_sizeOf a_number a_moved v_isKept v_taped v_at v_fault v_laid v_open v_s k.1 k.2)) kk')) args s 0 0 A) (F0 m 2 ls []) := by
  intro v_pile v_mark y1 H locs ls h hl hf
  have hx := fx.1
  have hb := fx.2.1
  unfold fX5_looksFar_2 at hf
  refine lv_iload_n hx hb dX5_looksFar_2 rfl (lv_at hl 1 rfl) ?_
  refine lv_aload_n hx hb dX5_looksFar_3 rfl (lv_at hl 0 rfl) ?_
  obtain ⟨r16, k16, hg, hf⟩ := bR_inv hf
  refine q_ci (rest := [.int y1]) (ws' := (wX5_looksFar cI cJ cZ cS a_t a_s a_keptS a_statuses a_pile a_tape a_steps a_wish a_mark a_bitsOf a_sizeOf a_number a_moved v_isKept v_taped v_at v_fault v_laid v_open v_s v_pile v_mark)) (w1 := (wX5_lists cI cJ cZ cS a_t a_s a_keptS a_statuses a_pile a_tape a_steps a_wish a_mark a_bitsOf a_sizeOf a_number a_moved v_isKept v_taped v_at v_fault v_laid v_open v_s)) fx h [0, 1] rfl rfl rfl rfl (q_runV fx h hl.1 [0, 1] rfl rfl (tX5_lists l D cI cJ cZ cS tb a_t a_s a_keptS a_statuses a_pile a_tape a_steps a_wish a_mark a_bitsOf a_sizeOf a_number a_moved H.size v_isKept v_taped v_at v_fault v_laid v_open v_s r16 k16 hg) mvX5_lists k_810 ⟨rfl, rfl⟩ ⟨Nat.le_of_ble_eq_true rfl, Nat.le_of_ble_eq_true rfl⟩ rfl rfl rfl rfl (Nat.le_of_ble_eq_true rfl) dX5_looksFar_4 ⟨Nat.le_of_ble_eq_true rfl, Nat.le_of_ble_eq_true rfl⟩) (fun H locs h => ?_)
  refine lv_icmp_ge (tgt := 36) hx hb dX5_looksFar_7 (by decide) (fun c17 => ?_) (fun c17 => ?_)
  · have hf := it_t c17 hf
    refine lv_iconst (v := 1) hx hb dX5_looksFar_36 (by decide) ?_
    refine lv_istore_n (lv' := [(1, .int 1), (0, .ref a_t)]) hx hb dX5_looksFar_37 rfl hl (by decide) rfl (fun ls hl => ?_)
    refine lv_iconst (v := 1) hx hb dX5_looksFar_38 (by decide) ?_
    refine lv_istore_n (lv' := [(2, .int 1), (1, .int 1), (0, .ref a_t)]) hx hb dX5_looksFar_39 rfl hl (by decide) rfl (fun ls hl => ?_)
    exact EX5_looksFar_40 fx qF h (lv_sub hl [2, 1, 0] rfl) hf
  have hf := it_f c17 hf
  refine lv_aload_n hx hb dX5_looksFar_10 rfl (lv_at hl 0 rfl) ?_
  refine q_get (v := .ref a_mark) fx inX5 h 0 rfl rfl 13 (by decide) k_649 rfl dX5_looksFar_11 ?_
  refine lv_iload_n hx hb dX5_looksFar_14 rfl (lv_at hl 1 rfl) ?_
  refine lv_aload_n hx hb dX5_looksFar_15 rfl (lv_at hl 0 rfl) ?_
  refine lv_iload_n hx hb dX5_looksFar_16 rfl (lv_at hl 1 rfl) ?_
  obtain ⟨r18, k18, hg, hf⟩ := bR_inv hf
  refine q_ci (rest := [.int y1, .ref a_mark]) (ws' := (wX5_looksFar cI cJ cZ cS a_t a_s a_keptS a_statuses a_pile a_tape a_steps a_wish a_mark a_bitsOf a_sizeOf a_number a_moved v_isKept v_taped v_at v_fault v_laid v_open v_s k18 v_mark)) (w1 := (wX5_would cI cJ cZ cS a_t a_s a_keptS a_statuses a_pile a_tape a_steps a_wish a_mark a_bitsOf a_sizeOf a_number a_moved v_isKept v_taped v_at v_fault v_laid v_open v_s k18)) fx h [0, 1, 2] rfl rfl rfl rfl (q_runV fx h hl.1 [0, 1, 2] rfl rfl (tX5_would l D cI cJ cZ cS tb a_t a_s a_keptS a_statuses a_pile a_tape a_steps a_wish a_mark a_bitsOf a_sizeOf a_number a_moved H.size v_isKept v_taped v_at v_fault v_laid v_open v_s v_pile y1 r18 k18 hg) mvX5_would k_818 ⟨rfl, rfl⟩ ⟨Nat.le_of_ble_eq_true rfl, Nat.le_of_ble_eq_true rfl⟩ rfl rfl rfl rfl (Nat.le_of_ble_eq_true rfl) dX5_looksFar_17 ⟨Nat.le_of_ble_eq_true rfl, Nat.le_of_ble_eq_true rfl⟩) (fun H locs h => ?_)
  refine lv_iload_n hx hb dX5_looksFar_20 rfl (lv_at hl 1 rfl) ?_
  refine lv_icmp_ne (tgt := 28) hx hb dX5_looksFar_21 (by decide) (fun c19 => ?_) (fun c19 => ?_)
  · have hf := it_f c19 hf
    refine lv_iconst (v := -1) hx hb dX5_looksFar_28 (by decide) ?_
    exact LX5_looksFar_29 fx hag2 h (lv_sub hl [0, 1] rfl) hf
  have hf := it_t c19 hf
  refine lv_iconst (v := 0) hx hb dX5_looksFar_24 (by decide) ?_
  refine lv_goto (tgt := 29) hx hb dX5_looksFar_25 (by decide) ?_
  exact LX5_looksFar_29 fx hag2 h (lv_sub hl [0, 1] rfl) hf
set_option maxRecDepth 100000 in
theorem EX5_looksFar_2 {p : Program} {l : Launch} {e : Env} {s : State} {m : MethodId} {args : Array Value} {below : List Frame} {meth : Method} {c : Code} {D : va_G} {cI cJ cZ cS : ClassId} {tb : Nat} {A : Nat → Prop} {a_t a_s a_keptS a_statuses a_pile a_tape a_steps a_wish a_mark a_bitsOf a_sizeOf a_number a_moved : Nat} {v_isKept : Int32} {v_taped : Int32} {v_at : Int32} {v_fault : Int32} {v_laid : Int32} {v_open : Int32} {v_s : Nat → Int32} {kk' : (Nat → Int32) × (Nat → Int32)} (fx : q_Fx p s m args meth c cX5_looksFar 5 RX5 none D cI cJ cZ cS tb A) : ∀ (n : Nat), ∀ {v_pile : Nat → Int32} {v_mark : Nat → Int32} {y1 : Int32} {H : Heap} {locs : List Loc} {ls : Array Slot}, q_H D A s (wX5_looksFar cI cJ cZ cS a_t a_s a_keptS a_statuses a_pile a_tape a_steps a_wish a_mark a_bitsOf a_sizeOf a_number a_moved v_isKept v_taped v_at v_fault v_laid v_open v_s v_pile v_mark) H locs → lv_has ls 5 [(0, .ref a_t), (1, .int y1)] → ll3 (fX5_looksFar_2 v_s) n v_pile v_mark y1 = some kk' → W p l e rX5_looksFar s m args below meth c H locs 0 0 (MQ below (q_Rv D A ((fun k : (Nat → Int32) × (Nat → Int32) => (wX5_looksFar cI cJ cZ cS a_t a_s a_keptS a_statuses a_pile a_tape a_steps a_wish a_mark a_bitsOf a_sizeOf a_number a_moved v_isKept v_taped v_at v_fault v_laid v_open v_s k.1 k.2)) kk')) args s 0 0 A) (F0 m 2 ls []) := by
  intro n
  induction n with
  | zero => intro v_pile v_mark y1 H locs ls h hl hf; exact (ll3_z hf).elim
  | succ n ih => intro v_pile v_mark y1 H locs ls h hl hf; exact LX5_looksFar_2 fx ih h hl (ll3_s hf)
def fX5_looksFar (v_s : Nat → Int32) (v_pile : Nat → Int32) (v_mark : Nat → Int32) : Option ((Nat → Int32) × (Nat → Int32)) :=
  ll3 (fX5_looksFar_2 v_s) qF v_pile v_mark 0
set_option maxRecDepth 100000 in
set_option maxHeartbeats 4000000 in
theorem tX5_looksFar (l : Launch) (D : va_G) (cI cJ cZ cS : ClassId) (tb : Nat) (a_t a_s a_keptS a_statuses a_pile a_tape a_steps a_wish a_mark a_bitsOf a_sizeOf a_number a_moved : Nat) (sz : Nat) (v_isKept : Int32) (v_taped : Int32) (v_at : Int32) (v_fault : Int32) (v_laid : Int32) (v_open : Int32) (v_s : Nat → Int32) (v_pile : Nat → Int32) (v_mark : Nat → Int32) (kk' : (Nat → Int32) × (Nat → Int32)) (hf : fX5_looksFar v_s v_pile v_mark = some kk') : Met l yX5_looksFar (Cond.code yX5_looksFar cX5_looksFar 5 none :: wA) rX5_looksFar (q_Pre D cI cJ cZ cS tb [.ref a_t] sz (wX5_looksFar cI cJ cZ cS a_t a_s a_keptS a_statuses a_pile a_tape a_steps a_wish a_mark a_bitsOf a_sizeOf a_number a_moved v_isKept v_taped v_at v_fault v_laid v_open v_s v_pile v_mark)) (q_Rv D (va_A (wX5_looksFar cI cJ cZ cS a_t a_s a_keptS a_statuses a_pile a_tape a_steps a_wish a_mark a_bitsOf a_sizeOf a_number a_moved v_isKept v_taped v_at v_fault v_laid v_open v_s v_pile v_mark) sz) ((fun k : (Nat → Int32) × (Nat → Int32) => (wX5_looksFar cI cJ cZ cS a_t a_s a_keptS a_statuses a_pile a_tape a_steps a_wish a_mark a_bitsOf a_sizeOf a_number a_moved v_isKept v_taped v_at v_fault v_laid v_open v_s k.1 k.2)) kk')) 0 0 (va_A (wX5_looksFar cI cJ cZ cS a_t a_s a_keptS a_statuses a_pile a_tape a_steps a_wish a_mark a_bitsOf a_sizeOf a_number a_moved v_isKept v_taped v_at v_fault v_laid v_open v_s v_pile v_mark) sz) := by
  refine q_enter (Qf := fun A => (q_Rv D A ((fun k : (Nat → Int32) × (Nat → Int32) => (wX5_looksFar cI cJ cZ cS a_t a_s a_keptS a_statuses a_pile a_tape a_steps a_wish a_mark a_bitsOf a_sizeOf a_number a_moved v_isKept v_taped v_at v_fault v_laid v_open v_s k.1 k.2)) kk'))) (by decide) rfl (Nat.le_of_ble_eq_true rfl) ?_
  intro p e s m below meth c A ls fx hname h hl
  have hx := fx.1
  have hb := fx.2.1
  have hl : lv_has ls 5 [(0, .ref a_t)] := hl
  generalize h9 : s.heap = H at h ⊢
  clear h9
  generalize h9 : ([] : List Loc) = locs at h ⊢
  clear h9
  unfold fX5_looksFar at hf
  refine lv_iconst (v := 0) hx hb dX5_looksFar_0 (by decide) ?_
  refine lv_istore_n (lv' := [(1, .int 0), (0, .ref a_t)]) hx hb dX5_looksFar_1 rfl hl (by decide) rfl (fun ls hl => ?_)
  exact EX5_looksFar_2 fx qF h (lv_sub hl [1, 0] rfl) hf
/-! X5_fewest -/
abbrev wX5_fewest (cI cJ cZ cS : ClassId) (a_t a_s a_keptS a_statuses a_pile a_tape a_steps a_wish a_mark a_bitsOf a_sizeOf a_number a_moved : Nat) (v_isKept : Int32) (v_taped : Int32) (v_at : Int32) (v_fault : Int32) (v_laid : Int32) (v_open : Int32) (v_s : Nat → Int32) (v_statuses : Nat → Int32) (v_pile : Nat → Int32) (v_mark : Nat → Int32) : va_W := [(a_t, .inr (5, [.ref a_s, .ref a_keptS, .ref a_statuses, .int v_isKept, .ref a_pile, .ref a_tape, .ref a_steps, .int v_taped, .int v_at, .int v_fault, .int v_laid, .int v_open, .ref a_wish, .ref a_mark, .ref a_bitsOf, .ref a_sizeOf, .ref a_number, .ref a_moved])), (a_s, .inl (cI, 538, .inl v_s)), (a_statuses, .inl (cI, 7, .inl v_statuses)), (a_pile, .inl (cZ, 64, .inl v_pile)), (a_mark, .inl (cI, 256, .inl v_mark))]
abbrev rX5_fewest : Room := { frames := 6, cells := 0, slots := 0, locals := 140 }
def fX5_fewest (v_s : Nat → Int32) (v_statuses : Nat → Int32) (v_pile : Nat → Int32) (v_mark : Nat → Int32) : Option (Int32 × (Nat → Int32) × (Nat → Int32) × (Nat → Int32)) :=
  bV (fX5_looksFar v_s v_pile v_mark) (fun k1 =>
  gIn (v_s 1) 256 (
  bR (fX5_orNone v_statuses (k1.2 (v_s 1).toNatClampNeg)) (fun r3 k3 =>
  some (r3, (k3, k1.1, k1.2)))))
set_option maxRecDepth 100000 in
set_option maxHeartbeats 4000000 in
theorem tX5_fewest (l : Launch) (D : va_G) (cI cJ cZ cS : ClassId) (tb : Nat) (a_t a_s a_keptS a_statuses a_pile a_tape a_steps a_wish a_mark a_bitsOf a_sizeOf a_number a_moved : Nat) (sz : Nat) (v_isKept : Int32) (v_taped : Int32) (v_at : Int32) (v_fault : Int32) (v_laid : Int32) (v_open : Int32) (v_s : Nat → Int32) (v_statuses : Nat → Int32) (v_pile : Nat → Int32) (v_mark : Nat → Int32) (rr : Int32) (kk' : (Nat → Int32) × (Nat → Int32) × (Nat → Int32)) (hf : fX5_fewest v_s v_statuses v_pile v_mark = some (rr, kk')) : Met l yX5_fewest (Cond.code yX5_fewest cX5_fewest 1 (some .int) :: wA) rX5_fewest (q_Pre D cI cJ cZ cS tb [.ref a_t] sz (wX5_fewest cI cJ cZ cS a_t a_s a_keptS a_statuses a_pile a_tape a_steps a_wish a_mark a_bitsOf a_sizeOf a_number a_moved v_isKept v_taped v_at v_fault v_laid v_open v_s v_statuses v_pile v_mark)) (q_Ri D rr (va_A (wX5_fewest cI cJ cZ cS a_t a_s a_keptS a_statuses a_pile a_tape a_steps a_wish a_mark a_bitsOf a_sizeOf a_number a_moved v_isKept v_taped v_at v_fault v_laid v_open v_s v_statuses v_pile v_mark) sz) ((fun k : (Nat → Int32) × (Nat → Int32) × (Nat → Int32) => (wX5_fewest cI cJ cZ cS a_t a_s a_keptS a_statuses a_pile a_tape a_steps a_wish a_mark a_bitsOf a_sizeOf a_number a_moved v_isKept v_taped v_at v_fault v_laid v_open v_s k.1 k.2.1 k.2.2)) kk')) 0 0 (va_A (wX5_fewest cI cJ cZ cS a_t a_s a_keptS a_statuses a_pile a_tape a_steps a_wish a_mark a_bitsOf a_sizeOf a_number a_moved v_isKept v_taped v_at v_fault v_laid v_open v_s v_statuses v_pile v_mark) sz) := by
  refine q_enter (Qf := fun A => (q_Ri D rr A ((fun k : (Nat → Int32) × (Nat → Int32) × (Nat → Int32) => (wX5_fewest cI cJ cZ cS a_t a_s a_keptS a_statuses a_pile a_tape a_steps a_wish a_mark a_bitsOf a_sizeOf a_number a_moved v_isKept v_taped v_at v_fault v_laid v_open v_s k.1 k.2.1 k.2.2)) kk'))) (by decide) rfl (Nat.le_of_ble_eq_true rfl) ?_
  intro p e s m below meth c A ls fx hname h hl
  have hx := fx.1
  have hb := fx.2.1
  have hl : lv_has ls 1 [(0, .ref a_t)] := hl
  generalize h9 : s.heap = H at h ⊢
  clear h9
  generalize h9 : ([] : List Loc) = locs at h ⊢
  clear h9
  unfold fX5_fewest at hf
  refine lv_aload_n hx hb dX5_fewest_0 rfl (lv_at hl 0 rfl) ?_
  obtain ⟨k1, hg, hf⟩ := bV_inv hf
  refine q_cv (rest := []) (ws' := (wX5_fewest cI cJ cZ cS a_t a_s a_keptS a_statuses a_pile a_tape a_steps a_wish a_mark a_bitsOf a_sizeOf a_number a_moved v_isKept v_taped v_at v_fault v_laid v_open v_s v_statuses k1.1 k1.2)) (w1 := (wX5_looksFar cI cJ cZ cS a_t a_s a_keptS a_statuses a_pile a_tape a_steps a_wish a_mark a_bitsOf a_sizeOf a_number a_moved v_isKept v_taped v_at v_fault v_laid v_open v_s k1.1 k1.2)) fx h [0, 1, 3, 4] rfl rfl rfl rfl (q_runV fx h hl.1 [0, 1, 3, 4] rfl rfl (tX5_looksFar l D cI cJ cZ cS tb a_t a_s a_keptS a_statuses a_pile a_tape a_steps a_wish a_mark a_bitsOf a_sizeOf a_number a_moved H.size v_isKept v_taped v_at v_fault v_laid v_open v_s v_pile v_mark k1 hg) mvX5_looksFar k_873 ⟨rfl, rfl⟩ ⟨Nat.le_of_ble_eq_true rfl, Nat.le_of_ble_eq_true rfl⟩ rfl rfl rfl rfl (Nat.le_of_ble_eq_true rfl) dX5_fewest_1 ⟨Nat.le_of_ble_eq_true rfl, Nat.le_of_ble_eq_true rfl⟩) (fun H locs h => ?_)
  refine lv_aload_n hx hb dX5_fewest_4 rfl (lv_at hl 0 rfl) ?_
  refine lv_aload_n hx hb dX5_fewest_5 rfl (lv_at hl 0 rfl) ?_
  refine q_get (v := .ref a_mark) fx inX5 h 0 rfl rfl 13 (by decide) k_649 rfl dX5_fewest_6 ?_
  refine lv_aload_n hx hb dX5_fewest_9 rfl (lv_at hl 0 rfl) ?_
  refine q_get (v := .ref a_s) fx inX5 h 0 rfl rfl 0 (by decide) k_636 rfl dX5_fewest_10 ?_
  refine lv_iconst (v := 1) hx hb dX5_fewest_13 (by decide) ?_
  refine q_ialdK fx h 1 rfl 1 (vinK (by decide)) (by decide) dX5_fewest_14 ?_
  obtain ⟨i2, hf⟩ := gIn_inv hf
  refine q_iald fx h 4 rfl i2 dX5_fewest_15 ?_
  obtain ⟨r3, k3, hg, hf⟩ := bR_inv hf
  refine q_ci (rest := []) (ws' := (wX5_fewest cI cJ cZ cS a_t a_s a_keptS a_statuses a_pile a_tape a_steps a_wish a_mark a_bitsOf a_sizeOf a_number a_moved v_isKept v_taped v_at v_fault v_laid v_open v_s k3 k1.1 k1.2)) (w1 := (wX5_orNone cI cJ cZ cS a_t a_s a_keptS a_statuses a_pile a_tape a_steps a_wish a_mark a_bitsOf a_sizeOf a_number a_moved v_isKept v_taped v_at v_fault v_laid v_open k3)) fx h [0, 2] rfl rfl rfl rfl (q_runV fx h hl.1 [0, 2] rfl rfl (tX5_orNone l D cI cJ cZ cS tb a_t a_s a_keptS a_statuses a_pile a_tape a_steps a_wish a_mark a_bitsOf a_sizeOf a_number a_moved H.size v_isKept v_taped v_at v_fault v_laid v_open v_statuses (k1.2 (v_s 1).toNatClampNeg) r3 k3 hg) mvX5_orNone k_877 ⟨rfl, rfl⟩ ⟨Nat.le_of_ble_eq_true rfl, Nat.le_of_ble_eq_true rfl⟩ rfl rfl rfl rfl (Nat.le_of_ble_eq_true rfl) dX5_fewest_16 ⟨Nat.le_of_ble_eq_true rfl, Nat.le_of_ble_eq_true rfl⟩) (fun H locs h => ?_)
  exact q_reti (fun k : (Nat → Int32) × (Nat → Int32) × (Nat → Int32) => (wX5_fewest cI cJ cZ cS a_t a_s a_keptS a_statuses a_pile a_tape a_steps a_wish a_mark a_bitsOf a_sizeOf a_number a_moved v_isKept v_taped v_at v_fault v_laid v_open v_s k.1 k.2.1 k.2.2)) fx hf h dX5_fewest_19
/-! X5_first -/
abbrev wX5_first (cI cJ cZ cS : ClassId) (a_t a_s a_keptS a_statuses a_pile a_tape a_steps a_wish a_mark a_bitsOf a_sizeOf a_number a_moved : Nat) (v_isKept : Int32) (v_taped : Int32) (v_at : Int32) (v_fault : Int32) (v_laid : Int32) (v_open : Int32) (v_s : Nat → Int32) (v_statuses : Nat → Int32) (v_pile : Nat → Int32) (v_mark : Nat → Int32) : va_W := [(a_t, .inr (5, [.ref a_s, .ref a_keptS, .ref a_statuses, .int v_isKept, .ref a_pile, .ref a_tape, .ref a_steps, .int v_taped, .int v_at, .int v_fault, .int v_laid, .int v_open, .ref a_wish, .ref a_mark, .ref a_bitsOf, .ref a_sizeOf, .ref a_number, .ref a_moved])), (a_s, .inl (cI, 538, .inl v_s)), (a_statuses, .inl (cI, 7, .inl v_statuses)), (a_pile, .inl (cZ, 64, .inl v_pile)), (a_mark, .inl (cI, 256, .inl v_mark))]
abbrev rX5_first : Room := { frames := 6, cells := 0, slots := 0, locals := 140 }
def fX5_first_62 (v_s : Nat → Int32) (ag27 : (Nat → Int32) → (Nat → Int32) → (Nat → Int32) → Int32 → Int32 → Int32 → Option (Int32 × (Nat → Int32) × (Nat → Int32) × (Nat → Int32))) (v_statuses : Nat → Int32) (v_pile : Nat → Int32) (v_mark : Nat → Int32) (s0 : Int32) (y1 : Int32) (y3 : Int32) : Option (Int32 × (Nat → Int32) × (Nat → Int32) × (Nat → Int32)) :=
  nm (y3 + (-1)) (fun u1 =>
  ag27 v_statuses v_pile v_mark y1 s0 u1)
set_option maxRecDepth 100000 in
set_option maxHeartbeats 4000000 in
theorem LX5_first_62 {p : Program} {l : Launch} {e : Env} {s : State} {m : MethodId} {args : Array Value} {below : List Frame} {meth : Method} {c : Code} {D : va_G} {cI cJ cZ cS : ClassId} {tb : Nat} {A : Nat → Prop} {a_t a_s a_keptS a_statuses a_pile a_tape a_steps a_wish a_mark a_bitsOf a_sizeOf a_number a_moved : Nat} {v_isKept : Int32} {v_taped : Int32} {v_at : Int32} {v_fault : Int32} {v_laid : Int32} {v_open : Int32} {v_s : Nat → Int32} {rr : Int32} {kk' : (Nat → Int32) × (Nat → Int32) × (Nat → Int32)} (fx : q_Fx p s m args meth c cX5_first 4 RX5 (some .int) D cI cJ cZ cS tb A) {ag27 : (Nat → Int32) → (Nat → Int32) → (Nat → Int32) → Int32 → Int32 → Int32 → Option (Int32 × (Nat → Int32) × (Nat → Int32) × (Nat → Int32))} (hag27 : ∀ {v_statuses : Nat → Int32} {v_pile : Nat → Int32} {v_mark : Nat → Int32} {y1 : Int32} {y2 : Int32} {y3 : Int32} {H : Heap} {locs : List Loc} {ls : Array Slot}, q_H D A s (wX5_first cI cJ cZ cS a_t a_s a_keptS a_statuses a_pile a_tape a_steps a_wish a_mark a_bitsOf a_sizeOf a_number a_moved v_isKept v_taped v_at v_fault v_laid v_open v_s v_statuses v_pile v_mark) H locs → lv_has ls 4 [(0, .ref a_t), (1, .int y1), (2, .int y2), (3, .int y3)] → ag27 v_statuses v_pile v_mark y1 y2 y3 = some (rr, kk') → W p l e rX5_first s m args below meth c H locs 0 0 (MQ below (q_Ri D rr A ((fun k : (Nat → Int32) × (Nat → Int32) × (Nat → Int32) => (wX5_first cI cJ cZ cS a_t a_s a_keptS a_statuses a_pile a_tape a_steps a_wish a_mark a_bitsOf a_sizeOf a_number a_moved v_isKept v_taped v_at v_fault v_laid v_open v_s k.1 k.2.1 k.2.2)) kk')) args s 0 0 A) (F0 m 27 ls [])) : ∀ {v_statuses : Nat → Int32} {v_pile : Nat → Int32} {v_mark : Nat → Int32} {s0 : Int32} {y1 : Int32} {y3 : Int32} {H : Heap} {locs : List Loc} {ls : Array Slot}, q_H D A s (wX5_first cI cJ cZ cS a_t a_s a_keptS a_statuses a_pile a_tape a_steps a_wish a_mark a_bitsOf a_sizeOf a_number a_moved v_isKept v_taped v_at v_fault v_laid v_open v_s v_statuses v_pile v_mark) H locs → lv_has ls 4 [(0, .ref a_t), (1, .int y1), (3, .int y3)] → fX5_first_62 v_s ag27 v_statuses v_pile v_mark s0 y1 y3 = some (rr, kk') → W p l e rX5_first s m args below meth c H locs 0 0 (MQ below (q_Ri D rr A ((fun k : (Nat → Int32) × (Nat → Int32) × (Nat → Int32) => (wX5_first cI cJ cZ cS a_t a_s a_keptS a_statuses a_pile a_tape a_steps a_wish a_mark a_bitsOf a_sizeOf a_number a_moved v_isKept v_taped v_at v_fault v_laid v_open v_s k.1 k.2.1 k.2.2)) kk')) args s 0 0 A) (F0 m 62 ls [.int s0]) := by
  intro v_statuses v_pile v_mark s0 y1 y3 H locs ls h hl hf
  have hx := fx.1
  have hb := fx.2.1
  unfold fX5_first_62 at hf
  refine lv_istore_n (lv' := [(2, .int s0), (0, .ref a_t), (1, .int y1), (3, .int y3)]) hx hb dX5_first_62 rfl hl (by decide) rfl (fun ls hl => ?_)
  obtain ⟨u1, eu1, hf⟩ := nm_inv hf
  refine lv_iinc (v := u1) (lv' := [(3, .int u1), (2, .int s0), (0, .ref a_t), (1, .int y1)]) hx hb dX5_first_63 hl (k := 3) rfl (by rw [eu1]; rfl) (by decide) rfl (fun ls hl => ?_)
  refine lv_goto (tgt := 27) hx hb dX5_first_66 (by decide) ?_
  exact hag27 h (lv_sub hl [2, 3, 1, 0] rfl) hf
def fX5_first_61 (v_s : Nat → Int32) (ag27 : (Nat → Int32) → (Nat → Int32) → (Nat → Int32) → Int32 → Int32 → Int32 → Option (Int32 × (Nat → Int32) × (Nat → Int32) × (Nat → Int32))) (v_statuses : Nat → Int32) (v_pile : Nat → Int32) (v_mark : Nat → Int32) (y1 : Int32) (y2 : Int32) (y3 : Int32) : Option (Int32 × (Nat → Int32) × (Nat → Int32) × (Nat → Int32)) :=
  fX5_first_62 v_s ag27 v_statuses v_pile v_mark y2 y1 y3
set_option maxRecDepth 100000 in
set_option maxHeartbeats 4000000 in
theorem LX5_first_61 {p : Program} {l : Launch} {e : Env} {s : State} {m : MethodId} {args : Array Value} {below : List Frame} {meth : Method} {c : Code} {D : va_G} {cI cJ cZ cS : ClassId} {tb : Nat} {A : Nat → Prop} {a_t a_s a_keptS a_statuses a_pile a_tape a_steps a_wish a_mark a_bitsOf a_sizeOf a_number a_moved : Nat} {v_isKept : Int32} {v_taped : Int32} {v_at : Int32} {v_fault : Int32} {v_laid : Int32} {v_open : Int32} {v_s : Nat → Int32} {rr : Int32} {kk' : (Nat → Int32) × (Nat → Int32) × (Nat → Int32)} (fx : q_Fx p s m args meth c cX5_first 4 RX5 (some .int) D cI cJ cZ cS tb A) {ag27 : (Nat → Int32) → (Nat → Int32) → (Nat → Int32) → Int32 → Int32 → Int32 → Option (Int32 × (Nat → Int32) × (Nat → Int32) × (Nat → Int32))} (hag27 : ∀ {v_statuses : Nat → Int32} {v_pile : Nat → Int32} {v_mark : Nat → Int32} {y1 : Int32} {y2 : Int32} {y3 : Int32} {H : Heap} {locs : List Loc} {ls : Array Slot}, q_H D A s (wX5_first cI cJ cZ cS a_t a_s a_keptS a_statuses a_pile a_tape a_steps a_wish a_mark a_bitsOf a_sizeOf a_number a_moved v_isKept v_taped v_at v_fault v_laid v_open v_s v_statuses v_pile v_mark) H locs → lv_has ls 4 [(0, .ref a_t), (1, .int y1), (2, .int y2), (3, .int y3)] → ag27 v_statuses v_pile v_mark y1 y2 y3 = some (rr, kk') → W p l e rX5_first s m args below meth c H locs 0 0 (MQ below (q_Ri D rr A ((fun k : (Nat → Int32) × (Nat → Int32) × (Nat → Int32) => (wX5_first cI cJ cZ cS a_t a_s a_keptS a_statuses a_pile a_tape a_steps a_wish a_mark a_bitsOf a_sizeOf a_number a_moved v_isKept v_taped v_at v_fault v_laid v_open v_s k.1 k.2.1 k.2.2)) kk')) args s 0 0 A) (F0 m 27 ls [])) : ∀ {v_statuses : Nat → Int32} {v_pile : Nat → Int32} {v_mark : Nat → Int32} {y1 : Int32} {y2 : Int32} {y3 : Int32} {H : Heap} {locs : List Loc} {ls : Array Slot}, q_H D A s (wX5_first cI cJ cZ cS a_t a_s a_keptS a_statuses a_pile a_tape a_steps a_wish a_mark a_bitsOf a_sizeOf a_number a_moved v_isKept v_taped v_at v_fault v_laid v_open v_s v_statuses v_pile v_mark) H locs → lv_has ls 4 [(0, .ref a_t), (1, .int y1), (2, .int y2), (3, .int y3)] → fX5_first_61 v_s ag27 v_statuses v_pile v_mark y1 y2 y3 = some (rr, kk') → W p l e rX5_first s m args below meth c H locs 0 0 (MQ below (q_Ri D rr A ((fun k : (Nat → Int32) × (Nat → Int32) × (Nat → Int32) => (wX5_first cI cJ cZ cS a_t a_s a_keptS a_statuses a_pile a_tape a_steps a_wish a_mark a_bitsOf a_sizeOf a_number a_moved v_isKept v_taped v_at v_fault v_laid v_open v_s k.1 k.2.1 k.2.2)) kk')) args s 0 0 A) (F0 m 61 ls []) := by
  intro v_statuses v_pile v_mark y1 y2 y3 H locs ls h hl hf
  have hx := fx.1
  have hb := fx.2.1
  unfold fX5_first_61 at hf
  refine lv_iload_n hx hb dX5_first_61 rfl (lv_at hl 2 rfl) ?_
  exact LX5_first_62 fx hag27 h (lv_sub hl [0, 1, 3] rfl) hf
def fX5_first_27 (v_s : Nat → Int32) (ag27 : (Nat → Int32) → (Nat → Int32) → (Nat → Int32) → Int32 → Int32 → Int32 → Option (Int32 × (Nat → Int32) × (Nat → Int32) × (Nat → Int32))) (v_statuses : Nat → Int32) (v_pile : Nat → Int32) (v_mark : Nat → Int32) (y1 : Int32) (y2 : Int32) (y3 : Int32) : Option (Int32 × (Nat → Int32) × (Nat → Int32) × (Nat → Int32)) :=
  (if y3 < 0 then (
  bR (fX5_orNone v_statuses y2) (fun r3 k3 =>
  some (r3, (k3, v_pile, v_mark))))
  else (
  (if y1 ≤ 0 then (
  fX5_first_61 v_s ag27 v_statuses v_pile v_mark y1 y2 y3)
  else (
  bR (fX5_called v_s v_pile (v_s 1) y3) (fun r5 k5 =>
  gIn r5 256 (
  (if (v_mark r5.toNatClampNeg) = (y1 - 1) then (
  fX5_first_62 v_s ag27 v_statuses k5 v_mark y3 y1 y3)
  else (
  fX5_first_61 v_s ag27 v_statuses k5 v_mark y1 y2 y3))))))))
set_option maxRecDepth 100000 in
set_option maxHeartbeats 4000000 in
theorem LX5_first_27 {p : Program} {l : Launch} {e : Env} {s : State} {m : MethodId} {args : Array Value} {below : List Frame} {meth : Method} {c : Code} {D : va_G} {cI cJ cZ cS : ClassId} {tb : Nat} {A : Nat → Prop} {a_t a_s a_keptS a_statuses a_pile a_tape a_steps a_wish a_mark a_bitsOf a_sizeOf a_number a_moved : Nat} {v_isKept : Int32} {v_taped : Int32} {v_at : Int32} {v_fault : Int32} {v_laid : Int32} {v_open : Int32} {v_s : Nat → Int32} {rr : Int32} {kk' : (Nat → Int32) × (Nat → Int32) × (Nat → Int32)} (fx : q_Fx p s m args meth c cX5_first 4 RX5 (some .int) D cI cJ cZ cS tb A) {ag27 : (Nat → Int32) → (Nat → Int32) → (Nat → Int32) → Int32 → Int32 → Int32 → Option (Int32 × (Nat → Int32) × (Nat → Int32) × (Nat → Int32))} (hag27 : ∀ {v_statuses : Nat → Int32} {v_pile : Nat → Int32} {v_mark : Nat → Int32} {y1 : Int32} {y2 : Int32} {y3 : Int32} {H : Heap} {locs : List Loc} {ls : Array Slot}, q_H D A s (wX5_first cI cJ cZ cS a_t a_s a_keptS a_statuses a_pile a_tape a_steps a_wish a_mark a_bitsOf a_sizeOf a_number a_moved v_isKept v_taped v_at v_fault v_laid v_open v_s v_statuses v_pile v_mark) H locs → lv_has ls 4 [(0, .ref a_t), (1, .int y1), (2, .int y2), (3, .int y3)] → ag27 v_statuses v_pile v_mark y1 y2 y3 = some (rr, kk') → W p l e rX5_first s m args below meth c H locs 0 0 (MQ below (q_Ri D rr A ((fun k : (Nat → Int32) × (Nat → Int32) × (Nat → Int32) => (wX5_first cI cJ cZ cS a_t a_s a_keptS a_statuses a_pile a_tape a_steps a_wish a_mark a_bitsOf a_sizeOf a_number a_moved v_isKept v_taped v_at v_fault v_laid v_open v_s k.1 k.2.1 k.2.2)) kk')) args s 0 0 A) (F0 m 27 ls [])) : ∀ {v_statuses : Nat → Int32} {v_pile : Nat → Int32} {v_mark : Nat → Int32} {y1 : Int32} {y2 : Int32} {y3 : Int32} {H : Heap} {locs : List Loc} {ls : Array Slot}, q_H D A s (wX5_first cI cJ cZ cS a_t a_s a_keptS a_statuses a_pile a_tape a_steps a_wish a_mark a_bitsOf a_sizeOf a_number a_moved v_isKept v_taped v_at v_fault v_laid v_open v_s v_statuses v_pile v_mark) H locs → lv_has ls 4 [(0, .ref a_t), (1, .int y1), (2, .int y2), (3, .int y3)] → fX5_first_27 v_s ag27 v_statuses v_pile v_mark y1 y2 y3 = some (rr, kk') → W p l e rX5_first s m args below meth c H locs 0 0 (MQ below (q_Ri D rr A ((fun k : (Nat → Int32) × (Nat → Int32) × (Nat → Int32) => (wX5_first cI cJ cZ cS a_t a_s a_keptS a_statuses a_pile a_tape a_steps a_wish a_mark a_bitsOf a_sizeOf a_number a_moved v_isKept v_taped v_at v_fault v_laid v_open v_s k.1 k.2.1 k.2.2)) kk')) args s 0 0 A) (F0 m 27 ls []) := by
  intro v_statuses v_pile v_mark y1 y2 y3 H locs ls h hl hf
  have hx := fx.1
  have hb := fx.2.1
  unfold fX5_first_27 at hf
  refine lv_iload_n hx hb dX5_first_27 rfl (lv_at hl 3 rfl) ?_
  refine lv_if_lt (tgt := 69) hx hb dX5_first_28 (by decide) (fun c2 => ?_) (fun c2 => ?_)
  · have hf := it_t c2 hf
    refine lv_aload_n hx hb dX5_first_69 rfl (lv_at hl 0 rfl) ?_
    refine lv_iload_n hx hb dX5_first_70 rfl (lv_at hl 2 rfl) ?_
    obtain ⟨r3, k3, hg, hf⟩ := bR_inv hf
    refine q_ci (rest := []) (ws' := (wX5_first cI cJ cZ cS a_t a_s a_keptS a_statuses a_pile a_tape a_steps a_wish a_mark a_bitsOf a_sizeOf a_number a_moved v_isKept v_taped v_at v_fault v_laid v_open v_s k3 v_pile v_mark)) (w1 := (wX5_orNone cI cJ cZ cS a_t a_s a_keptS a_statuses a_pile a_tape a_steps a_wish a_mark a_bitsOf a_sizeOf a_number a_moved v_isKept v_taped v_at v_fault v_laid v_open k3)) fx h [0, 2] rfl rfl rfl rfl (q_runV fx h hl.1 [0, 2] rfl rfl (tX5_orNone l D cI cJ cZ cS tb a_t a_s a_keptS a_statuses a_pile a_tape a_steps a_wish a_mark a_bitsOf a_sizeOf a_number a_moved H.size v_isKept v_taped v_at v_fault v_laid v_open v_statuses y2 r3 k3 hg) mvX5_orNone k_877 ⟨rfl, rfl⟩ ⟨Nat.le_of_ble_eq_true rfl, Nat.le_of_ble_eq_true rfl⟩ rfl rfl rfl rfl (Nat.le_of_ble_eq_true rfl) dX5_first_71 ⟨Nat.le_of_ble_eq_true rfl, Nat.le_of_ble_eq_true rfl⟩) (fun H locs h => ?_)
    exact q_reti (fun k : (Nat → Int32) × (Nat → Int32) × (Nat → Int32) => (wX5_first cI cJ cZ cS a_t a_s a_keptS a_statuses a_pile a_tape a_steps a_wish a_mark a_bitsOf a_sizeOf a_number a_moved v_isKept v_taped v_at v_fault v_laid v_open v_s k.1 k.2.1 k.2.2)) fx hf h dX5_first_74
  have hf := it_f c2 hf
  refine lv_iload_n hx hb dX5_first_31 rfl (lv_at hl 1 rfl) ?_
  refine lv_if_le (tgt := 61) hx hb dX5_first_32 (by decide) (fun c4 => ?_) (fun c4 => ?_)
  · have hf := it_t c4 hf
    exact LX5_first_61 fx hag27 h (lv_sub hl [0, 1, 2, 3] rfl) hf
  have hf := it_f c4 hf
  refine lv_aload_n hx hb dX5_first_35 rfl (lv_at hl 0 rfl) ?_
  refine q_get (v := .ref a_mark) fx inX5 h 0 rfl rfl 13 (by decide) k_649 rfl dX5_first_36 ?_
  refine lv_aload_n hx hb dX5_first_39 rfl (lv_at hl 0 rfl) ?_
  refine lv_aload_n hx hb dX5_first_40 rfl (lv_at hl 0 rfl) ?_
  refine q_get (v := .ref a_s) fx inX5 h 0 rfl rfl 0 (by decide) k_636 rfl dX5_first_41 ?_
  refine lv_iconst (v := 1) hx hb dX5_first_44 (by decide) ?_
  refine q_ialdK fx h 1 rfl 1 (vinK (by decide)) (by decide) dX5_first_45 ?_
  refine lv_iload_n hx hb dX5_first_46 rfl (lv_at hl 3 rfl) ?_
  obtain ⟨r5, k5, hg, hf⟩ := bR_inv hf
  refine q_ci (rest := [.ref a_mark]) (ws' := (wX5_first cI cJ cZ cS a_t a_s a_keptS a_statuses a_pile a_tape a_steps a_wish a_mark a_bitsOf a_sizeOf a_number a_moved v_isKept v_taped v_at v_fault v_laid v_open v_s v_statuses k5 v_mark)) (w1 := (wX5_called cI cJ cZ cS a_t a_s a_keptS a_statuses a_pile a_tape a_steps a_wish a_mark a_bitsOf a_sizeOf a_number a_moved v_isKept v_taped v_at v_fault v_laid v_open v_s k5)) fx h [0, 1, 3] rfl rfl rfl rfl (q_runV fx h hl.1 [0, 1, 3] rfl rfl (tX5_called l D cI cJ cZ cS tb a_t a_s a_keptS a_statuses a_pile a_tape a_steps a_wish a_mark a_bitsOf a_sizeOf a_number a_moved H.size v_isKept v_taped v_at v_fault v_laid v_open v_s v_pile (v_s 1) y3 r5 k5 hg) mvX5_called k_834 ⟨rfl, rfl⟩ ⟨Nat.le_of_ble_eq_true rfl, Nat.le_of_ble_eq_true rfl⟩ rfl rfl rfl rfl (Nat.le_of_ble_eq_true rfl) dX5_first_47 ⟨Nat.le_of_ble_eq_true rfl, Nat.le_of_ble_eq_true rfl⟩) (fun H locs h => ?_)
  obtain ⟨i6, hf⟩ := gIn_inv hf
  refine q_iald fx h 4 rfl i6 dX5_first_50 ?_
  refine lv_iload_n hx hb dX5_first_51 rfl (lv_at hl 1 rfl) ?_
  refine lv_iconst (v := 1) hx hb dX5_first_52 (by decide) ?_
  refine lv_isub hx hb dX5_first_53 ?_
  refine lv_icmp_ne (tgt := 61) hx hb dX5_first_54 (by decide) (fun c7 => ?_) (fun c7 => ?_)
  · have hf := it_f c7 hf
    exact LX5_first_61 fx hag27 h (lv_sub hl [0, 1, 2, 3] rfl) hf
  have hf := it_t c7 hf
  refine lv_iload_n hx hb dX5_first_57 rfl (lv_at hl 3 rfl) ?_
  refine lv_goto (tgt := 62) hx hb dX5_first_58 (by decide) ?_
  exact LX5_first_62 fx hag27 h (lv_sub hl [0, 1, 3] rfl) hf
set_option maxRecDepth 100000 in
theorem EX5_first_27 {p : Program} {l : Launch} {e : Env} {s : State} {m : MethodId} {args : Array Value} {below : List Frame} {meth : Method} {c : Code} {D : va_G} {cI cJ cZ cS : ClassId} {tb : Nat} {A : Nat → Prop} {a_t a_s a_keptS a_statuses a_pile a_tape a_steps a_wish a_mark a_bitsOf a_sizeOf a_number a_moved : Nat} {v_isKept : Int32} {v_taped : Int32} {v_at : Int32} {v_fault : Int32} {v_laid : Int32} {v_open : Int32} {v_s : Nat → Int32} {rr : Int32} {kk' : (Nat → Int32) × (Nat → Int32) × (Nat → Int32)} (fx : q_Fx p s m args meth c cX5_first 4 RX5 (some .int) D cI cJ cZ cS tb A) : ∀ (n : Nat), ∀ {v_statuses : Nat → Int32} {v_pile : Nat → Int32} {v_mark : Nat → Int32} {y1 : Int32} {y2 : Int32} {y3 : Int32} {H : Heap} {locs : List Loc} {ls : Array Slot}, q_H D A s (wX5_first cI cJ cZ cS a_t a_s a_keptS a_statuses a_pile a_tape a_steps a_wish a_mark a_bitsOf a_sizeOf a_number a_moved v_isKept v_taped v_at v_fault v_laid v_open v_s v_statuses v_pile v_mark) H locs → lv_has ls 4 [(0, .ref a_t), (1, .int y1), (2, .int y2), (3, .int y3)] → ll6 (fX5_first_27 v_s) n v_statuses v_pile v_mark y1 y2 y3 = some (rr, kk') → W p l e rX5_first s m args below meth c H locs 0 0 (MQ below (q_Ri D rr A ((fun k : (Nat → Int32) × (Nat → Int32) × (Nat → Int32) => (wX5_first cI cJ cZ cS a_t a_s a_keptS a_statuses a_pile a_tape a_steps a_wish a_mark a_bitsOf a_sizeOf a_number a_moved v_isKept v_taped v_at v_fault v_laid v_open v_s k.1 k.2.1 k.2.2)) kk')) args s 0 0 A) (F0 m 27 ls []) := by
  intro n
  induction n with
  | zero => intro v_statuses v_pile v_mark y1 y2 y3 H locs ls h hl hf; exact (ll6_z hf).elim
  | succ n ih => intro v_statuses v_pile v_mark y1 y2 y3 H locs ls h hl hf; exact LX5_first_27 fx ih h hl (ll6_s hf)
def fX5_first (v_s : Nat → Int32) (v_statuses : Nat → Int32) (v_pile : Nat → Int32) (v_mark : Nat → Int32) : Option (Int32 × (Nat → Int32) × (Nat → Int32) × (Nat → Int32)) :=
  bV (fX5_looksFar v_s v_pile v_mark) (fun k8 =>
  gIn (v_s 1) 256 (
  nm (k8.2 (v_s 1).toNatClampNeg) (fun u10 =>
  nm ((v_s 0) - 1) (fun u11 =>
  ll6 (fX5_first_27 v_s) qF v_statuses k8.1 k8.2 u10 (-1) u11))))
set_option maxRecDepth 100000 in
set_option maxHeartbeats 4000000 in
theorem tX5_first (l : Launch) (D : va_G) (cI cJ cZ cS : ClassId) (tb : Nat) (a_t a_s a_keptS a_statuses a_pile a_tape a_steps a_wish a_mark a_bitsOf a_sizeOf a_number a_moved : Nat) (sz : Nat) (v_isKept : Int32) (v_taped : Int32) (v_at : Int32) (v_fault : Int32) (v_laid : Int32) (v_open : Int32) (v_s : Nat → Int32) (v_statuses : Nat → Int32) (v_pile : Nat → Int32) (v_mark : Nat → Int32) (rr : Int32) (kk' : (Nat → Int32) × (Nat → Int32) × (Nat → Int32)) (hf : fX5_first v_s v_statuses v_pile v_mark = some (rr, kk')) : Met l yX5_first (Cond.code yX5_first cX5_first 4 (some .int) :: wA) rX5_first (q_Pre D cI cJ cZ cS tb [.ref a_t] sz (wX5_first cI cJ cZ cS a_t a_s a_keptS a_statuses a_pile a_tape a_steps a_wish a_mark a_bitsOf a_sizeOf a_number a_moved v_isKept v_taped v_at v_fault v_laid v_open v_s v_statuses v_pile v_mark)) (q_Ri D rr (va_A (wX5_first cI cJ cZ cS a_t a_s a_keptS a_statuses a_pile a_tape a_steps a_wish a_mark a_bitsOf a_sizeOf a_number a_moved v_isKept v_taped v_at v_fault v_laid v_open v_s v_statuses v_pile v_mark) sz) ((fun k : (Nat → Int32) × (Nat → Int32) × (Nat → Int32) => (wX5_first cI cJ cZ cS a_t a_s a_keptS a_statuses a_pile a_tape a_steps a_wish a_mark a_bitsOf a_sizeOf a_number a_moved v_isKept v_taped v_at v_fault v_laid v_open v_s k.1 k.2.1 k.2.2)) kk')) 0 0 (va_A (wX5_first cI cJ cZ cS a_t a_s a_keptS a_statuses a_pile a_tape a_steps a_wish a_mark a_bitsOf a_sizeOf a_number a_moved v_isKept v_taped v_at v_fault v_laid v_open v_s v_statuses v_pile v_mark) sz) := by
  refine q_enter (Qf := fun A => (q_Ri D rr A ((fun k : (Nat → Int32) × (Nat → Int32) × (Nat → Int32) => (wX5_first cI cJ cZ cS a_t a_s a_keptS a_statuses a_pile a_tape a_steps a_wish a_mark a_bitsOf a_sizeOf a_number a_moved v_isKept v_taped v_at v_fault v_laid v_open v_s k.1 k.2.1 k.2.2)) kk'))) (by decide) rfl (Nat.le_of_ble_eq_true rfl) ?_
  intro p e s m below meth c A ls fx hname h hl
  have hx := fx.1
  have hb := fx.2.1
  have hl : lv_has ls 4 [(0, .ref a_t)] := hl
  generalize h9 : s.heap = H at h ⊢
  clear h9
  generalize h9 : ([] : List Loc) = locs at h ⊢
  clear h9
  unfold fX5_first at hf
  refine lv_aload_n hx hb dX5_first_0 rfl (lv_at hl 0 rfl) ?_
  obtain ⟨k8, hg, hf⟩ := bV_inv hf
  refine q_cv (rest := []) (ws' := (wX5_first cI cJ cZ cS a_t a_s a_keptS a_statuses a_pile a_tape a_steps a_wish a_mark a_bitsOf a_sizeOf a_number a_moved v_isKept v_taped v_at v_fault v_laid v_open v_s v_statuses k8.1 k8.2)) (w1 := (wX5_looksFar cI cJ cZ cS a_t a_s a_keptS a_statuses a_pile a_tape a_steps a_wish a_mark a_bitsOf a_sizeOf a_number a_moved v_isKept v_taped v_at v_fault v_laid v_open v_s k8.1 k8.2)) fx h [0, 1, 3, 4] rfl rfl rfl rfl (q_runV fx h hl.1 [0, 1, 3, 4] rfl rfl (tX5_looksFar l D cI cJ cZ cS tb a_t a_s a_keptS a_statuses a_pile a_tape a_steps a_wish a_mark a_bitsOf a_sizeOf a_number a_moved H.size v_isKept v_taped v_at v_fault v_laid v_open v_s v_pile v_mark k8 hg) mvX5_looksFar k_873 ⟨rfl, rfl⟩ ⟨Nat.le_of_ble_eq_true rfl, Nat.le_of_ble_eq_true rfl⟩ rfl rfl rfl rfl (Nat.le_of_ble_eq_true rfl) dX5_first_1 ⟨Nat.le_of_ble_eq_true rfl, Nat.le_of_ble_eq_true rfl⟩) (fun H locs h => ?_)
  refine lv_aload_n hx hb dX5_first_4 rfl (lv_at hl 0 rfl) ?_
  refine q_get (v := .ref a_mark) fx inX5 h 0 rfl rfl 13 (by decide) k_649 rfl dX5_first_5 ?_
  refine lv_aload_n hx hb dX5_first_8 rfl (lv_at hl 0 rfl) ?_
  refine q_get (v := .ref a_s) fx inX5 h 0 rfl rfl 0 (by decide) k_636 rfl dX5_first_9 ?_
  refine lv_iconst (v := 1) hx hb dX5_first_12 (by decide) ?_
  refine q_ialdK fx h 1 rfl 1 (vinK (by decide)) (by decide) dX5_first_13 ?_
  obtain ⟨i9, hf⟩ := gIn_inv hf
  refine q_iald fx h 4 rfl i9 dX5_first_14 ?_
  obtain ⟨u10, eu10, hf⟩ := nm_inv hf
  refine lv_eqi eu10 ?_
  refine lv_istore_n (lv' := [(1, .int u10), (0, .ref a_t)]) hx hb dX5_first_15 rfl hl (by decide) rfl (fun ls hl => ?_)
  refine lv_iconst (v := -1) hx hb dX5_first_16 (by decide) ?_
  refine lv_istore_n (lv' := [(2, .int (-1)), (1, .int u10), (0, .ref a_t)]) hx hb dX5_first_17 rfl hl (by decide) rfl (fun ls hl => ?_)
  refine lv_aload_n hx hb dX5_first_18 rfl (lv_at hl 2 rfl) ?_
  refine q_get (v := .ref a_s) fx inX5 h 0 rfl rfl 0 (by decide) k_636 rfl dX5_first_19 ?_
  refine lv_iconst (v := 0) hx hb dX5_first_22 (by decide) ?_
  refine q_ialdK fx h 1 rfl 0 (vinK (by decide)) (by decide) dX5_first_23 ?_
  refine lv_iconst (v := 1) hx hb dX5_first_24 (by decide) ?_
  refine lv_isub hx hb dX5_first_25 ?_
  obtain ⟨u11, eu11, hf⟩ := nm_inv hf
  refine lv_eqi eu11 ?_
  refine lv_istore_n (lv' := [(3, .int u11), (2, .int (-1)), (1, .int u10), (0, .ref a_t)]) hx hb dX5_first_26 rfl hl (by decide) rfl (fun ls hl => ?_)
  exact EX5_first_27 fx qF h (lv_sub hl [3, 2, 1, 0] rfl) hf
/-! X5_manySettled -/
abbrev wX5_manySettled (cI cJ cZ cS : ClassId) (a_t a_s a_keptS a_statuses a_pile a_tape a_steps a_wish a_mark a_bitsOf a_sizeOf a_number a_moved : Nat) (v_isKept : Int32) (v_taped : Int32) (v_at : Int32) (v_fault : Int32) (v_laid : Int32) (v_open : Int32) (v_s : Nat → Int32) (v_pile : Nat → Int32) (v_wish : Nat → Int32) : va_W := [(a_t, .inr (5, [.ref a_s, .ref a_keptS, .ref a_statuses, .int v_isKept, .ref a_pile, .ref a_tape, .ref a_steps, .int v_taped, .int v_at, .int v_fault, .int v_laid, .int v_open, .ref a_wish, .ref a_mark, .ref a_bitsOf, .ref a_sizeOf, .ref a_number, .ref a_moved])), (a_s, .inl (cI, 538, .inl v_s)), (a_pile, .inl (cZ, 64, .inl v_pile)), (a_wish, .inl (cI, 256, .inl v_wish))]
abbrev rX5_manySettled : Room := { frames := 6, cells := 0, slots := 0, locals := 137 }
def fX5_manySettled_32 (v_s : Nat → Int32) (ag8 : (Nat → Int32) → (Nat → Int32) → Int32 → Int32 → Option (Int32 × (Nat → Int32) × (Nat → Int32))) (v_pile : Nat → Int32) (v_wish : Nat → Int32) (s0 : Int32) (s1 : Int32) (y2 : Int32) : Option (Int32 × (Nat → Int32) × (Nat → Int32)) :=
  nm (s0 + s1) (fun u1 =>
  nm (y2 + 1) (fun u2 =>
  ag8 v_pile v_wish u1 u2))
set_option maxRecDepth 100000 in
set_option maxHeartbeats 4000000 in
theorem LX5_manySettled_32 {p : Program} {l : Launch} {e : Env} {s : State} {m : MethodId} {args : Array Value} {below : List Frame} {meth : Method} {c : Code} {D : va_G} {cI cJ cZ cS : ClassId} {tb : Nat} {A : Nat → Prop} {a_t a_s a_keptS a_statuses a_pile a_tape a_steps a_wish a_mark a_bitsOf a_sizeOf a_number a_moved : Nat} {v_isKept : Int32} {v_taped : Int32} {v_at : Int32} {v_fault : Int32} {v_laid : Int32} {v_open : Int32} {v_s : Nat → Int32} {rr : Int32} {kk' : (Nat → Int32) × (Nat → Int32)} (fx : q_Fx p s m args meth c cX5_manySettled 3 RX5 (some .int) D cI cJ cZ cS tb A) {ag8 : (Nat → Int32) → (Nat → Int32) → Int32 → Int32 → Option (Int32 × (Nat → Int32) × (Nat → Int32))} (hag8 : ∀ {v_pile : Nat → Int32} {v_wish : Nat → Int32} {y1 : Int32} {y2 : Int32} {H : Heap} {locs : List Loc} {ls : Array Slot}, q_H D A s (wX5_manySettled cI cJ cZ cS a_t a_s a_keptS a_statuses a_pile a_tape a_steps a_wish a_mark a_bitsOf a_sizeOf a_number a_moved v_isKept v_taped v_at v_fault v_laid v_open v_s v_pile v_wish) H locs → lv_has ls 3 [(0, .ref a_t), (1, .int y1), (2, .int y2)] → ag8 v_pile v_wish y1 y2 = some (rr, kk') → W p l e rX5_manySettled s m args below meth c H locs 0 0 (MQ below (q_Ri D rr A ((fun k : (Nat → Int32) × (Nat → Int32) => (wX5_manySettled cI cJ cZ cS a_t a_s a_keptS a_statuses a_pile a_tape a_steps a_wish a_mark a_bitsOf a_sizeOf a_number a_moved v_isKept v_taped v_at v_fault v_laid v_open v_s k.1 k.2)) kk')) args s 0 0 A) (F0 m 8 ls [])) : ∀ {v_pile : Nat → Int32} {v_wish : Nat → Int32} {s0 : Int32} {s1 : Int32} {y2 : Int32} {H : Heap} {locs : List Loc} {ls : Array Slot}, q_H D A s (wX5_manySettled cI cJ cZ cS a_t a_s a_keptS a_statuses a_pile a_tape a_steps a_wish a_mark a_bitsOf a_sizeOf a_number a_moved v_isKept v_taped v_at v_fault v_laid v_open v_s v_pile v_wish) H locs → lv_has ls 3 [(0, .ref a_t), (2, .int y2)] → fX5_manySettled_32 v_s ag8 v_pile v_wish s0 s1 y2 = some (rr, kk') → W p l e rX5_manySettled s m args below meth c H locs 0 0 (MQ below (q_Ri D rr A ((fun k : (Nat → Int32) × (Nat → Int32) => (wX5_manySettled cI cJ cZ cS a_t a_s a_keptS a_statuses a_pile a_tape a_steps a_wish a_mark a_bitsOf a_sizeOf a_number a_moved v_isKept v_taped v_at v_fault v_laid v_open v_s k.1 k.2)) kk')) args s 0 0 A) (F0 m 32 ls [.int s1, .int s0]) := by
  intro v_pile v_wish s0 s1 y2 H locs ls h hl hf
  have hx := fx.1
  have hb := fx.2.1
  unfold fX5_manySettled_32 at hf
  refine lv_iadd hx hb dX5_manySettled_32 ?_
  obtain ⟨u1, eu1, hf⟩ := nm_inv hf
  refine lv_eqi eu1 ?_
  refine lv_istore_n (lv' := [(1, .int u1), (0, .ref a_t), (2, .int y2)]) hx hb dX5_manySettled_33 rfl hl (by decide) rfl (fun ls hl => ?_)
  obtain ⟨u2, eu2, hf⟩ := nm_inv hf
  refine lv_iinc (v := u2) (lv' := [(2, .int u2), (1, .int u1), (0, .ref a_t)]) hx hb dX5_manySettled_34 hl (k := 2) rfl (by rw [eu2]; rfl) (by decide) rfl (fun ls hl => ?_)
  refine lv_goto (tgt := 8) hx hb dX5_manySettled_37 (by decide) ?_
  exact hag8 h (lv_sub hl [2, 1, 0] rfl) hf
def fX5_manySettled_8 (v_s : Nat → Int32) (ag8 : (Nat → Int32) → (Nat → Int32) → Int32 → Int32 → Option (Int32 × (Nat → Int32) × (Nat → Int32))) (v_pile : Nat → Int32) (v_wish : Nat → Int32) (y1 : Int32) (y2 : Int32) : Option (Int32 × (Nat → Int32) × (Nat → Int32)) :=
  bR (fX5_lists v_s) (fun r3 k3 =>
  (if r3 ≤ y2 then (
  some (y1, (v_pile, v_wish)))
  else (
  gIn y2 256 (
  (if (v_wish y2.toNatClampNeg) = y2 then (
  fX5_manySettled_32 v_s ag8 v_pile v_wish y1 1 y2)
  else (
  fX5_manySettled_32 v_s ag8 v_pile v_wish y1 0 y2))))))
set_option maxRecDepth 100000 in
set_option maxHeartbeats 4000000 in
theorem LX5_manySettled_8 {p : Program} {l : Launch} {e : Env} {s : State} {m : MethodId} {args : Array Value} {below : List Frame} {meth : Method} {c : Code} {D : va_G} {cI cJ cZ cS : ClassId} {tb : Nat} {A : Nat → Prop} {a_t a_s a_keptS a_statuses a_pile a_tape a_steps a_wish a_mark a_bitsOf a_sizeOf a_number a_moved : Nat} {v_isKept : Int32} {v_taped : Int32} {v_at : Int32} {v_fault : Int32} {v_laid : Int32} {v_open : Int32} {v_s : Nat → Int32} {rr : Int32} {kk' : (Nat → Int32) × (Nat → Int32)} (fx : q_Fx p s m args meth c cX5_manySettled 3 RX5 (some .int) D cI cJ cZ cS tb A) {ag8 : (Nat → Int32) → (Nat → Int32) → Int32 → Int32 → Option (Int32 × (Nat → Int32) × (Nat → Int32))} (hag8 : ∀ {v_pile : Nat → Int32} {v_wish : Nat → Int32} {y1 : Int32} {y2 : Int32} {H : Heap} {locs : List Loc} {ls : Array Slot}, q_H D A s (wX5_manySettled cI cJ cZ cS a_t a_s a_keptS a_statuses a_pile a_tape a_steps a_wish a_mark a_bitsOf a_sizeOf a_number a_moved v_isKept v_taped v_at v_fault v_laid v_open v_s v_pile v_wish) H locs → lv_has ls 3 [(0, .ref a_t), (1, .int y1), (2, .int y2)] → ag8 v_pile v_wish y1 y2 = some (rr, kk') → W p l e rX5_manySettled s m args below meth c H locs 0 0 (MQ below (q_Ri D rr A ((fun k : (Nat → Int32) × (Nat → Int32) => (wX5_manySettled cI cJ cZ cS a_t a_s a_keptS a_statuses a_pile a_tape a_steps a_wish a_mark a_bitsOf a_sizeOf a_number a_moved v_isKept v_taped v_at v_fault v_laid v_open v_s k.1 k.2)) kk')) args s 0 0 A) (F0 m 8 ls [])) : ∀ {v_pile : Nat → Int32} {v_wish : Nat → Int32} {y1 : Int32} {y2 : Int32} {H : Heap} {locs : List Loc} {ls : Array Slot}, q_H D A s (wX5_manySettled cI cJ cZ cS a_t a_s a_keptS a_statuses a_pile a_tape a_steps a_wish a_mark a_bitsOf a_sizeOf a_number a_moved v_isKept v_taped v_at v_fault v_laid v_open v_s v_pile v_wish) H locs → lv_has ls 3 [(0, .ref a_t), (1, .int y1), (2, .int y2)] → fX5_manySettled_8 v_s ag8 v_pile v_wish y1 y2 = some (rr, kk') → W p l e rX5_manySettled s m args below meth c H locs 0 0 (MQ below (q_Ri D rr A ((fun k : (Nat → Int32) × (Nat → Int32) => (wX5_manySettled cI cJ cZ cS a_t a_s a_keptS a_statuses a_pile a_tape a_steps a_wish a_mark a_bitsOf a_sizeOf a_number a_moved v_isKept v_taped v_at v_fault v_laid v_open v_s k.1 k.2)) kk')) args s 0 0 A) (F0 m 8 ls []) := by
  intro v_pile v_wish y1 y2 H locs ls h hl hf
  have hx := fx.1
  have hb := fx.2.1
  unfold fX5_manySettled_8 at hf
  refine lv_iload_n hx hb dX5_manySettled_8 rfl (lv_at hl 2 rfl) ?_
  refine lv_aload_n hx hb dX5_manySettled_9 rfl (lv_at hl 0 rfl) ?_
  obtain ⟨r3, k3, hg, hf⟩ := bR_inv hf
  refine q_ci (rest := [.int y2]) (ws' := (wX5_manySettled cI cJ cZ cS a_t a_s a_keptS a_statuses a_pile a_tape a_steps a_wish a_mark a_bitsOf a_sizeOf a_number a_moved v_isKept v_taped v_at v_fault v_laid v_open v_s v_pile v_wish)) (w1 := (wX5_lists cI cJ cZ cS a_t a_s a_keptS a_statuses a_pile a_tape a_steps a_wish a_mark a_bitsOf a_sizeOf a_number a_moved v_isKept v_taped v_at v_fault v_laid v_open v_s)) fx h [0, 1] rfl rfl rfl rfl (q_runV fx h hl.1 [0, 1] rfl rfl (tX5_lists l D cI cJ cZ cS tb a_t a_s a_keptS a_statuses a_pile a_tape a_steps a_wish a_mark a_bitsOf a_sizeOf a_number a_moved H.size v_isKept v_taped v_at v_fault v_laid v_open v_s r3 k3 hg) mvX5_lists k_810 ⟨rfl, rfl⟩ ⟨Nat.le_of_ble_eq_true rfl, Nat.le_of_ble_eq_true rfl⟩ rfl rfl rfl rfl (Nat.le_of_ble_eq_true rfl) dX5_manySettled_10 ⟨Nat.le_of_ble_eq_true rfl, Nat.le_of_ble_eq_true rfl⟩) (fun H locs h => ?_)
  refine lv_icmp_ge (tgt := 40) hx hb dX5_manySettled_13 (by decide) (fun c4 => ?_) (fun c4 => ?_)
  · have hf := it_t c4 hf
    refine lv_iload_n hx hb dX5_manySettled_40 rfl (lv_at hl 1 rfl) ?_
    exact q_reti (fun k : (Nat → Int32) × (Nat → Int32) => (wX5_manySettled cI cJ cZ cS a_t a_s a_keptS a_statuses a_pile a_tape a_steps a_wish a_mark a_bitsOf a_sizeOf a_number a_moved v_isKept v_taped v_at v_fault v_laid v_open v_s k.1 k.2)) fx hf h dX5_manySettled_41
  have hf := it_f c4 hf
  refine lv_iload_n hx hb dX5_manySettled_16 rfl (lv_at hl 1 rfl) ?_
  refine lv_aload_n hx hb dX5_manySettled_17 rfl (lv_at hl 0 rfl) ?_
  refine q_get (v := .ref a_wish) fx inX5 h 0 rfl rfl 12 (by decide) k_648 rfl dX5_manySettled_18 ?_
  refine lv_iload_n hx hb dX5_manySettled_21 rfl (lv_at hl 2 rfl) ?_
  obtain ⟨i5, hf⟩ := gIn_inv hf
  refine q_iald fx h 3 rfl i5 dX5_manySettled_22 ?_
  refine lv_iload_n hx hb dX5_manySettled_23 rfl (lv_at hl 2 rfl) ?_
  refine lv_icmp_ne (tgt := 31) hx hb dX5_manySettled_24 (by decide) (fun c6 => ?_) (fun c6 => ?_)
  · have hf := it_f c6 hf
    refine lv_iconst (v := 0) hx hb dX5_manySettled_31 (by decide) ?_
    exact LX5_manySettled_32 fx hag8 h (lv_sub hl [0, 2] rfl) hf
  have hf := it_t c6 hf
  refine lv_iconst (v := 1) hx hb dX5_manySettled_27 (by decide) ?_
  refine lv_goto (tgt := 32) hx hb dX5_manySettled_28 (by decide) ?_
  exact LX5_manySettled_32 fx hag8 h (lv_sub hl [0, 2] rfl) hf
set_option maxRecDepth 100000 in
theorem EX5_manySettled_8 {p : Program} {l : Launch} {e : Env} {s : State} {m : MethodId} {args : Array Value} {below : List Frame} {meth : Method} {c : Code} {D : va_G} {cI cJ cZ cS : ClassId} {tb : Nat} {A : Nat → Prop} {a_t a_s a_keptS a_statuses a_pile a_tape a_steps a_wish a_mark a_bitsOf a_sizeOf a_number a_moved : Nat} {v_isKept : Int32} {v_taped : Int32} {v_at : Int32} {v_fault : Int32} {v_laid : Int32} {v_open : Int32} {v_s : Nat → Int32} {rr : Int32} {kk' : (Nat → Int32) × (Nat → Int32)} (fx : q_Fx p s m args meth c cX5_manySettled 3 RX5 (some .int) D cI cJ cZ cS tb A) : ∀ (n : Nat), ∀ {v_pile : Nat → Int32} {v_wish : Nat → Int32} {y1 : Int32} {y2 : Int32} {H : Heap} {locs : List Loc} {ls : Array Slot}, q_H D A s (wX5_manySettled cI cJ cZ cS a_t a_s a_keptS a_statuses a_pile a_tape a_steps a_wish a_mark a_bitsOf a_sizeOf a_number a_moved v_isKept v_taped v_at v_fault v_laid v_open v_s v_pile v_wish) H locs → lv_has ls 3 [(0, .ref a_t), (1, .int y1), (2, .int y2)] → ll4 (fX5_manySettled_8 v_s) n v_pile v_wish y1 y2 = some (rr, kk') → W p l e rX5_manySettled s m args below meth c H locs 0 0 (MQ below (q_Ri D rr A ((fun k : (Nat → Int32) × (Nat → Int32) => (wX5_manySettled cI cJ cZ cS a_t a_s a_keptS a_statuses a_pile a_tape a_steps a_wish a_mark a_bitsOf a_sizeOf a_number a_moved v_isKept v_taped v_at v_fault v_laid v_open v_s k.1 k.2)) kk')) args s 0 0 A) (F0 m 8 ls []) := by
  intro n
  induction n with
  | zero => intro v_pile v_wish y1 y2 H locs ls h hl hf; exact (ll4_z hf).elim
  | succ n ih => intro v_pile v_wish y1 y2 H locs ls h hl hf; exact LX5_manySettled_8 fx ih h hl (ll4_s hf)
def fX5_manySettled (v_s : Nat → Int32) (v_pile : Nat → Int32) (v_wish : Nat → Int32) : Option (Int32 × (Nat → Int32) × (Nat → Int32)) :=
  bV (fX5_looksAll v_s v_pile v_wish) (fun k7 =>
  ll4 (fX5_manySettled_8 v_s) qF k7.1 k7.2 0 0)
set_option maxRecDepth 100000 in
set_option maxHeartbeats 4000000 in
theorem tX5_manySettled (l : Launch) (D : va_G) (cI cJ cZ cS : ClassId) (tb : Nat) (a_t a_s a_keptS a_statuses a_pile a_tape a_steps a_wish a_mark a_bitsOf a_sizeOf a_number a_moved : Nat) (sz : Nat) (v_isKept : Int32) (v_taped : Int32) (v_at : Int32) (v_fault : Int32) (v_laid : Int32) (v_open : Int32) (v_s : Nat → Int32) (v_pile : Nat → Int32) (v_wish : Nat → Int32) (rr : Int32) (kk' : (Nat → Int32) × (Nat → Int32)) (hf : fX5_manySettled v_s v_pile v_wish = some (rr, kk')) : Met l yX5_manySettled (Cond.code yX5_manySettled cX5_manySettled 3 (some .int) :: wA) rX5_manySettled (q_Pre D cI cJ cZ cS tb [.ref a_t] sz (wX5_manySettled cI cJ cZ cS a_t a_s a_keptS a_statuses a_pile a_tape a_steps a_wish a_mark a_bitsOf a_sizeOf a_number a_moved v_isKept v_taped v_at v_fault v_laid v_open v_s v_pile v_wish)) (q_Ri D rr (va_A (wX5_manySettled cI cJ cZ cS a_t a_s a_keptS a_statuses a_pile a_tape a_steps a_wish a_mark a_bitsOf a_sizeOf a_number a_moved v_isKept v_taped v_at v_fault v_laid v_open v_s v_pile v_wish) sz) ((fun k : (Nat → Int32) × (Nat → Int32) => (wX5_manySettled cI cJ cZ cS a_t a_s a_keptS a_statuses a_pile a_tape a_steps a_wish a_mark a_bitsOf a_sizeOf a_number a_moved v_isKept v_taped v_at v_fault v_laid v_open v_s k.1 k.2)) kk')) 0 0 (va_A (wX5_manySettled cI cJ cZ cS a_t a_s a_keptS a_statuses a_pile a_tape a_steps a_wish a_mark a_bitsOf a_sizeOf a_number a_moved v_isKept v_taped v_at v_fault v_laid v_open v_s v_pile v_wish) sz) := by
  refine q_enter (Qf := fun A => (q_Ri D rr A ((fun k : (Nat → Int32) × (Nat → Int32) => (wX5_manySettled cI cJ cZ cS a_t a_s a_keptS a_statuses a_pile a_tape a_steps a_wish a_mark a_bitsOf a_sizeOf a_number a_moved v_isKept v_taped v_at v_fault v_laid v_open v_s k.1 k.2)) kk'))) (by decide) rfl (Nat.le_of_ble_eq_true rfl) ?_
  intro p e s m below meth c A ls fx hname h hl
  have hx := fx.1
  have hb := fx.2.1
  have hl : lv_has ls 3 [(0, .ref a_t)] := hl
  generalize h9 : s.heap = H at h ⊢
  clear h9
  generalize h9 : ([] : List Loc) = locs at h ⊢
  clear h9
  unfold fX5_manySettled at hf
  refine lv_aload_n hx hb dX5_manySettled_0 rfl (lv_at hl 0 rfl) ?_
  obtain ⟨k7, hg, hf⟩ := bV_inv hf
  refine q_cv (rest := []) (ws' := (wX5_manySettled cI cJ cZ cS a_t a_s a_keptS a_statuses a_pile a_tape a_steps a_wish a_mark a_bitsOf a_sizeOf a_number a_moved v_isKept v_taped v_at v_fault v_laid v_open v_s k7.1 k7.2)) (w1 := (wX5_looksAll cI cJ cZ cS a_t a_s a_keptS a_statuses a_pile a_tape a_steps a_wish a_mark a_bitsOf a_sizeOf a_number a_moved v_isKept v_taped v_at v_fault v_laid v_open v_s k7.1 k7.2)) fx h [0, 1, 2, 3] rfl rfl rfl rfl (q_runV fx h hl.1 [0, 1, 2, 3] rfl rfl (tX5_looksAll l D cI cJ cZ cS tb a_t a_s a_keptS a_statuses a_pile a_tape a_steps a_wish a_mark a_bitsOf a_sizeOf a_number a_moved H.size v_isKept v_taped v_at v_fault v_laid v_open v_s v_pile v_wish k7 hg) mvX5_looksAll k_860 ⟨rfl, rfl⟩ ⟨Nat.le_of_ble_eq_true rfl, Nat.le_of_ble_eq_true rfl⟩ rfl rfl rfl rfl (Nat.le_of_ble_eq_true rfl) dX5_manySettled_1 ⟨Nat.le_of_ble_eq_true rfl, Nat.le_of_ble_eq_true rfl⟩) (fun H locs h => ?_)
  refine lv_iconst (v := 0) hx hb dX5_manySettled_4 (by decide) ?_
  refine lv_istore_n (lv' := [(1, .int 0), (0, .ref a_t)]) hx hb dX5_manySettled_5 rfl hl (by decide) rfl (fun ls hl => ?_)
  refine lv_iconst (v := 0) hx hb dX5_manySettled_6 (by decide) ?_
  refine lv_istore_n (lv' := [(2, .int 0), (1, .int 0), (0, .ref a_t)]) hx hb dX5_manySettled_7 rfl hl (by decide) rfl (fun ls hl => ?_)
  exact EX5_manySettled_8 fx qF h (lv_sub hl [2, 1, 0] rfl) hf
/-! X5_settled -/
abbrev wX5_settled (cI cJ cZ cS : ClassId) (a_t a_s a_keptS a_statuses a_pile a_tape a_steps a_wish a_mark a_bitsOf a_sizeOf a_number a_moved : Nat) (v_isKept : Int32) (v_taped : Int32) (v_at : Int32) (v_fault : Int32) (v_laid : Int32) (v_open : Int32) (v_s : Nat → Int32) (v_pile : Nat → Int32) (v_wish : Nat → Int32) : va_W := [(a_t, .inr (5, [.ref a_s, .ref a_keptS, .ref a_statuses, .int v_isKept, .ref a_pile, .ref a_tape, .ref a_steps, .int v_taped, .int v_at, .int v_fault, .int v_laid, .int v_open, .ref a_wish, .ref a_mark, .ref a_bitsOf, .ref a_sizeOf, .ref a_number, .ref a_moved])), (a_s, .inl (cI, 538, .inl v_s)), (a_pile, .inl (cZ, 64, .inl v_pile)), (a_wish, .inl (cI, 256, .inl v_wish))]
abbrev rX5_settled : Room := { frames := 7, cells := 0, slots := 0, locals := 159 }
def fX5_settled (v_s : Nat → Int32) (v_pile : Nat → Int32) (v_wish : Nat → Int32) : Option (Int32 × (Nat → Int32) × (Nat → Int32)) :=
  bR (fX5_manySettled v_s v_pile v_wish) (fun r1 k1 =>
  some (r1, (k1.1, k1.2)))
set_option maxRecDepth 100000 in
set_option maxHeartbeats 4000000 in
theorem tX5_settled (l : Launch) (D : va_G) (cI cJ cZ cS : ClassId) (tb : Nat) (a_t a_s a_keptS a_statuses a_pile a_tape a_steps a_wish a_mark a_bitsOf a_sizeOf a_number a_moved : Nat) (sz : Nat) (v_isKept : Int32) (v_taped : Int32) (v_at : Int32) (v_fault : Int32) (v_laid : Int32) (v_open : Int32) (v_s : Nat → Int32) (v_pile : Nat → Int32) (v_wish : Nat → Int32) (rr : Int32) (kk' : (Nat → Int32) × (Nat → Int32)) (hf : fX5_settled v_s v_pile v_wish = some (rr, kk')) : Met l yX5_settled (Cond.code yX5_settled cX5_settled 1 (some .int) :: wA) rX5_settled (q_Pre D cI cJ cZ cS tb [.ref a_t] sz (wX5_settled cI cJ cZ cS a_t a_s a_keptS a_statuses a_pile a_tape a_steps a_wish a_mark a_bitsOf a_sizeOf a_number a_moved v_isKept v_taped v_at v_fault v_laid v_open v_s v_pile v_wish)) (q_Ri D rr (va_A (wX5_settled cI cJ cZ cS a_t a_s a_keptS a_statuses a_pile a_tape a_steps a_wish a_mark a_bitsOf a_sizeOf a_number a_moved v_isKept v_taped v_at v_fault v_laid v_open v_s v_pile v_wish) sz) ((fun k : (Nat → Int32) × (Nat → Int32) => (wX5_settled cI cJ cZ cS a_t a_s a_keptS a_statuses a_pile a_tape a_steps a_wish a_mark a_bitsOf a_sizeOf a_number a_moved v_isKept v_taped v_at v_fault v_laid v_open v_s k.1 k.2)) kk')) 0 0 (va_A (wX5_settled cI cJ cZ cS a_t a_s a_keptS a_statuses a_pile a_tape a_steps a_wish a_mark a_bitsOf a_sizeOf a_number a_moved v_isKept v_taped v_at v_fault v_laid v_open v_s v_pile v_wish) sz) := by
  refine q_enter (Qf := fun A => (q_Ri D rr A ((fun k : (Nat → Int32) × (Nat → Int32) => (wX5_settled cI cJ cZ cS a_t a_s a_keptS a_statuses a_pile a_tape a_steps a_wish a_mark a_bitsOf a_sizeOf a_number a_moved v_isKept v_taped v_at v_fault v_laid v_open v_s k.1 k.2)) kk'))) (by decide) rfl (Nat.le_of_ble_eq_true rfl) ?_
  intro p e s m below meth c A ls fx hname h hl
  have hx := fx.1
  have hb := fx.2.1
  have hl : lv_has ls 1 [(0, .ref a_t)] := hl
  generalize h9 : s.heap = H at h ⊢
  clear h9
  generalize h9 : ([] : List Loc) = locs at h ⊢
  clear h9
  unfold fX5_settled at hf
  refine lv_aload_n hx hb dX5_settled_0 rfl (lv_at hl 0 rfl) ?_
  obtain ⟨r1, k1, hg, hf⟩ := bR_inv hf
  refine q_ci (rest := []) (ws' := (wX5_settled cI cJ cZ cS a_t a_s a_keptS a_statuses a_pile a_tape a_steps a_wish a_mark a_bitsOf a_sizeOf a_number a_moved v_isKept v_taped v_at v_fault v_laid v_open v_s k1.1 k1.2)) (w1 := (wX5_manySettled cI cJ cZ cS a_t a_s a_keptS a_statuses a_pile a_tape a_steps a_wish a_mark a_bitsOf a_sizeOf a_number a_moved v_isKept v_taped v_at v_fault v_laid v_open v_s k1.1 k1.2)) fx h [0, 1, 2, 3] rfl rfl rfl rfl (q_runV fx h hl.1 [0, 1, 2, 3] rfl rfl (tX5_manySettled l D cI cJ cZ cS tb a_t a_s a_keptS a_statuses a_pile a_tape a_steps a_wish a_mark a_bitsOf a_sizeOf a_number a_moved H.size v_isKept v_taped v_at v_fault v_laid v_open v_s v_pile v_wish r1 k1 hg) mvX5_manySettled k_889 ⟨rfl, rfl⟩ ⟨Nat.le_of_ble_eq_true rfl, Nat.le_of_ble_eq_true rfl⟩ rfl rfl rfl rfl (Nat.le_of_ble_eq_true rfl) dX5_settled_1 ⟨Nat.le_of_ble_eq_true rfl, Nat.le_of_ble_eq_true rfl⟩) (fun H locs h => ?_)
  exact q_reti (fun k : (Nat → Int32) × (Nat → Int32) => (wX5_settled cI cJ cZ cS a_t a_s a_keptS a_statuses a_pile a_tape a_steps a_wish a_mark a_bitsOf a_sizeOf a_number a_moved v_isKept v_taped v_at v_fault v_laid v_open v_s k.1 k.2)) fx hf h dX5_settled_4
/-! X5_ith -/
abbrev wX5_ith (cI cJ cZ cS : ClassId) (a_t a_s a_keptS a_statuses a_pile a_tape a_steps a_wish a_mark a_bitsOf a_sizeOf a_number a_moved : Nat) (v_isKept : Int32) (v_taped : Int32) (v_at : Int32) (v_fault : Int32) (v_laid : Int32) (v_open : Int32) (v_s : Nat → Int32) (v_statuses : Nat → Int32) (v_pile : Nat → Int32) (v_wish : Nat → Int32) : va_W := [(a_t, .inr (5, [.ref a_s, .ref a_keptS, .ref a_statuses, .int v_isKept, .ref a_pile, .ref a_tape, .ref a_steps, .int v_taped, .int v_at, .int v_fault, .int v_laid, .int v_open, .ref a_wish, .ref a_mark, .ref a_bitsOf, .ref a_sizeOf, .ref a_number, .ref a_moved])), (a_s, .inl (cI, 538, .inl v_s)), (a_statuses, .inl (cI, 7, .inl v_statuses)), (a_pile, .inl (cZ, 64, .inl v_pile)), (a_wish, .inl (cI, 256, .inl v_wish))]
abbrev rX5_ith : Room := { frames := 6, cells := 0, slots := 0, locals := 137 }
def fX5_ith_46 (v_s : Nat → Int32) (ag19 : (Nat → Int32) → (Nat → Int32) → (Nat → Int32) → Int32 → Int32 → Option (Int32 × (Nat → Int32) × (Nat → Int32) × (Nat → Int32))) (v_statuses : Nat → Int32) (v_pile : Nat → Int32) (v_wish : Nat → Int32) (y2 : Int32) (y3 : Int32) : Option (Int32 × (Nat → Int32) × (Nat → Int32) × (Nat → Int32)) :=
  nm (y3 + 1) (fun u1 =>
  ag19 v_statuses v_pile v_wish y2 u1)
set_option maxRecDepth 100000 in
set_option maxHeartbeats 4000000 in
theorem LX5_ith_46 {p : Program} {l : Launch} {e : Env} {s : State} {m : MethodId} {args : Array Value} {below : List Frame} {meth : Method} {c : Code} {D : va_G} {cI cJ cZ cS : ClassId} {tb : Nat} {A : Nat → Prop} {a_t a_s a_keptS a_statuses a_pile a_tape a_steps a_wish a_mark a_bitsOf a_sizeOf a_number a_moved : Nat} {v_isKept : Int32} {v_taped : Int32} {v_at : Int32} {v_fault : Int32} {v_laid : Int32} {v_open : Int32} {v_s : Nat → Int32} {rr : Int32} {kk' : (Nat → Int32) × (Nat → Int32) × (Nat → Int32)} (fx : q_Fx p s m args meth c cX5_ith 4 RX5 (some .int) D cI cJ cZ cS tb A) {ag19 : (Nat → Int32) → (Nat → Int32) → (Nat → Int32) → Int32 → Int32 → Option (Int32 × (Nat → Int32) × (Nat → Int32) × (Nat → Int32))} (hag19 : ∀ {v_statuses : Nat → Int32} {v_pile : Nat → Int32} {v_wish : Nat → Int32} {y2 : Int32} {y3 : Int32} {H : Heap} {locs : List Loc} {ls : Array Slot}, q_H D A s (wX5_ith cI cJ cZ cS a_t a_s a_keptS a_statuses a_pile a_tape a_steps a_wish a_mark a_bitsOf a_sizeOf a_number a_moved v_isKept v_taped v_at v_fault v_laid v_open v_s v_statuses v_pile v_wish) H locs → lv_has ls 4 [(0, .ref a_t), (2, .int y2), (3, .int y3)] → ag19 v_statuses v_pile v_wish y2 y3 = some (rr, kk') → W p l e rX5_ith s m args below meth c H locs 0 0 (MQ below (q_Ri D rr A ((fun k : (Nat → Int32) × (Nat → Int32) × (Nat → Int32) => (wX5_ith cI cJ cZ cS a_t a_s a_keptS a_statuses a_pile a_tape a_steps a_wish a_mark a_bitsOf a_sizeOf a_number a_moved v_isKept v_taped v_at v_fault v_laid v_open v_s k.1 k.2.1 k.2.2)) kk')) args s 0 0 A) (F0 m 19 ls [])) : ∀ {v_statuses : Nat → Int32} {v_pile : Nat → Int32} {v_wish : Nat → Int32} {y2 : Int32} {y3 : Int32} {H : Heap} {locs : List Loc} {ls : Array Slot}, q_H D A s (wX5_ith cI cJ cZ cS a_t a_s a_keptS a_statuses a_pile a_tape a_steps a_wish a_mark a_bitsOf a_sizeOf a_number a_moved v_isKept v_taped v_at v_fault v_laid v_open v_s v_statuses v_pile v_wish) H locs → lv_has ls 4 [(0, .ref a_t), (2, .int y2), (3, .int y3)] → fX5_ith_46 v_s ag19 v_statuses v_pile v_wish y2 y3 = some (rr, kk') → W p l e rX5_ith s m args below meth c H locs 0 0 (MQ below (q_Ri D rr A ((fun k : (Nat → Int32) × (Nat → Int32) × (Nat → Int32) => (wX5_ith cI cJ cZ cS a_t a_s a_keptS a_statuses a_pile a_tape a_steps a_wish a_mark a_bitsOf a_sizeOf a_number a_moved v_isKept v_taped v_at v_fault v_laid v_open v_s k.1 k.2.1 k.2.2)) kk')) args s 0 0 A) (F0 m 46 ls []) := by
  intro v_statuses v_pile v_wish y2 y3 H locs ls h hl hf
  have hx := fx.1
  have hb := fx.2.1
  unfold fX5_ith_46 at hf
  obtain ⟨u1, eu1, hf⟩ := nm_inv hf
  refine lv_iinc (v := u1) (lv' := [(3, .int u1), (0, .ref a_t), (2, .int y2)]) hx hb dX5_ith_46 hl (k := 2) rfl (by rw [eu1]; rfl) (by decide) rfl (fun ls hl => ?_)
  refine lv_goto (tgt := 19) hx hb dX5_ith_49 (by decide) ?_
  exact hag19 h (lv_sub hl [1, 2, 0] rfl) hf
def fX5_ith_19 (v_s : Nat → Int32) (ag19 : (Nat → Int32) → (Nat → Int32) → (Nat → Int32) → Int32 → Int32 → Option (Int32 × (Nat → Int32) × (Nat → Int32) × (Nat → Int32))) (v_statuses : Nat → Int32) (v_pile : Nat → Int32) (v_wish : Nat → Int32) (y2 : Int32) (y3 : Int32) : Option (Int32 × (Nat → Int32) × (Nat → Int32) × (Nat → Int32)) :=
  bR (fX5_lists v_s) (fun r2 k2 =>
  (if r2 ≤ y3 then (
  bR (fX5_finds v_statuses (-1000000004)) (fun r4 k4 =>
  some (r4, (k4, v_pile, v_wish))))
  else (
  gIn y3 256 (
  (if (v_wish y3.toNatClampNeg) = y3 then (
  (if y2 = 0 then (
  some (y3, (v_statuses, v_pile, v_wish)))
  else (
  nm (y2 + (-1)) (fun u8 =>
  fX5_ith_46 v_s ag19 v_statuses v_pile v_wish u8 y3))))
  else (
  fX5_ith_46 v_s ag19 v_statuses v_pile v_wish y2 y3))))))
set_option maxRecDepth 100000 in
set_option maxHeartbeats 4000000 in
theorem LX5_ith_19 {p : Program} {l : Launch} {e : Env} {s : State} {m : MethodId} {args : Array Value} {below : List Frame} {meth : Method} {c : Code} {D : va_G} {cI cJ cZ cS : ClassId} {tb : Nat} {A : Nat → Prop} {a_t a_s a_keptS a_statuses a_pile a_tape a_steps a_wish a_mark a_bitsOf a_sizeOf a_number a_moved : Nat} {v_isKept : Int32} {v_taped : Int32} {v_at : Int32} {v_fault : Int32} {v_laid : Int32} {v_open : Int32} {v_s : Nat → Int32} {rr : Int32} {kk' : (Nat → Int32) × (Nat → Int32) × (Nat → Int32)} (fx : q_Fx p s m args meth c cX5_ith 4 RX5 (some .int) D cI cJ cZ cS tb A) {ag19 : (Nat → Int32) → (Nat → Int32) → (Nat → Int32) → Int32 → Int32 → Option (Int32 × (Nat → Int32) × (Nat → Int32) × (Nat → Int32))} (hag19 : ∀ {v_statuses : Nat → Int32} {v_pile : Nat → Int32} {v_wish : Nat → Int32} {y2 : Int32} {y3 : Int32} {H : Heap} {locs : List Loc} {ls : Array Slot}, q_H D A s (wX5_ith cI cJ cZ cS a_t a_s a_keptS a_statuses a_pile a_tape a_steps a_wish a_mark a_bitsOf a_sizeOf a_number a_moved v_isKept v_taped v_at v_fault v_laid v_open v_s v_statuses v_pile v_wish) H locs → lv_has ls 4 [(0, .ref a_t), (2, .int y2), (3, .int y3)] → ag19 v_statuses v_pile v_wish y2 y3 = some (rr, kk') → W p l e rX5_ith s m args below meth c H locs 0 0 (MQ below (q_Ri D rr A ((fun k : (Nat → Int32) × (Nat → Int32) × (Nat → Int32) => (wX5_ith cI cJ cZ cS a_t a_s a_keptS a_statuses a_pile a_tape a_steps a_wish a_mark a_bitsOf a_sizeOf a_number a_moved v_isKept v_taped v_at v_fault v_laid v_open v_s k.1 k.2.1 k.2.2)) kk')) args s 0 0 A) (F0 m 19 ls [])) : ∀ {v_statuses : Nat → Int32} {v_pile : Nat → Int32} {v_wish : Nat → Int32} {y2 : Int32} {y3 : Int32} {H : Heap} {locs : List Loc} {ls : Array Slot}, q_H D A s (wX5_ith cI cJ cZ cS a_t a_s a_keptS a_statuses a_pile a_tape a_steps a_wish a_mark a_bitsOf a_sizeOf a_number a_moved v_isKept v_taped v_at v_fault v_laid v_open v_s v_statuses v_pile v_wish) H locs → lv_has ls 4 [(0, .ref a_t), (2, .int y2), (3, .int y3)] → fX5_ith_19 v_s ag19 v_statuses v_pile v_wish y2 y3 = some (rr, kk') → W p l e rX5_ith s m args below meth c H locs 0 0 (MQ below (q_Ri D rr A ((fun k : (Nat → Int32) × (Nat → Int32) × (Nat → Int32) => (wX5_ith cI cJ cZ cS a_t a_s a_keptS a_statuses a_pile a_tape a_steps a_wish a_mark a_bitsOf a_sizeOf a_number a_moved v_isKept v_taped v_at v_fault v_laid v_open v_s k.1 k.2.1 k.2.2)) kk')) args s 0 0 A) (F0 m 19 ls []) := by
  intro v_statuses v_pile v_wish y2 y3 H locs ls h hl hf
  have hx := fx.1
  have hb := fx.2.1
  unfold fX5_ith_19 at hf
  refine lv_iload_n hx hb dX5_ith_19 rfl (lv_at hl 2 rfl) ?_
  refine lv_aload_n hx hb dX5_ith_20 rfl (lv_at hl 0 rfl) ?_
  obtain ⟨r2, k2, hg, hf⟩ := bR_inv hf
  refine q_ci (rest := [.int y3]) (ws' := (wX5_ith cI cJ cZ cS a_t a_s a_keptS a_statuses a_pile a_tape a_steps a_wish a_mark a_bitsOf a_sizeOf a_number a_moved v_isKept v_taped v_at v_fault v_laid v_open v_s v_statuses v_pile v_wish)) (w1 := (wX5_lists cI cJ cZ cS a_t a_s a_keptS a_statuses a_pile a_tape a_steps a_wish a_mark a_bitsOf a_sizeOf a_number a_moved v_isKept v_taped v_at v_fault v_laid v_open v_s)) fx h [0, 1] rfl rfl rfl rfl (q_runV fx h hl.1 [0, 1] rfl rfl (tX5_lists l D cI cJ cZ cS tb a_t a_s a_keptS a_statuses a_pile a_tape a_steps a_wish a_mark a_bitsOf a_sizeOf a_number a_moved H.size v_isKept v_taped v_at v_fault v_laid v_open v_s r2 k2 hg) mvX5_lists k_810 ⟨rfl, rfl⟩ ⟨Nat.le_of_ble_eq_true rfl, Nat.le_of_ble_eq_true rfl⟩ rfl rfl rfl rfl (Nat.le_of_ble_eq_true rfl) dX5_ith_21 ⟨Nat.le_of_ble_eq_true rfl, Nat.le_of_ble_eq_true rfl⟩) (fun H locs h => ?_)
  refine lv_icmp_ge (tgt := 52) hx hb dX5_ith_24 (by decide) (fun c3 => ?_) (fun c3 => ?_)
  · have hf := it_t c3 hf
    refine lv_aload_n hx hb dX5_ith_52 rfl (lv_at hl 0 rfl) ?_
    refine q_ldc fx k_864 dX5_ith_53 ?_
    obtain ⟨r4, k4, hg, hf⟩ := bR_inv hf
    refine q_ci (rest := []) (ws' := (wX5_ith cI cJ cZ cS a_t a_s a_keptS a_statuses a_pile a_tape a_steps a_wish a_mark a_bitsOf a_sizeOf a_number a_moved v_isKept v_taped v_at v_fault v_laid v_open v_s k4 v_pile v_wish)) (w1 := (wX5_finds cI cJ cZ cS a_t a_s a_keptS a_statuses a_pile a_tape a_steps a_wish a_mark a_bitsOf a_sizeOf a_number a_moved v_isKept v_taped v_at v_fault v_laid v_open k4)) fx h [0, 2] rfl rfl rfl rfl (q_runV fx h hl.1 [0, 2] rfl rfl (tX5_finds l D cI cJ cZ cS tb a_t a_s a_keptS a_statuses a_pile a_tape a_steps a_wish a_mark a_bitsOf a_sizeOf a_number a_moved H.size v_isKept v_taped v_at v_fault v_laid v_open v_statuses (-1000000004) r4 k4 hg) mvX5_finds k_702 ⟨rfl, rfl⟩ ⟨Nat.le_of_ble_eq_true rfl, Nat.le_of_ble_eq_true rfl⟩ rfl rfl rfl rfl (Nat.le_of_ble_eq_true rfl) dX5_ith_55 ⟨Nat.le_of_ble_eq_true rfl, Nat.le_of_ble_eq_true rfl⟩) (fun H locs h => ?_)
    exact q_reti (fun k : (Nat → Int32) × (Nat → Int32) × (Nat → Int32) => (wX5_ith cI cJ cZ cS a_t a_s a_keptS a_statuses a_pile a_tape a_steps a_wish a_mark a_bitsOf a_sizeOf a_number a_moved v_isKept v_taped v_at v_fault v_laid v_open v_s k.1 k.2.1 k.2.2)) fx hf h dX5_ith_58
  have hf := it_f c3 hf
  refine lv_aload_n hx hb dX5_ith_27 rfl (lv_at hl 0 rfl) ?_
  refine q_get (v := .ref a_wish) fx inX5 h 0 rfl rfl 12 (by decide) k_648 rfl dX5_ith_28 ?_
  refine lv_iload_n hx hb dX5_ith_31 rfl (lv_at hl 2 rfl) ?_
  obtain ⟨i5, hf⟩ := gIn_inv hf
  refine q_iald fx h 4 rfl i5 dX5_ith_32 ?_
  refine lv_iload_n hx hb dX5_ith_33 rfl (lv_at hl 2 rfl) ?_
  refine lv_icmp_ne (tgt := 46) hx hb dX5_ith_34 (by decide) (fun c6 => ?_) (fun c6 => ?_)
  · have hf := it_f c6 hf
    exact LX5_ith_46 fx hag19 h (lv_sub hl [0, 1, 2] rfl) hf
  have hf := it_t c6 hf
  refine lv_iload_n hx hb dX5_ith_37 rfl (lv_at hl 1 rfl) ?_
  refine lv_if_ne (tgt := 43) hx hb dX5_ith_38 (by decide) (fun c7 => ?_) (fun c7 => ?_)
  · have hf := it_f c7 hf
    obtain ⟨u8, eu8, hf⟩ := nm_inv hf
    refine lv_iinc (v := u8) (lv' := [(2, .int u8), (0, .ref a_t), (3, .int y3)]) hx hb dX5_ith_43 hl (k := 1) rfl (by rw [eu8]; rfl) (by decide) rfl (fun ls hl => ?_)
    exact LX5_ith_46 fx hag19 h (lv_sub hl [1, 0, 2] rfl) hf
  have hf := it_t c7 hf
  refine lv_iload_n hx hb dX5_ith_41 rfl (lv_at hl 2 rfl) ?_
  exact q_reti (fun k : (Nat → Int32) × (Nat → Int32) × (Nat → Int32) => (wX5_ith cI cJ cZ cS a_t a_s a_keptS a_statuses a_pile a_tape a_steps a_wish a_mark a_bitsOf a_sizeOf a_number a_moved v_isKept v_taped v_at v_fault v_laid v_open v_s k.1 k.2.1 k.2.2)) fx hf h dX5_ith_42
set_option maxRecDepth 100000 in
theorem EX5_ith_19 {p : Program} {l : Launch} {e : Env} {s : State} {m : MethodId} {args : Array Value} {below : List Frame} {meth : Method} {c : Code} {D : va_G} {cI cJ cZ cS : ClassId} {tb : Nat} {A : Nat → Prop} {a_t a_s a_keptS a_statuses a_pile a_tape a_steps a_wish a_mark a_bitsOf a_sizeOf a_number a_moved : Nat} {v_isKept : Int32} {v_taped : Int32} {v_at : Int32} {v_fault : Int32} {v_laid : Int32} {v_open : Int32} {v_s : Nat → Int32} {rr : Int32} {kk' : (Nat → Int32) × (Nat → Int32) × (Nat → Int32)} (fx : q_Fx p s m args meth c cX5_ith 4 RX5 (some .int) D cI cJ cZ cS tb A) : ∀ (n : Nat), ∀ {v_statuses : Nat → Int32} {v_pile : Nat → Int32} {v_wish : Nat → Int32} {y2 : Int32} {y3 : Int32} {H : Heap} {locs : List Loc} {ls : Array Slot}, q_H D A s (wX5_ith cI cJ cZ cS a_t a_s a_keptS a_statuses a_pile a_tape a_steps a_wish a_mark a_bitsOf a_sizeOf a_number a_moved v_isKept v_taped v_at v_fault v_laid v_open v_s v_statuses v_pile v_wish) H locs → lv_has ls 4 [(0, .ref a_t), (2, .int y2), (3, .int y3)] → ll5 (fX5_ith_19 v_s) n v_statuses v_pile v_wish y2 y3 = some (rr, kk') → W p l e rX5_ith s m args below meth c H locs 0 0 (MQ below (q_Ri D rr A ((fun k : (Nat → Int32) × (Nat → Int32) × (Nat → Int32) => (wX5_ith cI cJ cZ cS a_t a_s a_keptS a_statuses a_pile a_tape a_steps a_wish a_mark a_bitsOf a_sizeOf a_number a_moved v_isKept v_taped v_at v_fault v_laid v_open v_s k.1 k.2.1 k.2.2)) kk')) args s 0 0 A) (F0 m 19 ls []) := by
  intro n
  induction n with
  | zero => intro v_statuses v_pile v_wish y2 y3 H locs ls h hl hf; exact (ll5_z hf).elim
  | succ n ih => intro v_statuses v_pile v_wish y2 y3 H locs ls h hl hf; exact LX5_ith_19 fx ih h hl (ll5_s hf)
def fX5_ith (v_s : Nat → Int32) (v_statuses : Nat → Int32) (v_pile : Nat → Int32) (v_wish : Nat → Int32) (x1 : Int32) : Option (Int32 × (Nat → Int32) × (Nat → Int32) × (Nat → Int32)) :=
  (if (0 : Int32) ≤ x1 then (
  bV (fX5_looksAll v_s v_pile v_wish) (fun k10 =>
  ll5 (fX5_ith_19 v_s) qF v_statuses k10.1 k10.2 x1 0))
  else (
  bR (fX5_finds v_statuses (-1000000001)) (fun r11 k11 =>
  some (r11, (k11, v_pile, v_wish)))))
set_option maxRecDepth 100000 in
set_option maxHeartbeats 4000000 in
theorem tX5_ith (l : Launch) (D : va_G) (cI cJ cZ cS : ClassId) (tb : Nat) (a_t a_s a_keptS a_statuses a_pile a_tape a_steps a_wish a_mark a_bitsOf a_sizeOf a_number a_moved : Nat) (sz : Nat) (v_isKept : Int32) (v_taped : Int32) (v_at : Int32) (v_fault : Int32) (v_laid : Int32) (v_open : Int32) (v_s : Nat → Int32) (v_statuses : Nat → Int32) (v_pile : Nat → Int32) (v_wish : Nat → Int32) (x1 : Int32) (rr : Int32) (kk' : (Nat → Int32) × (Nat → Int32) × (Nat → Int32)) (hf : fX5_ith v_s v_statuses v_pile v_wish x1 = some (rr, kk')) : Met l yX5_ith (Cond.code yX5_ith cX5_ith 4 (some .int) :: wA) rX5_ith (q_Pre D cI cJ cZ cS tb [.ref a_t, .int x1] sz (wX5_ith cI cJ cZ cS a_t a_s a_keptS a_statuses a_pile a_tape a_steps a_wish a_mark a_bitsOf a_sizeOf a_number a_moved v_isKept v_taped v_at v_fault v_laid v_open v_s v_statuses v_pile v_wish)) (q_Ri D rr (va_A (wX5_ith cI cJ cZ cS a_t a_s a_keptS a_statuses a_pile a_tape a_steps a_wish a_mark a_bitsOf a_sizeOf a_number a_moved v_isKept v_taped v_at v_fault v_laid v_open v_s v_statuses v_pile v_wish) sz) ((fun k : (Nat → Int32) × (Nat → Int32) × (Nat → Int32) => (wX5_ith cI cJ cZ cS a_t a_s a_keptS a_statuses a_pile a_tape a_steps a_wish a_mark a_bitsOf a_sizeOf a_number a_moved v_isKept v_taped v_at v_fault v_laid v_open v_s k.1 k.2.1 k.2.2)) kk')) 0 0 (va_A (wX5_ith cI cJ cZ cS a_t a_s a_keptS a_statuses a_pile a_tape a_steps a_wish a_mark a_bitsOf a_sizeOf a_number a_moved v_isKept v_taped v_at v_fault v_laid v_open v_s v_statuses v_pile v_wish) sz) := by
  refine q_enter (Qf := fun A => (q_Ri D rr A ((fun k : (Nat → Int32) × (Nat → Int32) × (Nat → Int32) => (wX5_ith cI cJ cZ cS a_t a_s a_keptS a_statuses a_pile a_tape a_steps a_wish a_mark a_bitsOf a_sizeOf a_number a_moved v_isKept v_taped v_at v_fault v_laid v_open v_s k.1 k.2.1 k.2.2)) kk'))) (by decide) rfl (Nat.le_of_ble_eq_true rfl) ?_
  intro p e s m below meth c A ls fx hname h hl
  have hx := fx.1
  have hb := fx.2.1
  have hl : lv_has ls 4 [(0, .ref a_t), (1, .int x1)] := hl
  generalize h9 : s.heap = H at h ⊢
  clear h9
  generalize h9 : ([] : List Loc) = locs at h ⊢
  clear h9
  unfold fX5_ith at hf
  refine lv_iload_n hx hb dX5_ith_0 rfl (lv_at hl 1 rfl) ?_
  refine lv_if_ge (tgt := 11) hx hb dX5_ith_1 (by decide) (fun c9 => ?_) (fun c9 => ?_)
  · have hf := it_t c9 hf
    refine lv_aload_n hx hb dX5_ith_11 rfl (lv_at hl 0 rfl) ?_
    obtain ⟨k10, hg, hf⟩ := bV_inv hf
    refine q_cv (rest := []) (ws' := (wX5_ith cI cJ cZ cS a_t a_s a_keptS a_statuses a_pile a_tape a_steps a_wish a_mark a_bitsOf a_sizeOf a_number a_moved v_isKept v_taped v_at v_fault v_laid v_open v_s v_statuses k10.1 k10.2)) (w1 := (wX5_looksAll cI cJ cZ cS a_t a_s a_keptS a_statuses a_pile a_tape a_steps a_wish a_mark a_bitsOf a_sizeOf a_number a_moved v_isKept v_taped v_at v_fault v_laid v_open v_s k10.1 k10.2)) fx h [0, 1, 3, 4] rfl rfl rfl rfl (q_runV fx h hl.1 [0, 1, 3, 4] rfl rfl (tX5_looksAll l D cI cJ cZ cS tb a_t a_s a_keptS a_statuses a_pile a_tape a_steps a_wish a_mark a_bitsOf a_sizeOf a_number a_moved H.size v_isKept v_taped v_at v_fault v_laid v_open v_s v_pile v_wish k10 hg) mvX5_looksAll k_860 ⟨rfl, rfl⟩ ⟨Nat.le_of_ble_eq_true rfl, Nat.le_of_ble_eq_true rfl⟩ rfl rfl rfl rfl (Nat.le_of_ble_eq_true rfl) dX5_ith_12 ⟨Nat.le_of_ble_eq_true rfl, Nat.le_of_ble_eq_true rfl⟩) (fun H locs h => ?_)
    refine lv_iload_n hx hb dX5_ith_15 rfl (lv_at hl 1 rfl) ?_
    refine lv_istore_n (lv' := [(2, .int x1), (0, .ref a_t), (1, .int x1)]) hx hb dX5_ith_16 rfl hl (by decide) rfl (fun ls hl => ?_)
    refine lv_iconst (v := 0) hx hb dX5_ith_17 (by decide) ?_
    refine lv_istore_n (lv' := [(3, .int 0), (2, .int x1), (0, .ref a_t), (1, .int x1)]) hx hb dX5_ith_18 rfl hl (by decide) rfl (fun ls hl => ?_)
    exact EX5_ith_19 fx qF h (lv_sub hl [2, 1, 0] rfl) hf
  have hf := it_f c9 hf
  refine lv_aload_n hx hb dX5_ith_4 rfl (lv_at hl 0 rfl) ?_
  refine q_ldc fx k_701 dX5_ith_5 ?_
  obtain ⟨r11, k11, hg, hf⟩ := bR_inv hf
  refine q_ci (rest := []) (ws' := (wX5_ith cI cJ cZ cS a_t a_s a_keptS a_statuses a_pile a_tape a_steps a_wish a_mark a_bitsOf a_sizeOf a_number a_moved v_isKept v_taped v_at v_fault v_laid v_open v_s k11 v_pile v_wish)) (w1 := (wX5_finds cI cJ cZ cS a_t a_s a_keptS a_statuses a_pile a_tape a_steps a_wish a_mark a_bitsOf a_sizeOf a_number a_moved v_isKept v_taped v_at v_fault v_laid v_open k11)) fx h [0, 2] rfl rfl rfl rfl (q_runV fx h hl.1 [0, 2] rfl rfl (tX5_finds l D cI cJ cZ cS tb a_t a_s a_keptS a_statuses a_pile a_tape a_steps a_wish a_mark a_bitsOf a_sizeOf a_number a_moved H.size v_isKept v_taped v_at v_fault v_laid v_open v_statuses (-1000000001) r11 k11 hg) mvX5_finds k_702 ⟨rfl, rfl⟩ ⟨Nat.le_of_ble_eq_true rfl, Nat.le_of_ble_eq_true rfl⟩ rfl rfl rfl rfl (Nat.le_of_ble_eq_true rfl) dX5_ith_7 ⟨Nat.le_of_ble_eq_true rfl, Nat.le_of_ble_eq_true rfl⟩) (fun H locs h => ?_)
  exact q_reti (fun k : (Nat → Int32) × (Nat → Int32) × (Nat → Int32) => (wX5_ith cI cJ cZ cS a_t a_s a_keptS a_statuses a_pile a_tape a_steps a_wish a_mark a_bitsOf a_sizeOf a_number a_moved v_isKept v_taped v_at v_fault v_laid v_open v_s k.1 k.2.1 k.2.2)) fx hf h dX5_ith_10
