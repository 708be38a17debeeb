/-! X4_lays -/
abbrev wX4_lays (cI cJ cZ cS : ClassId) (a_t a_party a_party_kinds a_party_costs a_party_terms a_party_known a_kept a_tape a_telephone a_sheets a_sheets0 a_sheets0_numbers a_sheets1 a_sheets1_numbers a_sheets2 a_sheets2_numbers a_sheets3 a_sheets3_numbers a_findings : Nat) (v_isKept : Int32) (v_party_size : Int32) (v_party_list : Int32) (v_party_told : Int32) (v_sheets0_bits : Int32) (v_sheets0_size : Int32) (v_sheets0_numbers : Nat → Int64) (v_sheets1_bits : Int32) (v_sheets1_size : Int32) (v_sheets1_numbers : Nat → Int64) (v_sheets2_bits : Int32) (v_sheets2_size : Int32) (v_sheets2_numbers : Nat → Int64) (v_sheets3_bits : Int32) (v_sheets3_size : Int32) (v_sheets3_numbers : Nat → Int64) (v_findings : Nat → Int32) : va_W := [(a_t, .inr (4, [.ref a_party, .ref a_kept, .int v_isKept, .ref a_tape, .ref a_telephone, .ref a_sheets, .ref a_findings])), (a_party, .inr (0, [.int v_party_size, .int v_party_list, .int v_party_told, .ref a_party_kinds, .ref a_party_costs, .ref a_party_terms, .ref a_party_known])), (a_sheets, .inl (cS, 4, .inr (.inr (.inr (.inr (q_sh a_sheets0 a_sheets1 a_sheets2 a_sheets3)))))), (a_sheets0, .inr (1, [.int v_sheets0_bits, .int v_sheets0_size, .ref a_sheets0_numbers])), (a_sheets0_numbers, .inl (cJ, 40, .inr (.inl v_sheets0_numbers))), (a_sheets1, .inr (1, [.int v_sheets1_bits, .int v_sheets1_size, .ref a_sheets1_numbers])), (a_sheets1_numbers, .inl (cJ, 40, .inr (.inl v_sheets1_numbers))), (a_sheets2, .inr (1, [.int v_sheets2_bits, .int v_sheets2_size, .ref a_sheets2_numbers])), (a_sheets2_numbers, .inl (cJ, 40, .inr (.inl v_sheets2_numbers))), (a_sheets3, .inr (1, [.int v_sheets3_bits, .int v_sheets3_size, .ref a_sheets3_numbers])), (a_sheets3_numbers, .inl (cJ, 40, .inr (.inl v_sheets3_numbers))), (a_findings, .inl (cI, 7, .inl v_findings))]
abbrev rX4_lays : Room := { frames := 2, cells := 0, slots := 0, locals := 41 }
def fX4_lays_77 (v_party_size : Int32) (v_sheets0_bits : Int32) (v_sheets0_size : Int32) (v_sheets0_numbers : Nat → Int64) (v_sheets1_bits : Int32) (v_sheets1_size : Int32) (v_sheets1_numbers : Nat → Int64) (v_sheets2_bits : Int32) (v_sheets2_size : Int32) (v_sheets2_numbers : Nat → Int64) (v_sheets3_bits : Int32) (v_sheets3_size : Int32) (v_sheets3_numbers : Nat → Int64) (v_party_list : Int32) (v_findings : Nat → Int32) (y3 : Int32) : Option (Int32 × Int32 × (Nat → Int32)) :=
  some (y3, (y3, v_findings))
set_option maxRecDepth 100000 in
set_option maxHeartbeats 4000000 in
theorem LX4_lays_77 {p : Program} {l : Launch} {e : Env} {s : State} {m : MethodId} {args : Array Value} {below : List Frame} {meth : Method} {c : Code} {D : va_G} {cI cJ cZ cS : ClassId} {tb : Nat} {A : Nat → Prop} {a_t a_party a_party_kinds a_party_costs a_party_terms a_party_known a_kept a_tape a_telephone a_sheets a_sheets0 a_sheets0_numbers a_sheets1 a_sheets1_numbers a_sheets2 a_sheets2_numbers a_sheets3 a_sheets3_numbers a_findings : Nat} {v_isKept : Int32} {v_party_size : Int32} {v_party_told : Int32} {v_sheets0_bits : Int32} {v_sheets0_size : Int32} {v_sheets0_numbers : Nat → Int64} {v_sheets1_bits : Int32} {v_sheets1_size : Int32} {v_sheets1_numbers : Nat → Int64} {v_sheets2_bits : Int32} {v_sheets2_size : Int32} {v_sheets2_numbers : Nat → Int64} {v_sheets3_bits : Int32} {v_sheets3_size : Int32} {v_sheets3_numbers : Nat → Int64} {rr : Int32} {kk' : Int32 × (Nat → Int32)} (fx : q_Fx p s m args meth c cX4_lays 5 RX4 (some .int) D cI cJ cZ cS tb A) : ∀ {v_party_list : Int32} {v_findings : Nat → Int32} {y3 : Int32} {H : Heap} {locs : List Loc} {ls : Array Slot}, q_H D A s (wX4_lays cI cJ cZ cS a_t a_party a_party_kinds a_party_costs a_party_terms a_party_known a_kept a_tape a_telephone a_sheets a_sheets0 a_sheets0_numbers a_sheets1 a_sheets1_numbers a_sheets2 a_sheets2_numbers a_sheets3 a_sheets3_numbers a_findings v_isKept v_party_size v_party_list v_party_told v_sheets0_bits v_sheets0_size v_sheets0_numbers v_sheets1_bits v_sheets1_size v_sheets1_numbers v_sheets2_bits v_sheets2_size v_sheets2_numbers v_sheets3_bits v_sheets3_size v_sheets3_numbers v_findings) H locs → lv_has ls 5 [(0, .ref a_t), (3, .int y3)] → fX4_lays_77 v_party_size v_sheets0_bits v_sheets0_size v_sheets0_numbers v_sheets1_bits v_sheets1_size v_sheets1_numbers v_sheets2_bits v_sheets2_size v_sheets2_numbers v_sheets3_bits v_sheets3_size v_sheets3_numbers v_party_list v_findings y3 = some (rr, kk') → W p l e rX4_lays s m args below meth c H locs 0 0 (MQ below (q_Ri D rr A ((fun k : Int32 × (Nat → Int32) => (wX4_lays cI cJ cZ cS a_t a_party a_party_kinds a_party_costs a_party_terms a_party_known a_kept a_tape a_telephone a_sheets a_sheets0 a_sheets0_numbers a_sheets1 a_sheets1_numbers a_sheets2 a_sheets2_numbers a_sheets3 a_sheets3_numbers a_findings v_isKept v_party_size k.1 v_party_told v_sheets0_bits v_sheets0_size v_sheets0_numbers v_sheets1_bits v_sheets1_size v_sheets1_numbers v_sheets2_bits v_sheets2_size v_sheets2_numbers v_sheets3_bits v_sheets3_size v_sheets3_numbers k.2)) kk')) args s 0 0 A) (F0 m 77 ls []) := by
  intro v_party_list v_findings y3 H locs ls h hl hf
  have hx := fx.1
  have hb := fx.2.1
  unfold fX4_lays_77 at hf
  refine lv_aload_n hx hb dX4_lays_77 rfl (lv_at hl 0 rfl) ?_
  refine q_get (v := .ref a_party) fx inX4 h 0 rfl rfl 0 (by decide) k_174 rfl dX4_lays_78 ?_
  refine lv_iload_n hx hb dX4_lays_81 rfl (lv_at hl 1 rfl) ?_
  refine q_putN (v := .int y3) (ws' := (wX4_lays cI cJ cZ cS a_t a_party a_party_kinds a_party_costs a_party_terms a_party_known a_kept a_tape a_telephone a_sheets a_sheets0 a_sheets0_numbers a_sheets1 a_sheets1_numbers a_sheets2 a_sheets2_numbers a_sheets3 a_sheets3_numbers a_findings v_isKept v_party_size y3 v_party_told v_sheets0_bits v_sheets0_size v_sheets0_numbers v_sheets1_bits v_sheets1_size v_sheets1_numbers v_sheets2_bits v_sheets2_size v_sheets2_numbers v_sheets3_bits v_sheets3_size v_sheets3_numbers v_findings)) fx inX0 tyX0 tyX0_ok nmX0 h 1 rfl rfl 1 (by decide) nf_3 rfl rfl rfl (Nat.le_of_ble_eq_true rfl) rfl dX4_lays_82 (fun H locs h => ?_)
  refine lv_iload_n hx hb dX4_lays_85 rfl (lv_at hl 1 rfl) ?_
  exact q_reti (fun k : Int32 × (Nat → Int32) => (wX4_lays cI cJ cZ cS a_t a_party a_party_kinds a_party_costs a_party_terms a_party_known a_kept a_tape a_telephone a_sheets a_sheets0 a_sheets0_numbers a_sheets1 a_sheets1_numbers a_sheets2 a_sheets2_numbers a_sheets3 a_sheets3_numbers a_findings v_isKept v_party_size k.1 v_party_told v_sheets0_bits v_sheets0_size v_sheets0_numbers v_sheets1_bits v_sheets1_size v_sheets1_numbers v_sheets2_bits v_sheets2_size v_sheets2_numbers v_sheets3_bits v_sheets3_size v_sheets3_numbers k.2)) fx hf h dX4_lays_86
def fX4_lays_71 (v_party_size : Int32) (v_sheets0_bits : Int32) (v_sheets0_size : Int32) (v_sheets0_numbers : Nat → Int64) (v_sheets1_bits : Int32) (v_sheets1_size : Int32) (v_sheets1_numbers : Nat → Int64) (v_sheets2_bits : Int32) (v_sheets2_size : Int32) (v_sheets2_numbers : Nat → Int64) (v_sheets3_bits : Int32) (v_sheets3_size : Int32) (v_sheets3_numbers : Nat → Int64) (ag21 : Int32 → (Nat → Int32) → Int32 → Int32 → Int32 → Option (Int32 × Int32 × (Nat → Int32))) (v_party_list : Int32) (v_findings : Nat → Int32) (y1 : Int32) (y3 : Int32) (y4 : Int32) : Option (Int32 × Int32 × (Nat → Int32)) :=
  nm (y4 + 1) (fun u1 =>
  ag21 v_party_list v_findings y1 y3 u1)
set_option maxRecDepth 100000 in
set_option maxHeartbeats 4000000 in
theorem LX4_lays_71 {p : Program} {l : Launch} {e : Env} {s : State} {m : MethodId} {args : Array Value} {below : List Frame} {meth : Method} {c : Code} {D : va_G} {cI cJ cZ cS : ClassId} {tb : Nat} {A : Nat → Prop} {a_t a_party a_party_kinds a_party_costs a_party_terms a_party_known a_kept a_tape a_telephone a_sheets a_sheets0 a_sheets0_numbers a_sheets1 a_sheets1_numbers a_sheets2 a_sheets2_numbers a_sheets3 a_sheets3_numbers a_findings : Nat} {v_isKept : Int32} {v_party_size : Int32} {v_party_told : Int32} {v_sheets0_bits : Int32} {v_sheets0_size : Int32} {v_sheets0_numbers : Nat → Int64} {v_sheets1_bits : Int32} {v_sheets1_size : Int32} {v_sheets1_numbers : Nat → Int64} {v_sheets2_bits : Int32} {v_sheets2_size : Int32} {v_sheets2_numbers : Nat → Int64} {v_sheets3_bits : Int32} {v_sheets3_size : Int32} {v_sheets3_numbers : Nat → Int64} {rr : Int32} {kk' : Int32 × (Nat → Int32)} (fx : q_Fx p s m args meth c cX4_lays 5 RX4 (some .int) D cI cJ cZ cS tb A) {ag21 : Int32 → (Nat → Int32) → Int32 → Int32 → Int32 → Option (Int32 × Int32 × (Nat → Int32))} (hag21 : ∀ {v_party_list : Int32} {v_findings : Nat → Int32} {y1 : Int32} {y3 : Int32} {y4 : Int32} {H : Heap} {locs : List Loc} {ls : Array Slot}, q_H D A s (wX4_lays cI cJ cZ cS a_t a_party a_party_kinds a_party_costs a_party_terms a_party_known a_kept a_tape a_telephone a_sheets a_sheets0 a_sheets0_numbers a_sheets1 a_sheets1_numbers a_sheets2 a_sheets2_numbers a_sheets3 a_sheets3_numbers a_findings v_isKept v_party_size v_party_list v_party_told v_sheets0_bits v_sheets0_size v_sheets0_numbers v_sheets1_bits v_sheets1_size v_sheets1_numbers v_sheets2_bits v_sheets2_size v_sheets2_numbers v_sheets3_bits v_sheets3_size v_sheets3_numbers v_findings) H locs → lv_has ls 5 [(0, .ref a_t), (1, .int y1), (3, .int y3), (4, .int y4)] → ag21 v_party_list v_findings y1 y3 y4 = some (rr, kk') → W p l e rX4_lays s m args below meth c H locs 0 0 (MQ below (q_Ri D rr A ((fun k : Int32 × (Nat → Int32) => (wX4_lays cI cJ cZ cS a_t a_party a_party_kinds a_party_costs a_party_terms a_party_known a_kept a_tape a_telephone a_sheets a_sheets0 a_sheets0_numbers a_sheets1 a_sheets1_numbers a_sheets2 a_sheets2_numbers a_sheets3 a_sheets3_numbers a_findings v_isKept v_party_size k.1 v_party_told v_sheets0_bits v_sheets0_size v_sheets0_numbers v_sheets1_bits v_sheets1_size v_sheets1_numbers v_sheets2_bits v_sheets2_size v_sheets2_numbers v_sheets3_bits v_sheets3_size v_sheets3_numbers k.2)) kk')) args s 0 0 A) (F0 m 21 ls [])) : ∀ {v_party_list : Int32} {v_findings : Nat → Int32} {y1 : Int32} {y3 : Int32} {y4 : Int32} {H : Heap} {locs : List Loc} {ls : Array Slot}, q_H D A s (wX4_lays cI cJ cZ cS a_t a_party a_party_kinds a_party_costs a_party_terms a_party_known a_kept a_tape a_telephone a_sheets a_sheets0 a_sheets0_numbers a_sheets1 a_sheets1_numbers a_sheets2 a_sheets2_numbers a_sheets3 a_sheets3_numbers a_findings v_isKept v_party_size v_party_list v_party_told v_sheets0_bits v_sheets0_size v_sheets0_numbers v_sheets1_bits v_sheets1_size v_sheets1_numbers v_sheets2_bits v_sheets2_size v_sheets2_numbers v_sheets3_bits v_sheets3_size v_sheets3_numbers v_findings) H locs → lv_has ls 5 [(0, .ref a_t), (1, .int y1), (3, .int y3), (4, .int y4)] → fX4_lays_71 v_party_size v_sheets0_bits v_sheets0_size v_sheets0_numbers v_sheets1_bits v_sheets1_size v_sheets1_numbers v_sheets2_bits v_sheets2_size v_sheets2_numbers v_sheets3_bits v_sheets3_size v_sheets3_numbers ag21 v_party_list v_findings y1 y3 y4 = some (rr, kk') → W p l e rX4_lays s m args below meth c H locs 0 0 (MQ below (q_Ri D rr A ((fun k : Int32 × (Nat → Int32) => (wX4_lays cI cJ cZ cS a_t a_party a_party_kinds a_party_costs a_party_terms a_party_known a_kept a_tape a_telephone a_sheets a_sheets0 a_sheets0_numbers a_sheets1 a_sheets1_numbers a_sheets2 a_sheets2_numbers a_sheets3 a_sheets3_numbers a_findings v_isKept v_party_size k.1 v_party_told v_sheets0_bits v_sheets0_size v_sheets0_numbers v_sheets1_bits v_sheets1_size v_sheets1_numbers v_sheets2_bits v_sheets2_size v_sheets2_numbers v_sheets3_bits v_sheets3_size v_sheets3_numbers k.2)) kk')) args s 0 0 A) (F0 m 71 ls []) := by
  intro v_party_list v_findings y1 y3 y4 H locs ls h hl hf
  have hx := fx.1
  have hb := fx.2.1
  unfold fX4_lays_71 at hf
  obtain ⟨u1, eu1, hf⟩ := nm_inv hf
  refine lv_iinc (v := u1) (lv' := [(4, .int u1), (0, .ref a_t), (1, .int y1), (3, .int y3)]) hx hb dX4_lays_71 hl (k := 3) rfl (by rw [eu1]; rfl) (by decide) rfl (fun ls hl => ?_)
  refine lv_goto (tgt := 21) hx hb dX4_lays_74 (by decide) ?_
  exact hag21 h (lv_sub hl [1, 2, 3, 0] rfl) hf
def fX4_lays_21 (v_party_size : Int32) (v_sheets0_bits : Int32) (v_sheets0_size : Int32) (v_sheets0_numbers : Nat → Int64) (v_sheets1_bits : Int32) (v_sheets1_size : Int32) (v_sheets1_numbers : Nat → Int64) (v_sheets2_bits : Int32) (v_sheets2_size : Int32) (v_sheets2_numbers : Nat → Int64) (v_sheets3_bits : Int32) (v_sheets3_size : Int32) (v_sheets3_numbers : Nat → Int64) (ag21 : Int32 → (Nat → Int32) → Int32 → Int32 → Int32 → Option (Int32 × Int32 × (Nat → Int32))) (v_party_list : Int32) (v_findings : Nat → Int32) (y1 : Int32) (y3 : Int32) (y4 : Int32) : Option (Int32 × Int32 × (Nat → Int32)) :=
  (if v_party_size ≤ y4 then (
  fX4_lays_77 v_party_size v_sheets0_bits v_sheets0_size v_sheets0_numbers v_sheets1_bits v_sheets1_size v_sheets1_numbers v_sheets2_bits v_sheets2_size v_sheets2_numbers v_sheets3_bits v_sheets3_size v_sheets3_numbers v_party_list v_findings y3)
  else (
  sel4 y1 (
  (if v_sheets0_size ≤ y4 then (
  fX4_lays_77 v_party_size v_sheets0_bits v_sheets0_size v_sheets0_numbers v_sheets1_bits v_sheets1_size v_sheets1_numbers v_sheets2_bits v_sheets2_size v_sheets2_numbers v_sheets3_bits v_sheets3_size v_sheets3_numbers v_party_list v_findings y3)
  else (
  gIn y4 40 (
  (if (lg_cmp (v_sheets0_numbers y4.toNatClampNeg) 0) = 0 then (
  fX4_lays_71 v_party_size v_sheets0_bits v_sheets0_size v_sheets0_numbers v_sheets1_bits v_sheets1_size v_sheets1_numbers v_sheets2_bits v_sheets2_size v_sheets2_numbers v_sheets3_bits v_sheets3_size v_sheets3_numbers ag21 v_party_list v_findings y1 y3 y4)
  else (
  nm (y3 ||| (jshl 1 y4)) (fun u7 =>
  fX4_lays_71 v_party_size v_sheets0_bits v_sheets0_size v_sheets0_numbers v_sheets1_bits v_sheets1_size v_sheets1_numbers v_sheets2_bits v_sheets2_size v_sheets2_numbers v_sheets3_bits v_sheets3_size v_sheets3_numbers ag21 v_party_list v_findings y1 u7 y4)))))))
  ((if v_sheets1_size ≤ y4 then (
  fX4_lays_77 v_party_size v_sheets0_bits v_sheets0_size v_sheets0_numbers v_sheets1_bits v_sheets1_size v_sheets1_numbers v_sheets2_bits v_sheets2_size v_sheets2_numbers v_sheets3_bits v_sheets3_size v_sheets3_numbers v_party_list v_findings y3)
  else (
  gIn y4 40 (
  (if (lg_cmp (v_sheets1_numbers y4.toNatClampNeg) 0) = 0 then (
  fX4_lays_71 v_party_size v_sheets0_bits v_sheets0_size v_sheets0_numbers v_sheets1_bits v_sheets1_size v_sheets1_numbers v_sheets2_bits v_sheets2_size v_sheets2_numbers v_sheets3_bits v_sheets3_size v_sheets3_numbers ag21 v_party_list v_findings y1 y3 y4)
  else (
  nm (y3 ||| (jshl 1 y4)) (fun u11 =>
  fX4_lays_71 v_party_size v_sheets0_bits v_sheets0_size v_sheets0_numbers v_sheets1_bits v_sheets1_size v_sheets1_numbers v_sheets2_bits v_sheets2_size v_sheets2_numbers v_sheets3_bits v_sheets3_size v_sheets3_numbers ag21 v_party_list v_findings y1 u11 y4)))))))
  ((if v_sheets2_size ≤ y4 then (
  fX4_lays_77 v_party_size v_sheets0_bits v_sheets0_size v_sheets0_numbers v_sheets1_bits v_sheets1_size v_sheets1_numbers v_sheets2_bits v_sheets2_size v_sheets2_numbers v_sheets3_bits v_sheets3_size v_sheets3_numbers v_party_list v_findings y3)
  else (
  gIn y4 40 (
  (if (lg_cmp (v_sheets2_numbers y4.toNatClampNeg) 0) = 0 then (
  fX4_lays_71 v_party_size v_sheets0_bits v_sheets0_size v_sheets0_numbers v_sheets1_bits v_sheets1_size v_sheets1_numbers v_sheets2_bits v_sheets2_size v_sheets2_numbers v_sheets3_bits v_sheets3_size v_sheets3_numbers ag21 v_party_list v_findings y1 y3 y4)
  else (
  nm (y3 ||| (jshl 1 y4)) (fun u15 =>
  fX4_lays_71 v_party_size v_sheets0_bits v_sheets0_size v_sheets0_numbers v_sheets1_bits v_sheets1_size v_sheets1_numbers v_sheets2_bits v_sheets2_size v_sheets2_numbers v_sheets3_bits v_sheets3_size v_sheets3_numbers ag21 v_party_list v_findings y1 u15 y4)))))))
  ((if v_sheets3_size ≤ y4 then (
  fX4_lays_77 v_party_size v_sheets0_bits v_sheets0_size v_sheets0_numbers v_sheets1_bits v_sheets1_size v_sheets1_numbers v_sheets2_bits v_sheets2_size v_sheets2_numbers v_sheets3_bits v_sheets3_size v_sheets3_numbers v_party_list v_findings y3)
  else (
  gIn y4 40 (
  (if (lg_cmp (v_sheets3_numbers y4.toNatClampNeg) 0) = 0 then (
  fX4_lays_71 v_party_size v_sheets0_bits v_sheets0_size v_sheets0_numbers v_sheets1_bits v_sheets1_size v_sheets1_numbers v_sheets2_bits v_sheets2_size v_sheets2_numbers v_sheets3_bits v_sheets3_size v_sheets3_numbers ag21 v_party_list v_findings y1 y3 y4)
  else (
  nm (y3 ||| (jshl 1 y4)) (fun u19 =>
  fX4_lays_71 v_party_size v_sheets0_bits v_sheets0_size v_sheets0_numbers v_sheets1_bits v_sheets1_size v_sheets1_numbers v_sheets2_bits v_sheets2_size v_sheets2_numbers v_sheets3_bits v_sheets3_size v_sheets3_numbers ag21 v_party_list v_findings y1 u19 y4)))))))))
set_option maxRecDepth 100000 in
set_option maxHeartbeats 4000000 in
theorem LX4_lays_21 {p : Program} {l : Launch} {e : Env} {s : State} {m : MethodId} {args : Array Value} {below : List Frame} {meth : Method} {c : Code} {D : va_G} {cI cJ cZ cS : ClassId} {tb : Nat} {A : Nat → Prop} {a_t a_party a_party_kinds a_party_costs a_party_terms a_party_known a_kept a_tape a_telephone a_sheets a_sheets0 a_sheets0_numbers a_sheets1 a_sheets1_numbers a_sheets2 a_sheets2_numbers a_sheets3 a_sheets3_numbers a_findings : Nat} {v_isKept : Int32} {v_party_size : Int32} {v_party_told : Int32} {v_sheets0_bits : Int32} {v_sheets0_size : Int32} {v_sheets0_numbers : Nat → Int64} {v_sheets1_bits : Int32} {v_sheets1_size : Int32} {v_sheets1_numbers : Nat → Int64} {v_sheets2_bits : Int32} {v_sheets2_size : Int32} {v_sheets2_numbers : Nat → Int64} {v_sheets3_bits : Int32} {v_sheets3_size : Int32} {v_sheets3_numbers : Nat → Int64} {rr : Int32} {kk' : Int32 × (Nat → Int32)} (fx : q_Fx p s m args meth c cX4_lays 5 RX4 (some .int) D cI cJ cZ cS tb A) {ag21 : Int32 → (Nat → Int32) → Int32 → Int32 → Int32 → Option (Int32 × Int32 × (Nat → Int32))} (hag21 : ∀ {v_party_list : Int32} {v_findings : Nat → Int32} {y1 : Int32} {y3 : Int32} {y4 : Int32} {H : Heap} {locs : List Loc} {ls : Array Slot}, q_H D A s (wX4_lays cI cJ cZ cS a_t a_party a_party_kinds a_party_costs a_party_terms a_party_known a_kept a_tape a_telephone a_sheets a_sheets0 a_sheets0_numbers a_sheets1 a_sheets1_numbers a_sheets2 a_sheets2_numbers a_sheets3 a_sheets3_numbers a_findings v_isKept v_party_size v_party_list v_party_told v_sheets0_bits v_sheets0_size v_sheets0_numbers v_sheets1_bits v_sheets1_size v_sheets1_numbers v_sheets2_bits v_sheets2_size v_sheets2_numbers v_sheets3_bits v_sheets3_size v_sheets3_numbers v_findings) H locs → lv_has ls 5 [(0, .ref a_t), (1, .int y1), (3, .int y3), (4, .int y4)] → ag21 v_party_list v_findings y1 y3 y4 = some (rr, kk') → W p l e rX4_lays s m args below meth c H locs 0 0 (MQ below (q_Ri D rr A ((fun k : Int32 × (Nat → Int32) => (wX4_lays cI cJ cZ cS a_t a_party a_party_kinds a_party_costs a_party_terms a_party_known a_kept a_tape a_telephone a_sheets a_sheets0 a_sheets0_numbers a_sheets1 a_sheets1_numbers a_sheets2 a_sheets2_numbers a_sheets3 a_sheets3_numbers a_findings v_isKept v_party_size k.1 v_party_told v_sheets0_bits v_sheets0_size v_sheets0_numbers v_sheets1_bits v_sheets1_size v_sheets1_numbers v_sheets2_bits v_sheets2_size v_sheets2_numbers v_sheets3_bits v_sheets3_size v_sheets3_numbers k.2)) kk')) args s 0 0 A) (F0 m 21 ls [])) : ∀ {v_party_list : Int32} {v_findings : Nat → Int32} {y1 : Int32} {y3 : Int32} {y4 : Int32} {H : Heap} {locs : List Loc} {ls : Array Slot}, q_H D A s (wX4_lays cI cJ cZ cS a_t a_party a_party_kinds a_party_costs a_party_terms a_party_known a_kept a_tape a_telephone a_sheets a_sheets0 a_sheets0_numbers a_sheets1 a_sheets1_numbers a_sheets2 a_sheets2_numbers a_sheets3 a_sheets3_numbers a_findings v_isKept v_party_size v_party_list v_party_told v_sheets0_bits v_sheets0_size v_sheets0_numbers v_sheets1_bits v_sheets1_size v_sheets1_numbers v_sheets2_bits v_sheets2_size v_sheets2_numbers v_sheets3_bits v_sheets3_size v_sheets3_numbers v_findings) H locs → lv_has ls 5 [(0, .ref a_t), (1, .int y1), (3, .int y3), (4, .int y4)] → fX4_lays_21 v_party_size v_sheets0_bits v_sheets0_size v_sheets0_numbers v_sheets1_bits v_sheets1_size v_sheets1_numbers v_sheets2_bits v_sheets2_size v_sheets2_numbers v_sheets3_bits v_sheets3_size v_sheets3_numbers ag21 v_party_list v_findings y1 y3 y4 = some (rr, kk') → W p l e rX4_lays s m args below meth c H locs 0 0 (MQ below (q_Ri D rr A ((fun k : Int32 × (Nat → Int32) => (wX4_lays cI cJ cZ cS a_t a_party a_party_kinds a_party_costs a_party_terms a_party_known a_kept a_tape a_telephone a_sheets a_sheets0 a_sheets0_numbers a_sheets1 a_sheets1_numbers a_sheets2 a_sheets2_numbers a_sheets3 a_sheets3_numbers a_findings v_isKept v_party_size k.1 v_party_told v_sheets0_bits v_sheets0_size v_sheets0_numbers v_sheets1_bits v_sheets1_size v_sheets1_numbers v_sheets2_bits v_sheets2_size v_sheets2_numbers v_sheets3_bits v_sheets3_size v_sheets3_numbers k.2)) kk')) args s 0 0 A) (F0 m 21 ls []) := by
  intro v_party_list v_findings y1 y3 y4 H locs ls h hl hf
  have hx := fx.1
  have hb := fx.2.1
  unfold fX4_lays_21 at hf
  refine lv_iload hx hb dX4_lays_21 (lv_at hl 3 rfl) ?_
  refine lv_aload_n hx hb dX4_lays_23 rfl (lv_at hl 0 rfl) ?_
  refine q_get (v := .ref a_party) fx inX4 h 0 rfl rfl 0 (by decide) k_174 rfl dX4_lays_24 ?_
  refine q_getN (v := .int v_party_size) fx inX0 h 1 rfl rfl 0 (by decide) nf_0 rfl dX4_lays_27 ?_
  refine lv_icmp_ge (tgt := 77) hx hb dX4_lays_30 (by decide) (fun c2 => ?_) (fun c2 => ?_)
  · have hf := it_t c2 hf
    exact LX4_lays_77 fx h (lv_sub hl [0, 2] rfl) hf
  have hf := it_f c2 hf
  refine lv_iload hx hb dX4_lays_33 (lv_at hl 3 rfl) ?_
  refine lv_aload_n hx hb dX4_lays_35 rfl (lv_at hl 0 rfl) ?_
  refine q_get (v := .ref a_sheets) fx inX4 h 0 rfl rfl 5 (by decide) k_179 rfl dX4_lays_36 ?_
  refine lv_iload_n hx hb dX4_lays_39 rfl (lv_at hl 1 rfl) ?_
  rcases sel4_inv hf with ⟨c3, hf⟩ | ⟨c3, hf⟩ | ⟨c3, hf⟩ | ⟨c3, hf⟩
  · refine q_aald (v := a_sheets0) fx h 2 rfl c3 (vinK (by decide)) rfl dX4_lays_40 ?_
    refine q_getN (v := .int v_sheets0_size) fx inX1 h 3 rfl rfl 1 (by decide) nf_10 rfl dX4_lays_41 ?_
    refine lv_icmp_ge (tgt := 77) hx hb dX4_lays_44 (by decide) (fun c4 => ?_) (fun c4 => ?_)
    · have hf := it_t c4 hf
      exact LX4_lays_77 fx h (lv_sub hl [0, 2] rfl) hf
    have hf := it_f c4 hf
    refine lv_aload_n hx hb dX4_lays_47 rfl (lv_at hl 0 rfl) ?_
    refine q_get (v := .ref a_sheets) fx inX4 h 0 rfl rfl 5 (by decide) k_179 rfl dX4_lays_48 ?_
    refine lv_iload_n hx hb dX4_lays_51 rfl (lv_at hl 1 rfl) ?_
    refine q_aald (v := a_sheets0) fx h 2 rfl c3 (vinK (by decide)) rfl dX4_lays_52 ?_
    refine q_getN (v := .ref a_sheets0_numbers) fx inX1 h 3 rfl rfl 2 (by decide) nf_11 rfl dX4_lays_53 ?_
    refine lv_iload hx hb dX4_lays_56 (lv_at hl 3 rfl) ?_
    obtain ⟨i5, hf⟩ := gIn_inv hf
    refine q_lald fx h 4 rfl i5 dX4_lays_58 ?_
    refine lv_lconst (v := 0) hx hb dX4_lays_59 (by decide) ?_
    refine W.lcmp hx hb dX4_lays_60 ?_
    refine lv_if_eq (tgt := 71) hx hb dX4_lays_61 (by decide) (fun c6 => ?_) (fun c6 => ?_)
    · have hf := it_t c6 hf
      exact LX4_lays_71 fx hag21 h (lv_sub hl [0, 1, 2, 3] rfl) hf
    have hf := it_f c6 hf
    refine lv_iload_n hx hb dX4_lays_64 rfl (lv_at hl 2 rfl) ?_
    refine lv_iconst (v := 1) hx hb dX4_lays_65 (by decide) ?_
    refine lv_iload hx hb dX4_lays_66 (lv_at hl 3 rfl) ?_
    refine lv_ishl hx hb dX4_lays_68 ?_
    refine lv_ior hx hb dX4_lays_69 ?_
    obtain ⟨u7, eu7, hf⟩ := nm_inv hf
    refine lv_eqi eu7 ?_
    refine lv_istore_n (lv' := [(3, .int u7), (0, .ref a_t), (1, .int y1), (4, .int y4)]) hx hb dX4_lays_70 rfl hl (by decide) rfl (fun ls hl => ?_)
    exact LX4_lays_71 fx hag21 h (lv_sub hl [1, 2, 0, 3] rfl) hf
  · refine q_aald (v := a_sheets1) fx h 2 rfl c3 (vinK (by decide)) rfl dX4_lays_40 ?_
    refine q_getN (v := .int v_sheets1_size) fx inX1 h 5 rfl rfl 1 (by decide) nf_10 rfl dX4_lays_41 ?_
    refine lv_icmp_ge (tgt := 77) hx hb dX4_lays_44 (by decide) (fun c8 => ?_) (fun c8 => ?_)
    · have hf := it_t c8 hf
      exact LX4_lays_77 fx h (lv_sub hl [0, 2] rfl) hf
    have hf := it_f c8 hf
    refine lv_aload_n hx hb dX4_lays_47 rfl (lv_at hl 0 rfl) ?_
    refine q_get (v := .ref a_sheets) fx inX4 h 0 rfl rfl 5 (by decide) k_179 rfl dX4_lays_48 ?_
    refine lv_iload_n hx hb dX4_lays_51 rfl (lv_at hl 1 rfl) ?_
    refine q_aald (v := a_sheets1) fx h 2 rfl c3 (vinK (by decide)) rfl dX4_lays_52 ?_
    refine q_getN (v := .ref a_sheets1_numbers) fx inX1 h 5 rfl rfl 2 (by decide) nf_11 rfl dX4_lays_53 ?_
    refine lv_iload hx hb dX4_lays_56 (lv_at hl 3 rfl) ?_
    obtain ⟨i9, hf⟩ := gIn_inv hf
    refine q_lald fx h 6 rfl i9 dX4_lays_58 ?_
    refine lv_lconst (v := 0) hx hb dX4_lays_59 (by decide) ?_
    refine W.lcmp hx hb dX4_lays_60 ?_
    refine lv_if_eq (tgt := 71) hx hb dX4_lays_61 (by decide) (fun c10 => ?_) (fun c10 => ?_)
    · have hf := it_t c10 hf
      exact LX4_lays_71 fx hag21 h (lv_sub hl [0, 1, 2, 3] rfl) hf
    have hf := it_f c10 hf
    refine lv_iload_n hx hb dX4_lays_64 rfl (lv_at hl 2 rfl) ?_
    refine lv_iconst (v := 1) hx hb dX4_lays_65 (by decide) ?_
    refine lv_iload hx hb dX4_lays_66 (lv_at hl 3 rfl) ?_
    refine lv_ishl hx hb dX4_lays_68 ?_
    refine lv_ior hx hb dX4_lays_69 ?_
    obtain ⟨u11, eu11, hf⟩ := nm_inv hf
    refine lv_eqi eu11 ?_
    refine lv_istore_n (lv' := [(3, .int u11), (0, .ref a_t), (1, .int y1), (4, .int y4)]) hx hb dX4_lays_70 rfl hl (by decide) rfl (fun ls hl => ?_)
    exact LX4_lays_71 fx hag21 h (lv_sub hl [1, 2, 0, 3] rfl) hf
  · refine q_aald (v := a_sheets2) fx h 2 rfl c3 (vinK (by decide)) rfl dX4_lays_40 ?_
    refine q_getN (v := .int v_sheets2_size) fx inX1 h 7 rfl rfl 1 (by decide) nf_10 rfl dX4_lays_41 ?_
    refine lv_icmp_ge (tgt := 77) hx hb dX4_lays_44 (by decide) (fun c12 => ?_) (fun c12 => ?_)
    · have hf := it_t c12 hf
      exact LX4_lays_77 fx h (lv_sub hl [0, 2] rfl) hf
    have hf := it_f c12 hf
    refine lv_aload_n hx hb dX4_lays_47 rfl (lv_at hl 0 rfl) ?_
    refine q_get (v := .ref a_sheets) fx inX4 h 0 rfl rfl 5 (by decide) k_179 rfl dX4_lays_48 ?_
    refine lv_iload_n hx hb dX4_lays_51 rfl (lv_at hl 1 rfl) ?_
    refine q_aald (v := a_sheets2) fx h 2 rfl c3 (vinK (by decide)) rfl dX4_lays_52 ?_
    refine q_getN (v := .ref a_sheets2_numbers) fx inX1 h 7 rfl rfl 2 (by decide) nf_11 rfl dX4_lays_53 ?_
    refine lv_iload hx hb dX4_lays_56 (lv_at hl 3 rfl) ?_
    obtain ⟨i13, hf⟩ := gIn_inv hf
    refine q_lald fx h 8 rfl i13 dX4_lays_58 ?_
    refine lv_lconst (v := 0) hx hb dX4_lays_59 (by decide) ?_
    refine W.lcmp hx hb dX4_lays_60 ?_
    refine lv_if_eq (tgt := 71) hx hb dX4_lays_61 (by decide) (fun c14 => ?_) (fun c14 => ?_)
    · have hf := it_t c14 hf
      exact LX4_lays_71 fx hag21 h (lv_sub hl [0, 1, 2, 3] rfl) hf
    have hf := it_f c14 hf
    refine lv_iload_n hx hb dX4_lays_64 rfl (lv_at hl 2 rfl) ?_
    refine lv_iconst (v := 1) hx hb dX4_lays_65 (by decide) ?_
    refine lv_iload hx hb dX4_lays_66 (lv_at hl 3 rfl) ?_
    refine lv_ishl hx hb dX4_lays_68 ?_
    refine lv_ior hx hb dX4_lays_69 ?_
    obtain ⟨u15, eu15, hf⟩ := nm_inv hf
    refine lv_eqi eu15 ?_
    refine lv_istore_n (lv' := [(3, .int u15), (0, .ref a_t), (1, .int y1), (4, .int y4)]) hx hb dX4_lays_70 rfl hl (by decide) rfl (fun ls hl => ?_)
    exact LX4_lays_71 fx hag21 h (lv_sub hl [1, 2, 0, 3] rfl) hf
  · refine q_aald (v := a_sheets3) fx h 2 rfl c3 (vinK (by decide)) rfl dX4_lays_40 ?_
    refine q_getN (v := .int v_sheets3_size) fx inX1 h 9 rfl rfl 1 (by decide) nf_10 rfl dX4_lays_41 ?_
    refine lv_icmp_ge (tgt := 77) hx hb dX4_lays_44 (by decide) (fun c16 => ?_) (fun c16 => ?_)
    · have hf := it_t c16 hf
      exact LX4_lays_77 fx h (lv_sub hl [0, 2] rfl) hf
    have hf := it_f c16 hf
    refine lv_aload_n hx hb dX4_lays_47 rfl (lv_at hl 0 rfl) ?_
    refine q_get (v := .ref a_sheets) fx inX4 h 0 rfl rfl 5 (by decide) k_179 rfl dX4_lays_48 ?_
    refine lv_iload_n hx hb dX4_lays_51 rfl (lv_at hl 1 rfl) ?_
    refine q_aald (v := a_sheets3) fx h 2 rfl c3 (vinK (by decide)) rfl dX4_lays_52 ?_
    refine q_getN (v := .ref a_sheets3_numbers) fx inX1 h 9 rfl rfl 2 (by decide) nf_11 rfl dX4_lays_53 ?_
    refine lv_iload hx hb dX4_lays_56 (lv_at hl 3 rfl) ?_
    obtain ⟨i17, hf⟩ := gIn_inv hf
    refine q_lald fx h 10 rfl i17 dX4_lays_58 ?_
    refine lv_lconst (v := 0) hx hb dX4_lays_59 (by decide) ?_
    refine W.lcmp hx hb dX4_lays_60 ?_
    refine lv_if_eq (tgt := 71) hx hb dX4_lays_61 (by decide) (fun c18 => ?_) (fun c18 => ?_)
    · have hf := it_t c18 hf
      exact LX4_lays_71 fx hag21 h (lv_sub hl [0, 1, 2, 3] rfl) hf
    have hf := it_f c18 hf
    refine lv_iload_n hx hb dX4_lays_64 rfl (lv_at hl 2 rfl) ?_
    refine lv_iconst (v := 1) hx hb dX4_lays_65 (by decide) ?_
    refine lv_iload hx hb dX4_lays_66 (lv_at hl 3 rfl) ?_
    refine lv_ishl hx hb dX4_lays_68 ?_
    refine lv_ior hx hb dX4_lays_69 ?_
    obtain ⟨u19, eu19, hf⟩ := nm_inv hf
    refine lv_eqi eu19 ?_
    refine lv_istore_n (lv' := [(3, .int u19), (0, .ref a_t), (1, .int y1), (4, .int y4)]) hx hb dX4_lays_70 rfl hl (by decide) rfl (fun ls hl => ?_)
    exact LX4_lays_71 fx hag21 h (lv_sub hl [1, 2, 0, 3] rfl) hf
set_option maxRecDepth 100000 in
theorem EX4_lays_21 {p : Program} {l : Launch} {e : Env} {s : State} {m : MethodId} {args : Array Value} {below : List Frame} {meth : Method} {c : Code} {D : va_G} {cI cJ cZ cS : ClassId} {tb : Nat} {A : Nat → Prop} {a_t a_party a_party_kinds a_party_costs a_party_terms a_party_known a_kept a_tape a_telephone a_sheets a_sheets0 a_sheets0_numbers a_sheets1 a_sheets1_numbers a_sheets2 a_sheets2_numbers a_sheets3 a_sheets3_numbers a_findings : Nat} {v_isKept : Int32} {v_party_size : Int32} {v_party_told : Int32} {v_sheets0_bits : Int32} {v_sheets0_size : Int32} {v_sheets0_numbers : Nat → Int64} {v_sheets1_bits : Int32} {v_sheets1_size : Int32} {v_sheets1_numbers : Nat → Int64} {v_sheets2_bits : Int32} {v_sheets2_size : Int32} {v_sheets2_numbers : Nat → Int64} {v_sheets3_bits : Int32} {v_sheets3_size : Int32} {v_sheets3_numbers : Nat → Int64} {rr : Int32} {kk' : Int32 × (Nat → Int32)} (fx : q_Fx p s m args meth c cX4_lays 5 RX4 (some .int) D cI cJ cZ cS tb A) : ∀ (n : Nat), ∀ {v_party_list : Int32} {v_findings : Nat → Int32} {y1 : Int32} {y3 : Int32} {y4 : Int32} {H : Heap} {locs : List Loc} {ls : Array Slot}, q_H D A s (wX4_lays cI cJ cZ cS a_t a_party a_party_kinds a_party_costs a_party_terms a_party_known a_kept a_tape a_telephone a_sheets a_sheets0 a_sheets0_numbers a_sheets1 a_sheets1_numbers a_sheets2 a_sheets2_numbers a_sheets3 a_sheets3_numbers a_findings v_isKept v_party_size v_party_list v_party_told v_sheets0_bits v_sheets0_size v_sheets0_numbers v_sheets1_bits v_sheets1_size v_sheets1_numbers v_sheets2_bits v_sheets2_size v_sheets2_numbers v_sheets3_bits v_sheets3_size v_sheets3_numbers v_findings) H locs → lv_has ls 5 [(0, .ref a_t), (1, .int y1), (3, .int y3), (4, .int y4)] → ll5 (fX4_lays_21 v_party_size v_sheets0_bits v_sheets0_size v_sheets0_numbers v_sheets1_bits v_sheets1_size v_sheets1_numbers v_sheets2_bits v_sheets2_size v_sheets2_numbers v_sheets3_bits v_sheets3_size v_sheets3_numbers) n v_party_list v_findings y1 y3 y4 = some (rr, kk') → W p l e rX4_lays s m args below meth c H locs 0 0 (MQ below (q_Ri D rr A ((fun k : Int32 × (Nat → Int32) => (wX4_lays cI cJ cZ cS a_t a_party a_party_kinds a_party_costs a_party_terms a_party_known a_kept a_tape a_telephone a_sheets a_sheets0 a_sheets0_numbers a_sheets1 a_sheets1_numbers a_sheets2 a_sheets2_numbers a_sheets3 a_sheets3_numbers a_findings v_isKept v_party_size k.1 v_party_told v_sheets0_bits v_sheets0_size v_sheets0_numbers v_sheets1_bits v_sheets1_size v_sheets1_numbers v_sheets2_bits v_sheets2_size v_sheets2_numbers v_sheets3_bits v_sheets3_size v_sheets3_numbers k.2)) kk')) args s 0 0 A) (F0 m 21 ls []) := by
  intro n
  induction n with
  | zero => intro v_party_list v_findings y1 y3 y4 H locs ls h hl hf; exact (ll5_z hf).elim
  | succ n ih => intro v_party_list v_findings y1 y3 y4 H locs ls h hl hf; exact LX4_lays_21 fx ih h hl (ll5_s hf)
def fX4_lays (v_party_size : Int32) (v_party_list : Int32) (v_sheets0_bits : Int32) (v_sheets0_size : Int32) (v_sheets0_numbers : Nat → Int64) (v_sheets1_bits : Int32) (v_sheets1_size : Int32) (v_sheets1_numbers : Nat → Int64) (v_sheets2_bits : Int32) (v_sheets2_size : Int32) (v_sheets2_numbers : Nat → Int64) (v_sheets3_bits : Int32) (v_sheets3_size : Int32) (v_sheets3_numbers : Nat → Int64) (v_findings : Nat → Int32) (x1 : Int32) : Option (Int32 × Int32 × (Nat → Int32)) :=
  bR (fX4_sheetLack v_sheets0_bits v_sheets1_bits v_sheets2_bits v_sheets3_bits x1) (fun r20 k20 =>
  (if r20 = 0 then (
  ll5 (fX4_lays_21 v_party_size v_sheets0_bits v_sheets0_size v_sheets0_numbers v_sheets1_bits v_sheets1_size v_sheets1_numbers v_sheets2_bits v_sheets2_size v_sheets2_numbers v_sheets3_bits v_sheets3_size v_sheets3_numbers) qF v_party_list v_findings x1 0 0)
  else (
  bR (fX4_found v_findings r20) (fun r22 k22 =>
  some (r22, (v_party_list, k22))))))
set_option maxRecDepth 100000 in
set_option maxHeartbeats 4000000 in
theorem tX4_lays (l : Launch) (D : va_G) (cI cJ cZ cS : ClassId) (tb : Nat) (a_t a_party a_party_kinds a_party_costs a_party_terms a_party_known a_kept a_tape a_telephone a_sheets a_sheets0 a_sheets0_numbers a_sheets1 a_sheets1_numbers a_sheets2 a_sheets2_numbers a_sheets3 a_sheets3_numbers a_findings : Nat) (sz : Nat) (v_isKept : Int32) (v_party_size : Int32) (v_party_list : Int32) (v_party_told : Int32) (v_sheets0_bits : Int32) (v_sheets0_size : Int32) (v_sheets0_numbers : Nat → Int64) (v_sheets1_bits : Int32) (v_sheets1_size : Int32) (v_sheets1_numbers : Nat → Int64) (v_sheets2_bits : Int32) (v_sheets2_size : Int32) (v_sheets2_numbers : Nat → Int64) (v_sheets3_bits : Int32) (v_sheets3_size : Int32) (v_sheets3_numbers : Nat → Int64) (v_findings : Nat → Int32) (x1 : Int32) (rr : Int32) (kk' : Int32 × (Nat → Int32)) (hf : fX4_lays v_party_size v_party_list v_sheets0_bits v_sheets0_size v_sheets0_numbers v_sheets1_bits v_sheets1_size v_sheets1_numbers v_sheets2_bits v_sheets2_size v_sheets2_numbers v_sheets3_bits v_sheets3_size v_sheets3_numbers v_findings x1 = some (rr, kk')) : Met l yX4_lays (Cond.code yX4_lays cX4_lays 5 (some .int) :: wA) rX4_lays (q_Pre D cI cJ cZ cS tb [.ref a_t, .int x1] sz (wX4_lays cI cJ cZ cS a_t a_party a_party_kinds a_party_costs a_party_terms a_party_known a_kept a_tape a_telephone a_sheets a_sheets0 a_sheets0_numbers a_sheets1 a_sheets1_numbers a_sheets2 a_sheets2_numbers a_sheets3 a_sheets3_numbers a_findings v_isKept v_party_size v_party_list v_party_told v_sheets0_bits v_sheets0_size v_sheets0_numbers v_sheets1_bits v_sheets1_size v_sheets1_numbers v_sheets2_bits v_sheets2_size v_sheets2_numbers v_sheets3_bits v_sheets3_size v_sheets3_numbers v_findings)) (q_Ri D rr (va_A (wX4_lays cI cJ cZ cS a_t a_party a_party_kinds a_party_costs a_party_terms a_party_known a_kept a_tape a_telephone a_sheets a_sheets0 a_sheets0_numbers a_sheets1 a_sheets1_numbers a_sheets2 a_sheets2_numbers a_sheets3 a_sheets3_numbers a_findings v_isKept v_party_size v_party_list v_party_told v_sheets0_bits v_sheets0_size v_sheets0_numbers v_sheets1_bits v_sheets1_size v_sheets1_numbers v_sheets2_bits v_sheets2_size v_sheets2_numbers v_sheets3_bits v_sheets3_size v_sheets3_numbers v_findings) sz) ((fun k : Int32 × (Nat → Int32) => (wX4_lays cI cJ cZ cS a_t a_party a_party_kinds a_party_costs a_party_terms a_party_known a_kept a_tape a_telephone a_sheets a_sheets0 a_sheets0_numbers a_sheets1 a_sheets1_numbers a_sheets2 a_sheets2_numbers a_sheets3 a_sheets3_numbers a_findings v_isKept v_party_size k.1 v_party_told v_sheets0_bits v_sheets0_size v_sheets0_numbers v_sheets1_bits v_sheets1_size v_sheets1_numbers v_sheets2_bits v_sheets2_size v_sheets2_numbers v_sheets3_bits v_sheets3_size v_sheets3_numbers k.2)) kk')) 0 0 (va_A (wX4_lays cI cJ cZ cS a_t a_party a_party_kinds a_party_costs a_party_terms a_party_known a_kept a_tape a_telephone a_sheets a_sheets0 a_sheets0_numbers a_sheets1 a_sheets1_numbers a_sheets2 a_sheets2_numbers a_sheets3 a_sheets3_numbers a_findings v_isKept v_party_size v_party_list v_party_told v_sheets0_bits v_sheets0_size v_sheets0_numbers v_sheets1_bits v_sheets1_size v_sheets1_numbers v_sheets2_bits v_sheets2_size v_sheets2_numbers v_sheets3_bits v_sheets3_size v_sheets3_numbers v_findings) sz) := by
  refine q_enter (Qf := fun A => (q_Ri D rr A ((fun k : Int32 × (Nat → Int32) => (wX4_lays cI cJ cZ cS a_t a_party a_party_kinds a_party_costs a_party_terms a_party_known a_kept a_tape a_telephone a_sheets a_sheets0 a_sheets0_numbers a_sheets1 a_sheets1_numbers a_sheets2 a_sheets2_numbers a_sheets3 a_sheets3_numbers a_findings v_isKept v_party_size k.1 v_party_told v_sheets0_bits v_sheets0_size v_sheets0_numbers v_sheets1_bits v_sheets1_size v_sheets1_numbers v_sheets2_bits v_sheets2_size v_sheets2_numbers v_sheets3_bits v_sheets3_size v_sheets3_numbers k.2)) kk'))) (by decide) rfl (Nat.le_of_ble_eq_true rfl) ?_
  intro p e s m below meth c A ls fx hname h hl
  have hx := fx.1
  have hb := fx.2.1
  have hl : lv_has ls 5 [(0, .ref a_t), (1, .int x1)] := hl
  generalize h9 : s.heap = H at h ⊢
  clear h9
  generalize h9 : ([] : List Loc) = locs at h ⊢
  clear h9
  unfold fX4_lays at hf
  refine lv_aload_n hx hb dX4_lays_0 rfl (lv_at hl 0 rfl) ?_
  refine lv_iload_n hx hb dX4_lays_1 rfl (lv_at hl 1 rfl) ?_
  obtain ⟨r20, k20, hg, hf⟩ := bR_inv hf
  refine q_ci (rest := []) (ws' := (wX4_lays cI cJ cZ cS a_t a_party a_party_kinds a_party_costs a_party_terms a_party_known a_kept a_tape a_telephone a_sheets a_sheets0 a_sheets0_numbers a_sheets1 a_sheets1_numbers a_sheets2 a_sheets2_numbers a_sheets3 a_sheets3_numbers a_findings v_isKept v_party_size v_party_list v_party_told v_sheets0_bits v_sheets0_size v_sheets0_numbers v_sheets1_bits v_sheets1_size v_sheets1_numbers v_sheets2_bits v_sheets2_size v_sheets2_numbers v_sheets3_bits v_sheets3_size v_sheets3_numbers v_findings)) (w1 := (wX4_sheetLack cI cJ cZ cS a_t a_party a_kept a_tape a_telephone a_sheets a_sheets0 a_sheets0_numbers a_sheets1 a_sheets1_numbers a_sheets2 a_sheets2_numbers a_sheets3 a_sheets3_numbers a_findings v_isKept v_sheets0_bits v_sheets0_size v_sheets1_bits v_sheets1_size v_sheets2_bits v_sheets2_size v_sheets3_bits v_sheets3_size)) fx h [0, 2, 3, 5, 7, 9] rfl rfl rfl rfl (q_runV fx h hl.1 [0, 2, 3, 5, 7, 9] rfl rfl (tX4_sheetLack l D cI cJ cZ cS tb a_t a_party a_kept a_tape a_telephone a_sheets a_sheets0 a_sheets0_numbers a_sheets1 a_sheets1_numbers a_sheets2 a_sheets2_numbers a_sheets3 a_sheets3_numbers a_findings H.size v_isKept v_sheets0_bits v_sheets0_size v_sheets1_bits v_sheets1_size v_sheets2_bits v_sheets2_size v_sheets3_bits v_sheets3_size x1 r20 k20 hg) mvX4_sheetLack k_549 ⟨rfl, rfl⟩ ⟨Nat.le_of_ble_eq_true rfl, Nat.le_of_ble_eq_true rfl⟩ rfl rfl rfl rfl (Nat.le_of_ble_eq_true rfl) dX4_lays_2 ⟨Nat.le_of_ble_eq_true rfl, Nat.le_of_ble_eq_true rfl⟩) (fun H locs h => ?_)
  refine lv_istore_n (lv' := [(2, .int r20), (0, .ref a_t), (1, .int x1)]) hx hb dX4_lays_5 rfl hl (by decide) rfl (fun ls hl => ?_)
  refine lv_iload_n hx hb dX4_lays_6 rfl (lv_at hl 0 rfl) ?_
  refine lv_if_eq (tgt := 16) hx hb dX4_lays_7 (by decide) (fun c21 => ?_) (fun c21 => ?_)
  · have hf := it_t c21 hf
    refine lv_iconst (v := 0) hx hb dX4_lays_16 (by decide) ?_
    refine lv_istore_n (lv' := [(3, .int 0), (2, .int r20), (0, .ref a_t), (1, .int x1)]) hx hb dX4_lays_17 rfl hl (by decide) rfl (fun ls hl => ?_)
    refine lv_iconst (v := 0) hx hb dX4_lays_18 (by decide) ?_
    refine lv_istore (lv' := [(4, .int 0), (3, .int 0), (2, .int r20), (0, .ref a_t), (1, .int x1)]) hx hb dX4_lays_19 hl (by decide) rfl (fun ls hl => ?_)
    exact EX4_lays_21 fx qF h (lv_sub hl [3, 4, 1, 0] rfl) hf
  have hf := it_f c21 hf
  refine lv_aload_n hx hb dX4_lays_10 rfl (lv_at hl 1 rfl) ?_
  refine lv_iload_n hx hb dX4_lays_11 rfl (lv_at hl 0 rfl) ?_
  obtain ⟨r22, k22, hg, hf⟩ := bR_inv hf
  refine q_ci (rest := []) (ws' := (wX4_lays cI cJ cZ cS a_t a_party a_party_kinds a_party_costs a_party_terms a_party_known a_kept a_tape a_telephone a_sheets a_sheets0 a_sheets0_numbers a_sheets1 a_sheets1_numbers a_sheets2 a_sheets2_numbers a_sheets3 a_sheets3_numbers a_findings v_isKept v_party_size v_party_list v_party_told v_sheets0_bits v_sheets0_size v_sheets0_numbers v_sheets1_bits v_sheets1_size v_sheets1_numbers v_sheets2_bits v_sheets2_size v_sheets2_numbers v_sheets3_bits v_sheets3_size v_sheets3_numbers k22)) (w1 := (wX4_found cI cJ cZ cS a_t a_party a_kept a_tape a_telephone a_sheets a_findings v_isKept k22)) fx h [0, 11] rfl rfl rfl rfl (q_runV fx h hl.1 [0, 11] rfl rfl (tX4_found l D cI cJ cZ cS tb a_t a_party a_kept a_tape a_telephone a_sheets a_findings H.size v_isKept v_findings r20 r22 k22 hg) mvX4_found k_207 ⟨rfl, rfl⟩ ⟨Nat.le_of_ble_eq_true rfl, Nat.le_of_ble_eq_true rfl⟩ rfl rfl rfl rfl (Nat.le_of_ble_eq_true rfl) dX4_lays_12 ⟨Nat.le_of_ble_eq_true rfl, Nat.le_of_ble_eq_true rfl⟩) (fun H locs h => ?_)
  exact q_reti (fun k : Int32 × (Nat → Int32) => (wX4_lays cI cJ cZ cS a_t a_party a_party_kinds a_party_costs a_party_terms a_party_known a_kept a_tape a_telephone a_sheets a_sheets0 a_sheets0_numbers a_sheets1 a_sheets1_numbers a_sheets2 a_sheets2_numbers a_sheets3 a_sheets3_numbers a_findings v_isKept v_party_size k.1 v_party_told v_sheets0_bits v_sheets0_size v_sheets0_numbers v_sheets1_bits v_sheets1_size v_sheets1_numbers v_sheets2_bits v_sheets2_size v_sheets2_numbers v_sheets3_bits v_sheets3_size v_sheets3_numbers k.2)) fx hf h dX4_lays_15
/-! X4_book -/
abbrev wX4_book (cI cJ cZ cS : ClassId) (a_t a_party a_party_kinds a_party_costs a_party_terms a_party_known a_kept a_tape a_telephone a_sheets a_sheets0 a_sheets0_numbers a_sheets1 a_sheets1_numbers a_sheets2 a_sheets2_numbers a_sheets3 a_sheets3_numbers a_findings : Nat) (v_isKept : Int32) (v_party_size : Int32) (v_party_list : Int32) (v_party_told : Int32) (v_party_kinds : Nat → Int32) (v_party_terms : Nat → Int64) (v_party_known : Nat → Int32) (v_sheets0_bits : Int32) (v_sheets0_size : Int32) (v_sheets0_numbers : Nat → Int64) (v_sheets1_bits : Int32) (v_sheets1_size : Int32) (v_sheets1_numbers : Nat → Int64) (v_sheets2_bits : Int32) (v_sheets2_size : Int32) (v_sheets2_numbers : Nat → Int64) (v_sheets3_bits : Int32) (v_sheets3_size : Int32) (v_sheets3_numbers : Nat → Int64) (v_findings : Nat → Int32) : va_W := [(a_t, .inr (4, [.ref a_party, .ref a_kept, .int v_isKept, .ref a_tape, .ref a_telephone, .ref a_sheets, .ref a_findings])), (a_party, .inr (0, [.int v_party_size, .int v_party_list, .int v_party_told, .ref a_party_kinds, .ref a_party_costs, .ref a_party_terms, .ref a_party_known])), (a_party_kinds, .inl (cI, 8, .inl v_party_kinds)), (a_party_terms, .inl (cJ, 32, .inr (.inl v_party_terms))), (a_party_known, .inl (cI, 256, .inl v_party_known)), (a_sheets, .inl (cS, 4, .inr (.inr (.inr (.inr (q_sh a_sheets0 a_sheets1 a_sheets2 a_sheets3)))))), (a_sheets0, .inr (1, [.int v_sheets0_bits, .int v_sheets0_size, .ref a_sheets0_numbers])), (a_sheets0_numbers, .inl (cJ, 40, .inr (.inl v_sheets0_numbers))), (a_sheets1, .inr (1, [.int v_sheets1_bits, .int v_sheets1_size, .ref a_sheets1_numbers])), (a_sheets1_numbers, .inl (cJ, 40, .inr (.inl v_sheets1_numbers))), (a_sheets2, .inr (1, [.int v_sheets2_bits, .int v_sheets2_size, .ref a_sheets2_numbers])), (a_sheets2_numbers, .inl (cJ, 40, .inr (.inl v_sheets2_numbers))), (a_sheets3, .inr (1, [.int v_sheets3_bits, .int v_sheets3_size, .ref a_sheets3_numbers])), (a_sheets3_numbers, .inl (cJ, 40, .inr (.inl v_sheets3_numbers))), (a_findings, .inl (cI, 7, .inl v_findings))]
abbrev rX4_book : Room := { frames := 4, cells := 0, slots := 0, locals := 90 }
def fX4_book_27 (v_party_size : Int32) (v_party_list : Int32) (v_party_kinds : Nat → Int32) (v_party_terms : Nat → Int64) (v_sheets0_bits : Int32) (v_sheets0_size : Int32) (v_sheets1_bits : Int32) (v_sheets1_size : Int32) (v_sheets2_bits : Int32) (v_sheets2_size : Int32) (v_sheets3_bits : Int32) (v_sheets3_size : Int32) (ag27 : (Nat → Int32) → (Nat → Int64) → (Nat → Int64) → (Nat → Int64) → (Nat → Int64) → (Nat → Int32) → Int32 → Int32 → Int32 → Option (Int32 × (Nat → Int32) × (Nat → Int64) × (Nat → Int64) × (Nat → Int64) × (Nat → Int64) × (Nat → Int32))) (v_party_known : Nat → Int32) (v_sheets0_numbers : Nat → Int64) (v_sheets1_numbers : Nat → Int64) (v_sheets2_numbers : Nat → Int64) (v_sheets3_numbers : Nat → Int64) (v_findings : Nat → Int32) (y1 : Int32) (y3 : Int32) (y4 : Int32) : Option (Int32 × (Nat → Int32) × (Nat → Int64) × (Nat → Int64) × (Nat → Int64) × (Nat → Int64) × (Nat → Int32)) :=
  sel4 y1 (
  (if v_sheets0_size ≤ y4 then (
  some (v_sheets0_size, (v_party_known, v_sheets0_numbers, v_sheets1_numbers, v_sheets2_numbers, v_sheets3_numbers, v_findings)))
  else (
  bR (fX1_put v_sheets0_bits v_sheets0_numbers y4 (y3.toInt64)) (fun r3 k3 =>
  bR (fX0_comers v_party_size v_party_kinds v_party_terms v_party_known y3) (fun r4 k4 =>
  nm (y4 + 1) (fun u5 =>
  ag27 k4 k3 v_sheets1_numbers v_sheets2_numbers v_sheets3_numbers v_findings y1 r4 u5))))))
  ((if v_sheets1_size ≤ y4 then (
  some (v_sheets1_size, (v_party_known, v_sheets0_numbers, v_sheets1_numbers, v_sheets2_numbers, v_sheets3_numbers, v_findings)))
  else (
  bR (fX1_put v_sheets1_bits v_sheets1_numbers y4 (y3.toInt64)) (fun r7 k7 =>
  bR (fX0_comers v_party_size v_party_kinds v_party_terms v_party_known y3) (fun r8 k8 =>
  nm (y4 + 1) (fun u9 =>
  ag27 k8 v_sheets0_numbers k7 v_sheets2_numbers v_sheets3_numbers v_findings y1 r8 u9))))))
  ((if v_sheets2_size ≤ y4 then (
  some (v_sheets2_size, (v_party_known, v_sheets0_numbers, v_sheets1_numbers, v_sheets2_numbers, v_sheets3_numbers, v_findings)))
  else (
  bR (fX1_put v_sheets2_bits v_sheets2_numbers y4 (y3.toInt64)) (fun r11 k11 =>
  bR (fX0_comers v_party_size v_party_kinds v_party_terms v_party_known y3) (fun r12 k12 =>
  nm (y4 + 1) (fun u13 =>
  ag27 k12 v_sheets0_numbers v_sheets1_numbers k11 v_sheets3_numbers v_findings y1 r12 u13))))))
  ((if v_sheets3_size ≤ y4 then (
  some (v_sheets3_size, (v_party_known, v_sheets0_numbers, v_sheets1_numbers, v_sheets2_numbers, v_sheets3_numbers, v_findings)))
  else (
  bR (fX1_put v_sheets3_bits v_sheets3_numbers y4 (y3.toInt64)) (fun r15 k15 =>
  bR (fX0_comers v_party_size v_party_kinds v_party_terms v_party_known y3) (fun r16 k16 =>
  nm (y4 + 1) (fun u17 =>
  ag27 k16 v_sheets0_numbers v_sheets1_numbers v_sheets2_numbers k15 v_findings y1 r16 u17))))))
set_option maxRecDepth 100000 in
set_option maxHeartbeats 4000000 in
theorem LX4_book_27 {p : Program} {l : Launch} {e : Env} {s : State} {m : MethodId} {args : Array Value} {below : List Frame} {meth : Method} {c : Code} {D : va_G} {cI cJ cZ cS : ClassId} {tb : Nat} {A : Nat → Prop} {a_t a_party a_party_kinds a_party_costs a_party_terms a_party_known a_kept a_tape a_telephone a_sheets a_sheets0 a_sheets0_numbers a_sheets1 a_sheets1_numbers a_sheets2 a_sheets2_numbers a_sheets3 a_sheets3_numbers a_findings : Nat} {v_isKept : Int32} {v_party_size : Int32} {v_party_list : Int32} {v_party_told : Int32} {v_party_kinds : Nat → Int32} {v_party_terms : Nat → Int64} {v_sheets0_bits : Int32} {v_sheets0_size : Int32} {v_sheets1_bits : Int32} {v_sheets1_size : Int32} {v_sheets2_bits : Int32} {v_sheets2_size : Int32} {v_sheets3_bits : Int32} {v_sheets3_size : Int32} {rr : Int32} {kk' : (Nat → Int32) × (Nat → Int64) × (Nat → Int64) × (Nat → Int64) × (Nat → Int64) × (Nat → Int32)} (fx : q_Fx p s m args meth c cX4_book 5 RX4 (some .int) D cI cJ cZ cS tb A) {ag27 : (Nat → Int32) → (Nat → Int64) → (Nat → Int64) → (Nat → Int64) → (Nat → Int64) → (Nat → Int32) → Int32 → Int32 → Int32 → Option (Int32 × (Nat → Int32) × (Nat → Int64) × (Nat → Int64) × (Nat → Int64) × (Nat → Int64) × (Nat → Int32))} (hag27 : ∀ {v_party_known : Nat → Int32} {v_sheets0_numbers : Nat → Int64} {v_sheets1_numbers : Nat → Int64} {v_sheets2_numbers : Nat → Int64} {v_sheets3_numbers : Nat → Int64} {v_findings : Nat → Int32} {y1 : Int32} {y3 : Int32} {y4 : Int32} {H : Heap} {locs : List Loc} {ls : Array Slot}, q_H D A s (wX4_book cI cJ cZ cS a_t a_party a_party_kinds a_party_costs a_party_terms a_party_known a_kept a_tape a_telephone a_sheets a_sheets0 a_sheets0_numbers a_sheets1 a_sheets1_numbers a_sheets2 a_sheets2_numbers a_sheets3 a_sheets3_numbers a_findings v_isKept v_party_size v_party_list v_party_told v_party_kinds v_party_terms v_party_known v_sheets0_bits v_sheets0_size v_sheets0_numbers v_sheets1_bits v_sheets1_size v_sheets1_numbers v_sheets2_bits v_sheets2_size v_sheets2_numbers v_sheets3_bits v_sheets3_size v_sheets3_numbers v_findings) H locs → lv_has ls 5 [(0, .ref a_t), (1, .int y1), (3, .int y3), (4, .int y4)] → ag27 v_party_known v_sheets0_numbers v_sheets1_numbers v_sheets2_numbers v_sheets3_numbers v_findings y1 y3 y4 = some (rr, kk') → W p l e rX4_book s m args below meth c H locs 0 0 (MQ below (q_Ri D rr A ((fun k : (Nat → Int32) × (Nat → Int64) × (Nat → Int64) × (Nat → Int64) × (Nat → Int64) × (Nat → Int32) => (wX4_book cI cJ cZ cS a_t a_party a_party_kinds a_party_costs a_party_terms a_party_known a_kept a_tape a_telephone a_sheets a_sheets0 a_sheets0_numbers a_sheets1 a_sheets1_numbers a_sheets2 a_sheets2_numbers a_sheets3 a_sheets3_numbers a_findings v_isKept v_party_size v_party_list v_party_told v_party_kinds v_party_terms k.1 v_sheets0_bits v_sheets0_size k.2.1 v_sheets1_bits v_sheets1_size k.2.2.1 v_sheets2_bits v_sheets2_size k.2.2.2.1 v_sheets3_bits v_sheets3_size k.2.2.2.2.1 k.2.2.2.2.2)) kk')) args s 0 0 A) (F0 m 27 ls [])) : ∀ {v_party_known : Nat → Int32} {v_sheets0_numbers : Nat → Int64} {v_sheets1_numbers : Nat → Int64} {v_sheets2_numbers : Nat → Int64} {v_sheets3_numbers : Nat → Int64} {v_findings : Nat → Int32} {y1 : Int32} {y3 : Int32} {y4 : Int32} {H : Heap} {locs : List Loc} {ls : Array Slot}, q_H D A s (wX4_book cI cJ cZ cS a_t a_party a_party_kinds a_party_costs a_party_terms a_party_known a_kept a_tape a_telephone a_sheets a_sheets0 a_sheets0_numbers a_sheets1 a_sheets1_numbers a_sheets2 a_sheets2_numbers a_sheets3 a_sheets3_numbers a_findings v_isKept v_party_size v_party_list v_party_told v_party_kinds v_party_terms v_party_known v_sheets0_bits v_sheets0_size v_sheets0_numbers v_sheets1_bits v_sheets1_size v_sheets1_numbers v_sheets2_bits v_sheets2_size v_sheets2_numbers v_sheets3_bits v_sheets3_size v_sheets3_numbers v_findings) H locs → lv_has ls 5 [(0, .ref a_t), (1, .int y1), (3, .int y3), (4, .int y4)] → fX4_book_27 v_party_size v_party_list v_party_kinds v_party_terms v_sheets0_bits v_sheets0_size v_sheets1_bits v_sheets1_size v_sheets2_bits v_sheets2_size v_sheets3_bits v_sheets3_size ag27 v_party_known v_sheets0_numbers v_sheets1_numbers v_sheets2_numbers v_sheets3_numbers v_findings y1 y3 y4 = some (rr, kk') → W p l e rX4_book s m args below meth c H locs 0 0 (MQ below (q_Ri D rr A ((fun k : (Nat → Int32) × (Nat → Int64) × (Nat → Int64) × (Nat → Int64) × (Nat → Int64) × (Nat → Int32) => (wX4_book cI cJ cZ cS a_t a_party a_party_kinds a_party_costs a_party_terms a_party_known a_kept a_tape a_telephone a_sheets a_sheets0 a_sheets0_numbers a_sheets1 a_sheets1_numbers a_sheets2 a_sheets2_numbers a_sheets3 a_sheets3_numbers a_findings v_isKept v_party_size v_party_list v_party_told v_party_kinds v_party_terms k.1 v_sheets0_bits v_sheets0_size k.2.1 v_sheets1_bits v_sheets1_size k.2.2.1 v_sheets2_bits v_sheets2_size k.2.2.2.1 v_sheets3_bits v_sheets3_size k.2.2.2.2.1 k.2.2.2.2.2)) kk')) args s 0 0 A) (F0 m 27 ls []) := by
  intro v_party_known v_sheets0_numbers v_sheets1_numbers v_sheets2_numbers v_sheets3_numbers v_findings y1 y3 y4 H locs ls h hl hf
  have hx := fx.1
  have hb := fx.2.1
  unfold fX4_book_27 at hf
  refine lv_iload hx hb dX4_book_27 (lv_at hl 3 rfl) ?_
  refine lv_aload_n hx hb dX4_book_29 rfl (lv_at hl 0 rfl) ?_
  refine q_get (v := .ref a_sheets) fx inX4 h 0 rfl rfl 5 (by decide) k_179 rfl dX4_book_30 ?_
  refine lv_iload_n hx hb dX4_book_33 rfl (lv_at hl 1 rfl) ?_
  rcases sel4_inv hf with ⟨c1, hf⟩ | ⟨c1, hf⟩ | ⟨c1, hf⟩ | ⟨c1, hf⟩
  · refine q_aald (v := a_sheets0) fx h 5 rfl c1 (vinK (by decide)) rfl dX4_book_34 ?_
    refine q_getN (v := .int v_sheets0_size) fx inX1 h 6 rfl rfl 1 (by decide) nf_10 rfl dX4_book_35 ?_
    refine lv_icmp_ge (tgt := 70) hx hb dX4_book_38 (by decide) (fun c2 => ?_) (fun c2 => ?_)
    · have hf := it_t c2 hf
      refine lv_aload_n hx hb dX4_book_70 rfl (lv_at hl 0 rfl) ?_
      refine q_get (v := .ref a_sheets) fx inX4 h 0 rfl rfl 5 (by decide) k_179 rfl dX4_book_71 ?_
      refine lv_iload_n hx hb dX4_book_74 rfl (lv_at hl 1 rfl) ?_
      refine q_aald (v := a_sheets0) fx h 5 rfl c1 (vinK (by decide)) rfl dX4_book_75 ?_
      refine q_getN (v := .int v_sheets0_size) fx inX1 h 6 rfl rfl 1 (by decide) nf_10 rfl dX4_book_76 ?_
      exact q_reti (fun k : (Nat → Int32) × (Nat → Int64) × (Nat → Int64) × (Nat → Int64) × (Nat → Int64) × (Nat → Int32) => (wX4_book cI cJ cZ cS a_t a_party a_party_kinds a_party_costs a_party_terms a_party_known a_kept a_tape a_telephone a_sheets a_sheets0 a_sheets0_numbers a_sheets1 a_sheets1_numbers a_sheets2 a_sheets2_numbers a_sheets3 a_sheets3_numbers a_findings v_isKept v_party_size v_party_list v_party_told v_party_kinds v_party_terms k.1 v_sheets0_bits v_sheets0_size k.2.1 v_sheets1_bits v_sheets1_size k.2.2.1 v_sheets2_bits v_sheets2_size k.2.2.2.1 v_sheets3_bits v_sheets3_size k.2.2.2.2.1 k.2.2.2.2.2)) fx hf h dX4_book_79
    have hf := it_f c2 hf
    refine lv_aload_n hx hb dX4_book_41 rfl (lv_at hl 0 rfl) ?_
    refine q_get (v := .ref a_sheets) fx inX4 h 0 rfl rfl 5 (by decide) k_179 rfl dX4_book_42 ?_
    refine lv_iload_n hx hb dX4_book_45 rfl (lv_at hl 1 rfl) ?_
    refine q_aald (v := a_sheets0) fx h 5 rfl c1 (vinK (by decide)) rfl dX4_book_46 ?_
    refine lv_iload hx hb dX4_book_47 (lv_at hl 3 rfl) ?_
    refine lv_iload_n hx hb dX4_book_49 rfl (lv_at hl 2 rfl) ?_
    refine lv_i2l hx hb dX4_book_50 rfl ?_
    obtain ⟨r3, k3, hg, hf⟩ := bR_inv hf
    refine q_cl (rest := []) (ws' := (wX4_book cI cJ cZ cS a_t a_party a_party_kinds a_party_costs a_party_terms a_party_known a_kept a_tape a_telephone a_sheets a_sheets0 a_sheets0_numbers a_sheets1 a_sheets1_numbers a_sheets2 a_sheets2_numbers a_sheets3 a_sheets3_numbers a_findings v_isKept v_party_size v_party_list v_party_told v_party_kinds v_party_terms v_party_known v_sheets0_bits v_sheets0_size k3 v_sheets1_bits v_sheets1_size v_sheets1_numbers v_sheets2_bits v_sheets2_size v_sheets2_numbers v_sheets3_bits v_sheets3_size v_sheets3_numbers v_findings)) (w1 := (wX1_put cI cJ cZ cS a_sheets0 a_sheets0_numbers v_sheets0_bits v_sheets0_size k3)) fx h [6, 7] rfl rfl rfl rfl (q_runV fx h hl.1 [6, 7] rfl rfl (tX1_put l D cI cJ cZ cS tb a_sheets0 a_sheets0_numbers H.size v_sheets0_bits v_sheets0_size v_sheets0_numbers y4 (y3.toInt64) r3 k3 hg) mvX1_put k_558 ⟨rfl, rfl⟩ ⟨Nat.le_of_ble_eq_true rfl, Nat.le_of_ble_eq_true rfl⟩ rfl rfl rfl rfl (Nat.le_of_ble_eq_true rfl) dX4_book_51 ⟨Nat.le_of_ble_eq_true rfl, Nat.le_of_ble_eq_true rfl⟩) (fun H locs h => ?_)
    refine lv_pop2_2 hx hb dX4_book_54 rfl ?_
    refine lv_aload_n hx hb dX4_book_55 rfl (lv_at hl 0 rfl) ?_
    refine q_get (v := .ref a_party) fx inX4 h 0 rfl rfl 0 (by decide) k_174 rfl dX4_book_56 ?_
    refine lv_iload_n hx hb dX4_book_59 rfl (lv_at hl 2 rfl) ?_
    obtain ⟨r4, k4, hg, hf⟩ := bR_inv hf
    refine q_ci (rest := []) (ws' := (wX4_book cI cJ cZ cS a_t a_party a_party_kinds a_party_costs a_party_terms a_party_known a_kept a_tape a_telephone a_sheets a_sheets0 a_sheets0_numbers a_sheets1 a_sheets1_numbers a_sheets2 a_sheets2_numbers a_sheets3 a_sheets3_numbers a_findings v_isKept v_party_size v_party_list v_party_told v_party_kinds v_party_terms k4 v_sheets0_bits v_sheets0_size k3 v_sheets1_bits v_sheets1_size v_sheets1_numbers v_sheets2_bits v_sheets2_size v_sheets2_numbers v_sheets3_bits v_sheets3_size v_sheets3_numbers v_findings)) (w1 := (wX0_comers cI cJ cZ cS a_party a_party_kinds a_party_costs a_party_terms a_party_known v_party_size v_party_list v_party_told v_party_kinds v_party_terms k4)) fx h [1, 2, 3, 4] rfl rfl rfl rfl (q_runV fx h hl.1 [1, 2, 3, 4] rfl rfl (tX0_comers l D cI cJ cZ cS tb a_party a_party_kinds a_party_costs a_party_terms a_party_known H.size v_party_size v_party_list v_party_told v_party_kinds v_party_terms v_party_known y3 r4 k4 hg) mvX0_comers k_224 ⟨rfl, rfl⟩ ⟨Nat.le_of_ble_eq_true rfl, Nat.le_of_ble_eq_true rfl⟩ rfl rfl rfl rfl (Nat.le_of_ble_eq_true rfl) dX4_book_60 ⟨Nat.le_of_ble_eq_true rfl, Nat.le_of_ble_eq_true rfl⟩) (fun H locs h => ?_)
    refine lv_istore_n (lv' := [(3, .int r4), (0, .ref a_t), (1, .int y1), (4, .int y4)]) hx hb dX4_book_63 rfl hl (by decide) rfl (fun ls hl => ?_)
    obtain ⟨u5, eu5, hf⟩ := nm_inv hf
    refine lv_iinc (v := u5) (lv' := [(4, .int u5), (3, .int r4), (0, .ref a_t), (1, .int y1)]) hx hb dX4_book_64 hl (k := 3) rfl (by rw [eu5]; rfl) (by decide) rfl (fun ls hl => ?_)
    refine lv_goto (tgt := 27) hx hb dX4_book_67 (by decide) ?_
    exact hag27 h (lv_sub hl [2, 3, 1, 0] rfl) hf
  · refine q_aald (v := a_sheets1) fx h 5 rfl c1 (vinK (by decide)) rfl dX4_book_34 ?_
    refine q_getN (v := .int v_sheets1_size) fx inX1 h 8 rfl rfl 1 (by decide) nf_10 rfl dX4_book_35 ?_
    refine lv_icmp_ge (tgt := 70) hx hb dX4_book_38 (by decide) (fun c6 => ?_) (fun c6 => ?_)
    · have hf := it_t c6 hf
      refine lv_aload_n hx hb dX4_book_70 rfl (lv_at hl 0 rfl) ?_
      refine q_get (v := .ref a_sheets) fx inX4 h 0 rfl rfl 5 (by decide) k_179 rfl dX4_book_71 ?_
      refine lv_iload_n hx hb dX4_book_74 rfl (lv_at hl 1 rfl) ?_
      refine q_aald (v := a_sheets1) fx h 5 rfl c1 (vinK (by decide)) rfl dX4_book_75 ?_
      refine q_getN (v := .int v_sheets1_size) fx inX1 h 8 rfl rfl 1 (by decide) nf_10 rfl dX4_book_76 ?_
      exact q_reti (fun k : (Nat → Int32) × (Nat → Int64) × (Nat → Int64) × (Nat → Int64) × (Nat → Int64) × (Nat → Int32) => (wX4_book cI cJ cZ cS a_t a_party a_party_kinds a_party_costs a_party_terms a_party_known a_kept a_tape a_telephone a_sheets a_sheets0 a_sheets0_numbers a_sheets1 a_sheets1_numbers a_sheets2 a_sheets2_numbers a_sheets3 a_sheets3_numbers a_findings v_isKept v_party_size v_party_list v_party_told v_party_kinds v_party_terms k.1 v_sheets0_bits v_sheets0_size k.2.1 v_sheets1_bits v_sheets1_size k.2.2.1 v_sheets2_bits v_sheets2_size k.2.2.2.1 v_sheets3_bits v_sheets3_size k.2.2.2.2.1 k.2.2.2.2.2)) fx hf h dX4_book_79
    have hf := it_f c6 hf
    refine lv_aload_n hx hb dX4_book_41 rfl (lv_at hl 0 rfl) ?_
    refine q_get (v := .ref a_sheets) fx inX4 h 0 rfl rfl 5 (by decide) k_179 rfl dX4_book_42 ?_
    refine lv_iload_n hx hb dX4_book_45 rfl (lv_at hl 1 rfl) ?_
    refine q_aald (v := a_sheets1) fx h 5 rfl c1 (vinK (by decide)) rfl dX4_book_46 ?_
    refine lv_iload hx hb dX4_book_47 (lv_at hl 3 rfl) ?_
    refine lv_iload_n hx hb dX4_book_49 rfl (lv_at hl 2 rfl) ?_
    refine lv_i2l hx hb dX4_book_50 rfl ?_
    obtain ⟨r7, k7, hg, hf⟩ := bR_inv hf
    refine q_cl (rest := []) (ws' := (wX4_book cI cJ cZ cS a_t a_party a_party_kinds a_party_costs a_party_terms a_party_known a_kept a_tape a_telephone a_sheets a_sheets0 a_sheets0_numbers a_sheets1 a_sheets1_numbers a_sheets2 a_sheets2_numbers a_sheets3 a_sheets3_numbers a_findings v_isKept v_party_size v_party_list v_party_told v_party_kinds v_party_terms v_party_known v_sheets0_bits v_sheets0_size v_sheets0_numbers v_sheets1_bits v_sheets1_size k7 v_sheets2_bits v_sheets2_size v_sheets2_numbers v_sheets3_bits v_sheets3_size v_sheets3_numbers v_findings)) (w1 := (wX1_put cI cJ cZ cS a_sheets1 a_sheets1_numbers v_sheets1_bits v_sheets1_size k7)) fx h [8, 9] rfl rfl rfl rfl (q_runV fx h hl.1 [8, 9] rfl rfl (tX1_put l D cI cJ cZ cS tb a_sheets1 a_sheets1_numbers H.size v_sheets1_bits v_sheets1_size v_sheets1_numbers y4 (y3.toInt64) r7 k7 hg) mvX1_put k_558 ⟨rfl, rfl⟩ ⟨Nat.le_of_ble_eq_true rfl, Nat.le_of_ble_eq_true rfl⟩ rfl rfl rfl rfl (Nat.le_of_ble_eq_true rfl) dX4_book_51 ⟨Nat.le_of_ble_eq_true rfl, Nat.le_of_ble_eq_true rfl⟩) (fun H locs h => ?_)
    refine lv_pop2_2 hx hb dX4_book_54 rfl ?_
    refine lv_aload_n hx hb dX4_book_55 rfl (lv_at hl 0 rfl) ?_
    refine q_get (v := .ref a_party) fx inX4 h 0 rfl rfl 0 (by decide) k_174 rfl dX4_book_56 ?_
    refine lv_iload_n hx hb dX4_book_59 rfl (lv_at hl 2 rfl) ?_
    obtain ⟨r8, k8, hg, hf⟩ := bR_inv hf
    refine q_ci (rest := []) (ws' := (wX4_book cI cJ cZ cS a_t a_party a_party_kinds a_party_costs a_party_terms a_party_known a_kept a_tape a_telephone a_sheets a_sheets0 a_sheets0_numbers a_sheets1 a_sheets1_numbers a_sheets2 a_sheets2_numbers a_sheets3 a_sheets3_numbers a_findings v_isKept v_party_size v_party_list v_party_told v_party_kinds v_party_terms k8 v_sheets0_bits v_sheets0_size v_sheets0_numbers v_sheets1_bits v_sheets1_size k7 v_sheets2_bits v_sheets2_size v_sheets2_numbers v_sheets3_bits v_sheets3_size v_sheets3_numbers v_findings)) (w1 := (wX0_comers cI cJ cZ cS a_party a_party_kinds a_party_costs a_party_terms a_party_known v_party_size v_party_list v_party_told v_party_kinds v_party_terms k8)) fx h [1, 2, 3, 4] rfl rfl rfl rfl (q_runV fx h hl.1 [1, 2, 3, 4] rfl rfl (tX0_comers l D cI cJ cZ cS tb a_party a_party_kinds a_party_costs a_party_terms a_party_known H.size v_party_size v_party_list v_party_told v_party_kinds v_party_terms v_party_known y3 r8 k8 hg) mvX0_comers k_224 ⟨rfl, rfl⟩ ⟨Nat.le_of_ble_eq_true rfl, Nat.le_of_ble_eq_true rfl⟩ rfl rfl rfl rfl (Nat.le_of_ble_eq_true rfl) dX4_book_60 ⟨Nat.le_of_ble_eq_true rfl, Nat.le_of_ble_eq_true rfl⟩) (fun H locs h => ?_)
    refine lv_istore_n (lv' := [(3, .int r8), (0, .ref a_t), (1, .int y1), (4, .int y4)]) hx hb dX4_book_63 rfl hl (by decide) rfl (fun ls hl => ?_)
    obtain ⟨u9, eu9, hf⟩ := nm_inv hf
    refine lv_iinc (v := u9) (lv' := [(4, .int u9), (3, .int r8), (0, .ref a_t), (1, .int y1)]) hx hb dX4_book_64 hl (k := 3) rfl (by rw [eu9]; rfl) (by decide) rfl (fun ls hl => ?_)
    refine lv_goto (tgt := 27) hx hb dX4_book_67 (by decide) ?_
    exact hag27 h (lv_sub hl [2, 3, 1, 0] rfl) hf
  · refine q_aald (v := a_sheets2) fx h 5 rfl c1 (vinK (by decide)) rfl dX4_book_34 ?_
    refine q_getN (v := .int v_sheets2_size) fx inX1 h 10 rfl rfl 1 (by decide) nf_10 rfl dX4_book_35 ?_
    refine lv_icmp_ge (tgt := 70) hx hb dX4_book_38 (by decide) (fun c10 => ?_) (fun c10 => ?_)
    · have hf := it_t c10 hf
      refine lv_aload_n hx hb dX4_book_70 rfl (lv_at hl 0 rfl) ?_
      refine q_get (v := .ref a_sheets) fx inX4 h 0 rfl rfl 5 (by decide) k_179 rfl dX4_book_71 ?_
      refine lv_iload_n hx hb dX4_book_74 rfl (lv_at hl 1 rfl) ?_
      refine q_aald (v := a_sheets2) fx h 5 rfl c1 (vinK (by decide)) rfl dX4_book_75 ?_
      refine q_getN (v := .int v_sheets2_size) fx inX1 h 10 rfl rfl 1 (by decide) nf_10 rfl dX4_book_76 ?_
      exact q_reti (fun k : (Nat → Int32) × (Nat → Int64) × (Nat → Int64) × (Nat → Int64) × (Nat → Int64) × (Nat → Int32) => (wX4_book cI cJ cZ cS a_t a_party a_party_kinds a_party_costs a_party_terms a_party_known a_kept a_tape a_telephone a_sheets a_sheets0 a_sheets0_numbers a_sheets1 a_sheets1_numbers a_sheets2 a_sheets2_numbers a_sheets3 a_sheets3_numbers a_findings v_isKept v_party_size v_party_list v_party_told v_party_kinds v_party_terms k.1 v_sheets0_bits v_sheets0_size k.2.1 v_sheets1_bits v_sheets1_size k.2.2.1 v_sheets2_bits v_sheets2_size k.2.2.2.1 v_sheets3_bits v_sheets3_size k.2.2.2.2.1 k.2.2.2.2.2)) fx hf h dX4_book_79
    have hf := it_f c10 hf
    refine lv_aload_n hx hb dX4_book_41 rfl (lv_at hl 0 rfl) ?_
    refine q_get (v := .ref a_sheets) fx inX4 h 0 rfl rfl 5 (by decide) k_179 rfl dX4_book_42 ?_
    refine lv_iload_n hx hb dX4_book_45 rfl (lv_at hl 1 rfl) ?_
    refine q_aald (v := a_sheets2) fx h 5 rfl c1 (vinK (by decide)) rfl dX4_book_46 ?_
    refine lv_iload hx hb dX4_book_47 (lv_at hl 3 rfl) ?_
    refine lv_iload_n hx hb dX4_book_49 rfl (lv_at hl 2 rfl) ?_
    refine lv_i2l hx hb dX4_book_50 rfl ?_
    obtain ⟨r11, k11, hg, hf⟩ := bR_inv hf
    refine q_cl (rest := []) (ws' := (wX4_book cI cJ cZ cS a_t a_party a_party_kinds a_party_costs a_party_terms a_party_known a_kept a_tape a_telephone a_sheets a_sheets0 a_sheets0_numbers a_sheets1 a_sheets1_numbers a_sheets2 a_sheets2_numbers a_sheets3 a_sheets3_numbers a_findings v_isKept v_party_size v_party_list v_party_told v_party_kinds v_party_terms v_party_known v_sheets0_bits v_sheets0_size v_sheets0_numbers v_sheets1_bits v_sheets1_size v_sheets1_numbers v_sheets2_bits v_sheets2_size k11 v_sheets3_bits v_sheets3_size v_sheets3_numbers v_findings)) (w1 := (wX1_put cI cJ cZ cS a_sheets2 a_sheets2_numbers v_sheets2_bits v_sheets2_size k11)) fx h [10, 11] rfl rfl rfl rfl (q_runV fx h hl.1 [10, 11] rfl rfl (tX1_put l D cI cJ cZ cS tb a_sheets2 a_sheets2_numbers H.size v_sheets2_bits v_sheets2_size v_sheets2_numbers y4 (y3.toInt64) r11 k11 hg) mvX1_put k_558 ⟨rfl, rfl⟩ ⟨Nat.le_of_ble_eq_true rfl, Nat.le_of_ble_eq_true rfl⟩ rfl rfl rfl rfl (Nat.le_of_ble_eq_true rfl) dX4_book_51 ⟨Nat.le_of_ble_eq_true rfl, Nat.le_of_ble_eq_true rfl⟩) (fun H locs h => ?_)
    refine lv_pop2_2 hx hb dX4_book_54 rfl ?_
    refine lv_aload_n hx hb dX4_book_55 rfl (lv_at hl 0 rfl) ?_
    refine q_get (v := .ref a_party) fx inX4 h 0 rfl rfl 0 (by decide) k_174 rfl dX4_book_56 ?_
    refine lv_iload_n hx hb dX4_book_59 rfl (lv_at hl 2 rfl) ?_
    obtain ⟨r12, k12, hg, hf⟩ := bR_inv hf
    refine q_ci (rest := []) (ws' := (wX4_book cI cJ cZ cS a_t a_party a_party_kinds a_party_costs a_party_terms a_party_known a_kept a_tape a_telephone a_sheets a_sheets0 a_sheets0_numbers a_sheets1 a_sheets1_numbers a_sheets2 a_sheets2_numbers a_sheets3 a_sheets3_numbers a_findings v_isKept v_party_size v_party_list v_party_told v_party_kinds v_party_terms k12 v_sheets0_bits v_sheets0_size v_sheets0_numbers v_sheets1_bits v_sheets1_size v_sheets1_numbers v_sheets2_bits v_sheets2_size k11 v_sheets3_bits v_sheets3_size v_sheets3_numbers v_findings)) (w1 := (wX0_comers cI cJ cZ cS a_party a_party_kinds a_party_costs a_party_terms a_party_known v_party_size v_party_list v_party_told v_party_kinds v_party_terms k12)) fx h [1, 2, 3, 4] rfl rfl rfl rfl (q_runV fx h hl.1 [1, 2, 3, 4] rfl rfl (tX0_comers l D cI cJ cZ cS tb a_party a_party_kinds a_party_costs a_party_terms a_party_known H.size v_party_size v_party_list v_party_told v_party_kinds v_party_terms v_party_known y3 r12 k12 hg) mvX0_comers k_224 ⟨rfl, rfl⟩ ⟨Nat.le_of_ble_eq_true rfl, Nat.le_of_ble_eq_true rfl⟩ rfl rfl rfl rfl (Nat.le_of_ble_eq_true rfl) dX4_book_60 ⟨Nat.le_of_ble_eq_true rfl, Nat.le_of_ble_eq_true rfl⟩) (fun H locs h => ?_)
    refine lv_istore_n (lv' := [(3, .int r12), (0, .ref a_t), (1, .int y1), (4, .int y4)]) hx hb dX4_book_63 rfl hl (by decide) rfl (fun ls hl => ?_)
    obtain ⟨u13, eu13, hf⟩ := nm_inv hf
    refine lv_iinc (v := u13) (lv' := [(4, .int u13), (3, .int r12), (0, .ref a_t), (1, .int y1)]) hx hb dX4_book_64 hl (k := 3) rfl (by rw [eu13]; rfl) (by decide) rfl (fun ls hl => ?_)
    refine lv_goto (tgt := 27) hx hb dX4_book_67 (by decide) ?_
    exact hag27 h (lv_sub hl [2, 3, 1, 0] rfl) hf
  · refine q_aald (v := a_sheets3) fx h 5 rfl c1 (vinK (by decide)) rfl dX4_book_34 ?_
    refine q_getN (v := .int v_sheets3_size) fx inX1 h 12 rfl rfl 1 (by decide) nf_10 rfl dX4_book_35 ?_
    refine lv_icmp_ge (tgt := 70) hx hb dX4_book_38 (by decide) (fun c14 => ?_) (fun c14 => ?_)
    · have hf := it_t c14 hf
      refine lv_aload_n hx hb dX4_book_70 rfl (lv_at hl 0 rfl) ?_
      refine q_get (v := .ref a_sheets) fx inX4 h 0 rfl rfl 5 (by decide) k_179 rfl dX4_book_71 ?_
      refine lv_iload_n hx hb dX4_book_74 rfl (lv_at hl 1 rfl) ?_
      refine q_aald (v := a_sheets3) fx h 5 rfl c1 (vinK (by decide)) rfl dX4_book_75 ?_
      refine q_getN (v := .int v_sheets3_size) fx inX1 h 12 rfl rfl 1 (by decide) nf_10 rfl dX4_book_76 ?_
      exact q_reti (fun k : (Nat → Int32) × (Nat → Int64) × (Nat → Int64) × (Nat → Int64) × (Nat → Int64) × (Nat → Int32) => (wX4_book cI cJ cZ cS a_t a_party a_party_kinds a_party_costs a_party_terms a_party_known a_kept a_tape a_telephone a_sheets a_sheets0 a_sheets0_numbers a_sheets1 a_sheets1_numbers a_sheets2 a_sheets2_numbers a_sheets3 a_sheets3_numbers a_findings v_isKept v_party_size v_party_list v_party_told v_party_kinds v_party_terms k.1 v_sheets0_bits v_sheets0_size k.2.1 v_sheets1_bits v_sheets1_size k.2.2.1 v_sheets2_bits v_sheets2_size k.2.2.2.1 v_sheets3_bits v_sheets3_size k.2.2.2.2.1 k.2.2.2.2.2)) fx hf h dX4_book_79
    have hf := it_f c14 hf
    refine lv_aload_n hx hb dX4_book_41 rfl (lv_at hl 0 rfl) ?_
    refine q_get (v := .ref a_sheets) fx inX4 h 0 rfl rfl 5 (by decide) k_179 rfl dX4_book_42 ?_
    refine lv_iload_n hx hb dX4_book_45 rfl (lv_at hl 1 rfl) ?_
    refine q_aald (v := a_sheets3) fx h 5 rfl c1 (vinK (by decide)) rfl dX4_book_46 ?_
    refine lv_iload hx hb dX4_book_47 (lv_at hl 3 rfl) ?_
    refine lv_iload_n hx hb dX4_book_49 rfl (lv_at hl 2 rfl) ?_
    refine lv_i2l hx hb dX4_book_50 rfl ?_
    obtain ⟨r15, k15, hg, hf⟩ := bR_inv hf
    refine q_cl (rest := []) (ws' := (wX4_book cI cJ cZ cS a_t a_party a_party_kinds a_party_costs a_party_terms a_party_known a_kept a_tape a_telephone a_sheets a_sheets0 a_sheets0_numbers a_sheets1 a_sheets1_numbers a_sheets2 a_sheets2_numbers a_sheets3 a_sheets3_numbers a_findings v_isKept v_party_size v_party_list v_party_told v_party_kinds v_party_terms v_party_known v_sheets0_bits v_sheets0_size v_sheets0_numbers v_sheets1_bits v_sheets1_size v_sheets1_numbers v_sheets2_bits v_sheets2_size v_sheets2_numbers v_sheets3_bits v_sheets3_size k15 v_findings)) (w1 := (wX1_put cI cJ cZ cS a_sheets3 a_sheets3_numbers v_sheets3_bits v_sheets3_size k15)) fx h [12, 13] rfl rfl rfl rfl (q_runV fx h hl.1 [12, 13] rfl rfl (tX1_put l D cI cJ cZ cS tb a_sheets3 a_sheets3_numbers H.size v_sheets3_bits v_sheets3_size v_sheets3_numbers y4 (y3.toInt64) r15 k15 hg) mvX1_put k_558 ⟨rfl, rfl⟩ ⟨Nat.le_of_ble_eq_true rfl, Nat.le_of_ble_eq_true rfl⟩ rfl rfl rfl rfl (Nat.le_of_ble_eq_true rfl) dX4_book_51 ⟨Nat.le_of_ble_eq_true rfl, Nat.le_of_ble_eq_true rfl⟩) (fun H locs h => ?_)
    refine lv_pop2_2 hx hb dX4_book_54 rfl ?_
    refine lv_aload_n hx hb dX4_book_55 rfl (lv_at hl 0 rfl) ?_
    refine q_get (v := .ref a_party) fx inX4 h 0 rfl rfl 0 (by decide) k_174 rfl dX4_book_56 ?_
    refine lv_iload_n hx hb dX4_book_59 rfl (lv_at hl 2 rfl) ?_
    obtain ⟨r16, k16, hg, hf⟩ := bR_inv hf
    refine q_ci (rest := []) (ws' := (wX4_book cI cJ cZ cS a_t a_party a_party_kinds a_party_costs a_party_terms a_party_known a_kept a_tape a_telephone a_sheets a_sheets0 a_sheets0_numbers a_sheets1 a_sheets1_numbers a_sheets2 a_sheets2_numbers a_sheets3 a_sheets3_numbers a_findings v_isKept v_party_size v_party_list v_party_told v_party_kinds v_party_terms k16 v_sheets0_bits v_sheets0_size v_sheets0_numbers v_sheets1_bits v_sheets1_size v_sheets1_numbers v_sheets2_bits v_sheets2_size v_sheets2_numbers v_sheets3_bits v_sheets3_size k15 v_findings)) (w1 := (wX0_comers cI cJ cZ cS a_party a_party_kinds a_party_costs a_party_terms a_party_known v_party_size v_party_list v_party_told v_party_kinds v_party_terms k16)) fx h [1, 2, 3, 4] rfl rfl rfl rfl (q_runV fx h hl.1 [1, 2, 3, 4] rfl rfl (tX0_comers l D cI cJ cZ cS tb a_party a_party_kinds a_party_costs a_party_terms a_party_known H.size v_party_size v_party_list v_party_told v_party_kinds v_party_terms v_party_known y3 r16 k16 hg) mvX0_comers k_224 ⟨rfl, rfl⟩ ⟨Nat.le_of_ble_eq_true rfl, Nat.le_of_ble_eq_true rfl⟩ rfl rfl rfl rfl (Nat.le_of_ble_eq_true rfl) dX4_book_60 ⟨Nat.le_of_ble_eq_true rfl, Nat.le_of_ble_eq_true rfl⟩) (fun H locs h => ?_)
    refine lv_istore_n (lv' := [(3, .int r16), (0, .ref a_t), (1, .int y1), (4, .int y4)]) hx hb dX4_book_63 rfl hl (by decide) rfl (fun ls hl => ?_)
    obtain ⟨u17, eu17, hf⟩ := nm_inv hf
    refine lv_iinc (v := u17) (lv' := [(4, .int u17), (3, .int r16), (0, .ref a_t), (1, .int y1)]) hx hb dX4_book_64 hl (k := 3) rfl (by rw [eu17]; rfl) (by decide) rfl (fun ls hl => ?_)
    refine lv_goto (tgt := 27) hx hb dX4_book_67 (by decide) ?_
    exact hag27 h (lv_sub hl [2, 3, 1, 0] rfl) hf
set_option maxRecDepth 100000 in
theorem EX4_book_27 {p : Program} {l : Launch} {e : Env} {s : State} {m : MethodId} {args : Array Value} {below : List Frame} {meth : Method} {c : Code} {D : va_G} {cI cJ cZ cS : ClassId} {tb : Nat} {A : Nat → Prop} {a_t a_party a_party_kinds a_party_costs a_party_terms a_party_known a_kept a_tape a_telephone a_sheets a_sheets0 a_sheets0_numbers a_sheets1 a_sheets1_numbers a_sheets2 a_sheets2_numbers a_sheets3 a_sheets3_numbers a_findings : Nat} {v_isKept : Int32} {v_party_size : Int32} {v_party_list : Int32} {v_party_told : Int32} {v_party_kinds : Nat → Int32} {v_party_terms : Nat → Int64} {v_sheets0_bits : Int32} {v_sheets0_size : Int32} {v_sheets1_bits : Int32} {v_sheets1_size : Int32} {v_sheets2_bits : Int32} {v_sheets2_size : Int32} {v_sheets3_bits : Int32} {v_sheets3_size : Int32} {rr : Int32} {kk' : (Nat → Int32) × (Nat → Int64) × (Nat → Int64) × (Nat → Int64) × (Nat → Int64) × (Nat → Int32)} (fx : q_Fx p s m args meth c cX4_book 5 RX4 (some .int) D cI cJ cZ cS tb A) : ∀ (n : Nat), ∀ {v_party_known : Nat → Int32} {v_sheets0_numbers : Nat → Int64} {v_sheets1_numbers : Nat → Int64} {v_sheets2_numbers : Nat → Int64} {v_sheets3_numbers : Nat → Int64} {v_findings : Nat → Int32} {y1 : Int32} {y3 : Int32} {y4 : Int32} {H : Heap} {locs : List Loc} {ls : Array Slot}, q_H D A s (wX4_book cI cJ cZ cS a_t a_party a_party_kinds a_party_costs a_party_terms a_party_known a_kept a_tape a_telephone a_sheets a_sheets0 a_sheets0_numbers a_sheets1 a_sheets1_numbers a_sheets2 a_sheets2_numbers a_sheets3 a_sheets3_numbers a_findings v_isKept v_party_size v_party_list v_party_told v_party_kinds v_party_terms v_party_known v_sheets0_bits v_sheets0_size v_sheets0_numbers v_sheets1_bits v_sheets1_size v_sheets1_numbers v_sheets2_bits v_sheets2_size v_sheets2_numbers v_sheets3_bits v_sheets3_size v_sheets3_numbers v_findings) H locs → lv_has ls 5 [(0, .ref a_t), (1, .int y1), (3, .int y3), (4, .int y4)] → ll9 (fX4_book_27 v_party_size v_party_list v_party_kinds v_party_terms v_sheets0_bits v_sheets0_size v_sheets1_bits v_sheets1_size v_sheets2_bits v_sheets2_size v_sheets3_bits v_sheets3_size) n v_party_known v_sheets0_numbers v_sheets1_numbers v_sheets2_numbers v_sheets3_numbers v_findings y1 y3 y4 = some (rr, kk') → W p l e rX4_book s m args below meth c H locs 0 0 (MQ below (q_Ri D rr A ((fun k : (Nat → Int32) × (Nat → Int64) × (Nat → Int64) × (Nat → Int64) × (Nat → Int64) × (Nat → Int32) => (wX4_book cI cJ cZ cS a_t a_party a_party_kinds a_party_costs a_party_terms a_party_known a_kept a_tape a_telephone a_sheets a_sheets0 a_sheets0_numbers a_sheets1 a_sheets1_numbers a_sheets2 a_sheets2_numbers a_sheets3 a_sheets3_numbers a_findings v_isKept v_party_size v_party_list v_party_told v_party_kinds v_party_terms k.1 v_sheets0_bits v_sheets0_size k.2.1 v_sheets1_bits v_sheets1_size k.2.2.1 v_sheets2_bits v_sheets2_size k.2.2.2.1 v_sheets3_bits v_sheets3_size k.2.2.2.2.1 k.2.2.2.2.2)) kk')) args s 0 0 A) (F0 m 27 ls []) := by
  intro n
  induction n with
  | zero => intro v_party_known v_sheets0_numbers v_sheets1_numbers v_sheets2_numbers v_sheets3_numbers v_findings y1 y3 y4 H locs ls h hl hf; exact (ll9_z hf).elim
  | succ n ih => intro v_party_known v_sheets0_numbers v_sheets1_numbers v_sheets2_numbers v_sheets3_numbers v_findings y1 y3 y4 H locs ls h hl hf; exact LX4_book_27 fx ih h hl (ll9_s hf)
def fX4_book (v_party_size : Int32) (v_party_list : Int32) (v_party_kinds : Nat → Int32) (v_party_terms : Nat → Int64) (v_party_known : Nat → Int32) (v_sheets0_bits : Int32) (v_sheets0_size : Int32) (v_sheets0_numbers : Nat → Int64) (v_sheets1_bits : Int32) (v_sheets1_size : Int32) (v_sheets1_numbers : Nat → Int64) (v_sheets2_bits : Int32) (v_sheets2_size : Int32) (v_sheets2_numbers : Nat → Int64) (v_sheets3_bits : Int32) (v_sheets3_size : Int32) (v_sheets3_numbers : Nat → Int64) (v_findings : Nat → Int32) (x1 : Int32) : Option (Int32 × (Nat → Int32) × (Nat → Int64) × (Nat → Int64) × (Nat → Int64) × (Nat → Int64) × (Nat → Int32)) :=
  bR (fX4_sheetLack v_sheets0_bits v_sheets1_bits v_sheets2_bits v_sheets3_bits x1) (fun r18 k18 =>
  (if r18 = 0 then (
  ll9 (fX4_book_27 v_party_size v_party_list v_party_kinds v_party_terms v_sheets0_bits v_sheets0_size v_sheets1_bits v_sheets1_size v_sheets2_bits v_sheets2_size v_sheets3_bits v_sheets3_size) qF v_party_known v_sheets0_numbers v_sheets1_numbers v_sheets2_numbers v_sheets3_numbers v_findings x1 v_party_list 0)
  else (
  bR (fX4_found v_findings r18) (fun r20 k20 =>
  some (r20, (v_party_known, v_sheets0_numbers, v_sheets1_numbers, v_sheets2_numbers, v_sheets3_numbers, k20))))))
set_option maxRecDepth 100000 in
set_option maxHeartbeats 4000000 in
theorem tX4_book (l : Launch) (D : va_G) (cI cJ cZ cS : ClassId) (tb : Nat) (a_t a_party a_party_kinds a_party_costs a_party_terms a_party_known a_kept a_tape a_telephone a_sheets a_sheets0 a_sheets0_numbers a_sheets1 a_sheets1_numbers a_sheets2 a_sheets2_numbers a_sheets3 a_sheets3_numbers a_findings : Nat) (sz : Nat) (v_isKept : Int32) (v_party_size : Int32) (v_party_list : Int32) (v_party_told : Int32) (v_party_kinds : Nat → Int32) (v_party_terms : Nat → Int64) (v_party_known : Nat → Int32) (v_sheets0_bits : Int32) (v_sheets0_size : Int32) (v_sheets0_numbers : Nat → Int64) (v_sheets1_bits : Int32) (v_sheets1_size : Int32) (v_sheets1_numbers : Nat → Int64) (v_sheets2_bits : Int32) (v_sheets2_size : Int32) (v_sheets2_numbers : Nat → Int64) (v_sheets3_bits : Int32) (v_sheets3_size : Int32) (v_sheets3_numbers : Nat → Int64) (v_findings : Nat → Int32) (x1 : Int32) (rr : Int32) (kk' : (Nat → Int32) × (Nat → Int64) × (Nat → Int64) × (Nat → Int64) × (Nat → Int64) × (Nat → Int32)) (hf : fX4_book v_party_size v_party_list v_party_kinds v_party_terms v_party_known v_sheets0_bits v_sheets0_size v_sheets0_numbers v_sheets1_bits v_sheets1_size v_sheets1_numbers v_sheets2_bits v_sheets2_size v_sheets2_numbers v_sheets3_bits v_sheets3_size v_sheets3_numbers v_findings x1 = some (rr, kk')) : Met l yX4_book (Cond.code yX4_book cX4_book 5 (some .int) :: wA) rX4_book (q_Pre D cI cJ cZ cS tb [.ref a_t, .int x1] sz (wX4_book cI cJ cZ cS a_t a_party a_party_kinds a_party_costs a_party_terms a_party_known a_kept a_tape a_telephone a_sheets a_sheets0 a_sheets0_numbers a_sheets1 a_sheets1_numbers a_sheets2 a_sheets2_numbers a_sheets3 a_sheets3_numbers a_findings v_isKept v_party_size v_party_list v_party_told v_party_kinds v_party_terms v_party_known v_sheets0_bits v_sheets0_size v_sheets0_numbers v_sheets1_bits v_sheets1_size v_sheets1_numbers v_sheets2_bits v_sheets2_size v_sheets2_numbers v_sheets3_bits v_sheets3_size v_sheets3_numbers v_findings)) (q_Ri D rr (va_A (wX4_book cI cJ cZ cS a_t a_party a_party_kinds a_party_costs a_party_terms a_party_known a_kept a_tape a_telephone a_sheets a_sheets0 a_sheets0_numbers a_sheets1 a_sheets1_numbers a_sheets2 a_sheets2_numbers a_sheets3 a_sheets3_numbers a_findings v_isKept v_party_size v_party_list v_party_told v_party_kinds v_party_terms v_party_known v_sheets0_bits v_sheets0_size v_sheets0_numbers v_sheets1_bits v_sheets1_size v_sheets1_numbers v_sheets2_bits v_sheets2_size v_sheets2_numbers v_sheets3_bits v_sheets3_size v_sheets3_numbers v_findings) sz) ((fun k : (Nat → Int32) × (Nat → Int64) × (Nat → Int64) × (Nat → Int64) × (Nat → Int64) × (Nat → Int32) => (wX4_book cI cJ cZ cS a_t a_party a_party_kinds a_party_costs a_party_terms a_party_known a_kept a_tape a_telephone a_sheets a_sheets0 a_sheets0_numbers a_sheets1 a_sheets1_numbers a_sheets2 a_sheets2_numbers a_sheets3 a_sheets3_numbers a_findings v_isKept v_party_size v_party_list v_party_told v_party_kinds v_party_terms k.1 v_sheets0_bits v_sheets0_size k.2.1 v_sheets1_bits v_sheets1_size k.2.2.1 v_sheets2_bits v_sheets2_size k.2.2.2.1 v_sheets3_bits v_sheets3_size k.2.2.2.2.1 k.2.2.2.2.2)) kk')) 0 0 (va_A (wX4_book cI cJ cZ cS a_t a_party a_party_kinds a_party_costs a_party_terms a_party_known a_kept a_tape a_telephone a_sheets a_sheets0 a_sheets0_numbers a_sheets1 a_sheets1_numbers a_sheets2 a_sheets2_numbers a_sheets3 a_sheets3_numbers a_findings v_isKept v_party_size v_party_list v_party_told v_party_kinds v_party_terms v_party_known v_sheets0_bits v_sheets0_size v_sheets0_numbers v_sheets1_bits v_sheets1_size v_sheets1_numbers v_sheets2_bits v_sheets2_size v_sheets2_numbers v_sheets3_bits v_sheets3_size v_sheets3_numbers v_findings) sz) := by
  refine q_enter (Qf := fun A => (q_Ri D rr A ((fun k : (Nat → Int32) × (Nat → Int64) × (Nat → Int64) × (Nat → Int64) × (Nat → Int64) × (Nat → Int32) => (wX4_book cI cJ cZ cS a_t a_party a_party_kinds a_party_costs a_party_terms a_party_known a_kept a_tape a_telephone a_sheets a_sheets0 a_sheets0_numbers a_sheets1 a_sheets1_numbers a_sheets2 a_sheets2_numbers a_sheets3 a_sheets3_numbers a_findings v_isKept v_party_size v_party_list v_party_told v_party_kinds v_party_terms k.1 v_sheets0_bits v_sheets0_size k.2.1 v_sheets1_bits v_sheets1_size k.2.2.1 v_sheets2_bits v_sheets2_size k.2.2.2.1 v_sheets3_bits v_sheets3_size k.2.2.2.2.1 k.2.2.2.2.2)) kk'))) (by decide) rfl (Nat.le_of_ble_eq_true rfl) ?_
  intro p e s m below meth c A ls fx hname h hl
  have hx := fx.1
  have hb := fx.2.1
  have hl : lv_has ls 5 [(0, .ref a_t), (1, .int x1)] := hl
  generalize h9 : s.heap = H at h ⊢
  clear h9
  generalize h9 : ([] : List Loc) = locs at h ⊢
  clear h9
  unfold fX4_book at hf
  refine lv_aload_n hx hb dX4_book_0 rfl (lv_at hl 0 rfl) ?_
  refine lv_iload_n hx hb dX4_book_1 rfl (lv_at hl 1 rfl) ?_
  obtain ⟨r18, k18, hg, hf⟩ := bR_inv hf
  refine q_ci (rest := []) (ws' := (wX4_book cI cJ cZ cS a_t a_party a_party_kinds a_party_costs a_party_terms a_party_known a_kept a_tape a_telephone a_sheets a_sheets0 a_sheets0_numbers a_sheets1 a_sheets1_numbers a_sheets2 a_sheets2_numbers a_sheets3 a_sheets3_numbers a_findings v_isKept v_party_size v_party_list v_party_told v_party_kinds v_party_terms v_party_known v_sheets0_bits v_sheets0_size v_sheets0_numbers v_sheets1_bits v_sheets1_size v_sheets1_numbers v_sheets2_bits v_sheets2_size v_sheets2_numbers v_sheets3_bits v_sheets3_size v_sheets3_numbers v_findings)) (w1 := (wX4_sheetLack cI cJ cZ cS a_t a_party a_kept a_tape a_telephone a_sheets a_sheets0 a_sheets0_numbers a_sheets1 a_sheets1_numbers a_sheets2 a_sheets2_numbers a_sheets3 a_sheets3_numbers a_findings v_isKept v_sheets0_bits v_sheets0_size v_sheets1_bits v_sheets1_size v_sheets2_bits v_sheets2_size v_sheets3_bits v_sheets3_size)) fx h [0, 5, 6, 8, 10, 12] rfl rfl rfl rfl (q_runV fx h hl.1 [0, 5, 6, 8, 10, 12] rfl rfl (tX4_sheetLack l D cI cJ cZ cS tb a_t a_party a_kept a_tape a_telephone a_sheets a_sheets0 a_sheets0_numbers a_sheets1 a_sheets1_numbers a_sheets2 a_sheets2_numbers a_sheets3 a_sheets3_numbers a_findings H.size v_isKept v_sheets0_bits v_sheets0_size v_sheets1_bits v_sheets1_size v_sheets2_bits v_sheets2_size v_sheets3_bits v_sheets3_size x1 r18 k18 hg) mvX4_sheetLack k_549 ⟨rfl, rfl⟩ ⟨Nat.le_of_ble_eq_true rfl, Nat.le_of_ble_eq_true rfl⟩ rfl rfl rfl rfl (Nat.le_of_ble_eq_true rfl) dX4_book_2 ⟨Nat.le_of_ble_eq_true rfl, Nat.le_of_ble_eq_true rfl⟩) (fun H locs h => ?_)
  refine lv_istore_n (lv' := [(2, .int r18), (0, .ref a_t), (1, .int x1)]) hx hb dX4_book_5 rfl hl (by decide) rfl (fun ls hl => ?_)
  refine lv_iload_n hx hb dX4_book_6 rfl (lv_at hl 0 rfl) ?_
  refine lv_if_eq (tgt := 16) hx hb dX4_book_7 (by decide) (fun c19 => ?_) (fun c19 => ?_)
  · have hf := it_t c19 hf
    refine lv_aload_n hx hb dX4_book_16 rfl (lv_at hl 1 rfl) ?_
    refine q_get (v := .ref a_party) fx inX4 h 0 rfl rfl 0 (by decide) k_174 rfl dX4_book_17 ?_
    refine q_getN (v := .int v_party_list) fx inX0 h 1 rfl rfl 1 (by decide) nf_3 rfl dX4_book_20 ?_
    refine lv_istore_n (lv' := [(3, .int v_party_list), (2, .int r18), (0, .ref a_t), (1, .int x1)]) hx hb dX4_book_23 rfl hl (by decide) rfl (fun ls hl => ?_)
    refine lv_iconst (v := 0) hx hb dX4_book_24 (by decide) ?_
    refine lv_istore (lv' := [(4, .int 0), (3, .int v_party_list), (2, .int r18), (0, .ref a_t), (1, .int x1)]) hx hb dX4_book_25 hl (by decide) rfl (fun ls hl => ?_)
    exact EX4_book_27 fx qF h (lv_sub hl [3, 4, 1, 0] rfl) hf
  have hf := it_f c19 hf
  refine lv_aload_n hx hb dX4_book_10 rfl (lv_at hl 1 rfl) ?_
  refine lv_iload_n hx hb dX4_book_11 rfl (lv_at hl 0 rfl) ?_
  obtain ⟨r20, k20, hg, hf⟩ := bR_inv hf
  refine q_ci (rest := []) (ws' := (wX4_book cI cJ cZ cS a_t a_party a_party_kinds a_party_costs a_party_terms a_party_known a_kept a_tape a_telephone a_sheets a_sheets0 a_sheets0_numbers a_sheets1 a_sheets1_numbers a_sheets2 a_sheets2_numbers a_sheets3 a_sheets3_numbers a_findings v_isKept v_party_size v_party_list v_party_told v_party_kinds v_party_terms v_party_known v_sheets0_bits v_sheets0_size v_sheets0_numbers v_sheets1_bits v_sheets1_size v_sheets1_numbers v_sheets2_bits v_sheets2_size v_sheets2_numbers v_sheets3_bits v_sheets3_size v_sheets3_numbers k20)) (w1 := (wX4_found cI cJ cZ cS a_t a_party a_kept a_tape a_telephone a_sheets a_findings v_isKept k20)) fx h [0, 14] rfl rfl rfl rfl (q_runV fx h hl.1 [0, 14] rfl rfl (tX4_found l D cI cJ cZ cS tb a_t a_party a_kept a_tape a_telephone a_sheets a_findings H.size v_isKept v_findings r18 r20 k20 hg) mvX4_found k_207 ⟨rfl, rfl⟩ ⟨Nat.le_of_ble_eq_true rfl, Nat.le_of_ble_eq_true rfl⟩ rfl rfl rfl rfl (Nat.le_of_ble_eq_true rfl) dX4_book_12 ⟨Nat.le_of_ble_eq_true rfl, Nat.le_of_ble_eq_true rfl⟩) (fun H locs h => ?_)
  exact q_reti (fun k : (Nat → Int32) × (Nat → Int64) × (Nat → Int64) × (Nat → Int64) × (Nat → Int64) × (Nat → Int32) => (wX4_book cI cJ cZ cS a_t a_party a_party_kinds a_party_costs a_party_terms a_party_known a_kept a_tape a_telephone a_sheets a_sheets0 a_sheets0_numbers a_sheets1 a_sheets1_numbers a_sheets2 a_sheets2_numbers a_sheets3 a_sheets3_numbers a_findings v_isKept v_party_size v_party_list v_party_told v_party_kinds v_party_terms k.1 v_sheets0_bits v_sheets0_size k.2.1 v_sheets1_bits v_sheets1_size k.2.2.1 v_sheets2_bits v_sheets2_size k.2.2.2.1 v_sheets3_bits v_sheets3_size k.2.2.2.2.1 k.2.2.2.2.2)) fx hf h dX4_book_15
/-! X1_bitsAt -/
abbrev wX1_bitsAt (cI cJ cZ cS : ClassId) (a_t a_numbers : Nat) (v_bits : Int32) (v_size : Int32) (v_numbers : Nat → Int64) : va_W := [(a_t, .inr (1, [.int v_bits, .int v_size, .ref a_numbers])), (a_numbers, .inl (cJ, 40, .inr (.inl v_numbers)))]
abbrev rX1_bitsAt : Room := { frames := 0, cells := 0, slots := 0, locals := 0 }
def fX1_bitsAt (v_bits : Int32) (v_numbers : Nat → Int64) (x1 : Int32) : Option (Int64 × Unit) :=
  (if v_bits = 8 then (
  gIn x1 40 (
  some ((v_numbers x1.toNatClampNeg) &&& 255, ())))
  else (
  (if v_bits = 16 then (
  gIn x1 40 (
  some ((v_numbers x1.toNatClampNeg) &&& 65535, ())))
  else (
  gIn x1 40 (
  some (v_numbers x1.toNatClampNeg, ()))))))
set_option maxRecDepth 100000 in
set_option maxHeartbeats 4000000 in
theorem tX1_bitsAt (l : Launch) (D : va_G) (cI cJ cZ cS : ClassId) (tb : Nat) (a_t a_numbers : Nat) (sz : Nat) (v_bits : Int32) (v_size : Int32) (v_numbers : Nat → Int64) (x1 : Int32) (rr : Int64) (kk' : Unit) (hf : fX1_bitsAt v_bits v_numbers x1 = some (rr, kk')) : Met l yX1_bitsAt (Cond.code yX1_bitsAt cX1_bitsAt 2 (some .long) :: wA) rX1_bitsAt (q_Pre D cI cJ cZ cS tb [.ref a_t, .int x1] sz (wX1_bitsAt cI cJ cZ cS a_t a_numbers v_bits v_size v_numbers)) (q_Rl D rr (va_A (wX1_bitsAt cI cJ cZ cS a_t a_numbers v_bits v_size v_numbers) sz) ((fun k : Unit => (wX1_bitsAt cI cJ cZ cS a_t a_numbers v_bits v_size v_numbers)) kk')) 0 0 (va_A (wX1_bitsAt cI cJ cZ cS a_t a_numbers v_bits v_size v_numbers) sz) := by
  refine q_enter (Qf := fun A => (q_Rl D rr A ((fun k : Unit => (wX1_bitsAt cI cJ cZ cS a_t a_numbers v_bits v_size v_numbers)) kk'))) (by decide) rfl (Nat.le_of_ble_eq_true rfl) ?_
  intro p e s m below meth c A ls fx hname h hl
  have hx := fx.1
  have hb := fx.2.1
  have hl : lv_has ls 2 [(0, .ref a_t), (1, .int x1)] := hl
  generalize h9 : s.heap = H at h ⊢
  clear h9
  generalize h9 : ([] : List Loc) = locs at h ⊢
  clear h9
  unfold fX1_bitsAt at hf
  refine lv_aload_n hx hb dX1_bitsAt_0 rfl (lv_at hl 0 rfl) ?_
  refine q_get (v := .int v_bits) fx inX1 h 0 rfl rfl 0 (by decide) k_161 rfl dX1_bitsAt_1 ?_
  refine lv_bipush (v := 8) hx hb dX1_bitsAt_4 (by decide) ?_
  refine lv_icmp_ne (tgt := 22) hx hb dX1_bitsAt_6 (by decide) (fun c1 => ?_) (fun c1 => ?_)
  · have hf := it_f c1 hf
    refine lv_aload_n hx hb dX1_bitsAt_22 rfl (lv_at hl 0 rfl) ?_
    refine q_get (v := .int v_bits) fx inX1 h 0 rfl rfl 0 (by decide) k_161 rfl dX1_bitsAt_23 ?_
    refine lv_bipush (v := 16) hx hb dX1_bitsAt_26 (by decide) ?_
    refine lv_icmp_ne (tgt := 44) hx hb dX1_bitsAt_28 (by decide) (fun c2 => ?_) (fun c2 => ?_)
    · have hf := it_f c2 hf
      refine lv_aload_n hx hb dX1_bitsAt_44 rfl (lv_at hl 0 rfl) ?_
      refine q_get (v := .ref a_numbers) fx inX1 h 0 rfl rfl 2 (by decide) k_165 rfl dX1_bitsAt_45 ?_
      refine lv_iload_n hx hb dX1_bitsAt_48 rfl (lv_at hl 1 rfl) ?_
      obtain ⟨i3, hf⟩ := gIn_inv hf
      refine q_lald fx h 1 rfl i3 dX1_bitsAt_49 ?_
      exact q_retl (fun k : Unit => (wX1_bitsAt cI cJ cZ cS a_t a_numbers v_bits v_size v_numbers)) fx hf h dX1_bitsAt_50
    have hf := it_t c2 hf
    refine lv_aload_n hx hb dX1_bitsAt_31 rfl (lv_at hl 0 rfl) ?_
    refine q_get (v := .ref a_numbers) fx inX1 h 0 rfl rfl 2 (by decide) k_165 rfl dX1_bitsAt_32 ?_
    refine lv_iload_n hx hb dX1_bitsAt_35 rfl (lv_at hl 1 rfl) ?_
    obtain ⟨i4, hf⟩ := gIn_inv hf
    refine q_lald fx h 1 rfl i4 dX1_bitsAt_36 ?_
    refine q_ldc2 fx k_594 dX1_bitsAt_37 ?_
    refine lv_land hx hb dX1_bitsAt_40 ?_
    refine lv_goto (tgt := 50) hx hb dX1_bitsAt_41 (by decide) ?_
    exact q_retl (fun k : Unit => (wX1_bitsAt cI cJ cZ cS a_t a_numbers v_bits v_size v_numbers)) fx hf h dX1_bitsAt_50
  have hf := it_t c1 hf
  refine lv_aload_n hx hb dX1_bitsAt_9 rfl (lv_at hl 0 rfl) ?_
  refine q_get (v := .ref a_numbers) fx inX1 h 0 rfl rfl 2 (by decide) k_165 rfl dX1_bitsAt_10 ?_
  refine lv_iload_n hx hb dX1_bitsAt_13 rfl (lv_at hl 1 rfl) ?_
  obtain ⟨i5, hf⟩ := gIn_inv hf
  refine q_lald fx h 1 rfl i5 dX1_bitsAt_14 ?_
  refine q_ldc2 fx k_593 dX1_bitsAt_15 ?_
  refine lv_land hx hb dX1_bitsAt_18 ?_
  refine lv_goto (tgt := 50) hx hb dX1_bitsAt_19 (by decide) ?_
  exact q_retl (fun k : Unit => (wX1_bitsAt cI cJ cZ cS a_t a_numbers v_bits v_size v_numbers)) fx hf h dX1_bitsAt_50
/-! X1_holdsOnly -/
abbrev wX1_holdsOnly (cI cJ cZ cS : ClassId) (a_t a_numbers : Nat) (v_bits : Int32) (v_size : Int32) (v_numbers : Nat → Int64) : va_W := [(a_t, .inr (1, [.int v_bits, .int v_size, .ref a_numbers])), (a_numbers, .inl (cJ, 40, .inr (.inl v_numbers)))]
abbrev rX1_holdsOnly : Room := { frames := 1, cells := 0, slots := 0, locals := 21 }
def fX1_holdsOnly_2 (v_bits : Int32) (v_size : Int32) (v_numbers : Nat → Int64) (ag2 : Int32 → Int32 → Option (Int32 × Unit)) (y1 : Int32) (y2 : Int32) : Option (Int32 × Unit) :=
  (if v_size ≤ y2 then (
  some (1, ()))
  else (
  bR (fX1_bitsAt v_bits v_numbers y2) (fun r2 k2 =>
  (if (lg_cmp (r2 &&& ((y1.toInt64) ^^^ (-1))) 0) = 0 then (
  nm (y2 + 1) (fun u4 =>
  ag2 y1 u4))
  else (
  some (0, ()))))))
set_option maxRecDepth 100000 in
set_option maxHeartbeats 4000000 in
theorem LX1_holdsOnly_2 {p : Program} {l : Launch} {e : Env} {s : State} {m : MethodId} {args : Array Value} {below : List Frame} {meth : Method} {c : Code} {D : va_G} {cI cJ cZ cS : ClassId} {tb : Nat} {A : Nat → Prop} {a_t a_numbers : Nat} {v_bits : Int32} {v_size : Int32} {v_numbers : Nat → Int64} {rr : Int32} {kk' : Unit} (fx : q_Fx p s m args meth c cX1_holdsOnly 3 RX1 (some .boolean) D cI cJ cZ cS tb A) {ag2 : Int32 → Int32 → Option (Int32 × Unit)} (hag2 : ∀ {y1 : Int32} {y2 : Int32} {H : Heap} {locs : List Loc} {ls : Array Slot}, q_H D A s (wX1_holdsOnly cI cJ cZ cS a_t a_numbers v_bits v_size v_numbers) H locs → lv_has ls 3 [(0, .ref a_t), (1, .int y1), (2, .int y2)] → ag2 y1 y2 = some (rr, kk') → W p l e rX1_holdsOnly s m args below meth c H locs 0 0 (MQ below (q_Ri D rr A ((fun k : Unit => (wX1_holdsOnly cI cJ cZ cS a_t a_numbers v_bits v_size v_numbers)) kk')) args s 0 0 A) (F0 m 2 ls [])) : ∀ {y1 : Int32} {y2 : Int32} {H : Heap} {locs : List Loc} {ls : Array Slot}, q_H D A s (wX1_holdsOnly cI cJ cZ cS a_t a_numbers v_bits v_size v_numbers) H locs → lv_has ls 3 [(0, .ref a_t), (1, .int y1), (2, .int y2)] → fX1_holdsOnly_2 v_bits v_size v_numbers ag2 y1 y2 = some (rr, kk') → W p l e rX1_holdsOnly s m args below meth c H locs 0 0 (MQ below (q_Ri D rr A ((fun k : Unit => (wX1_holdsOnly cI cJ cZ cS a_t a_numbers v_bits v_size v_numbers)) kk')) args s 0 0 A) (F0 m 2 ls []) := by
  intro y1 y2 H locs ls h hl hf
  have hx := fx.1
  have hb := fx.2.1
  unfold fX1_holdsOnly_2 at hf
  refine lv_iload_n hx hb dX1_holdsOnly_2 rfl (lv_at hl 2 rfl) ?_
  refine lv_aload_n hx hb dX1_holdsOnly_3 rfl (lv_at hl 0 rfl) ?_
  refine q_get (v := .int v_size) fx inX1 h 0 rfl rfl 1 (by decide) k_163 rfl dX1_holdsOnly_4 ?_
  refine lv_icmp_ge (tgt := 35) hx hb dX1_holdsOnly_7 (by decide) (fun c1 => ?_) (fun c1 => ?_)
  · have hf := it_t c1 hf
    refine lv_iconst (v := 1) hx hb dX1_holdsOnly_35 (by decide) ?_
    exact q_retz (fun k : Unit => (wX1_holdsOnly cI cJ cZ cS a_t a_numbers v_bits v_size v_numbers)) fx rfl hf h dX1_holdsOnly_36
  have hf := it_f c1 hf
  refine lv_aload_n hx hb dX1_holdsOnly_10 rfl (lv_at hl 0 rfl) ?_
  refine lv_iload_n hx hb dX1_holdsOnly_11 rfl (lv_at hl 2 rfl) ?_
  obtain ⟨r2, k2, hg, hf⟩ := bR_inv hf
  refine q_cl (rest := []) (ws' := (wX1_holdsOnly cI cJ cZ cS a_t a_numbers v_bits v_size v_numbers)) (w1 := (wX1_bitsAt cI cJ cZ cS a_t a_numbers v_bits v_size v_numbers)) fx h [0, 1] rfl rfl rfl rfl (q_runV fx h hl.1 [0, 1] rfl rfl (tX1_bitsAt l D cI cJ cZ cS tb a_t a_numbers H.size v_bits v_size v_numbers y2 r2 k2 hg) mvX1_bitsAt k_589 ⟨rfl, rfl⟩ ⟨Nat.le_of_ble_eq_true rfl, Nat.le_of_ble_eq_true rfl⟩ rfl rfl rfl rfl (Nat.le_of_ble_eq_true rfl) dX1_holdsOnly_12 ⟨Nat.le_of_ble_eq_true rfl, Nat.le_of_ble_eq_true rfl⟩) (fun H locs h => ?_)
  refine lv_iload_n hx hb dX1_holdsOnly_15 rfl (lv_at hl 1 rfl) ?_
  refine lv_i2l hx hb dX1_holdsOnly_16 rfl ?_
  refine q_ldc2 fx k_595 dX1_holdsOnly_17 ?_
  refine lv_lxor hx hb dX1_holdsOnly_20 ?_
  refine lv_land hx hb dX1_holdsOnly_21 ?_
  refine lv_lconst (v := 0) hx hb dX1_holdsOnly_22 (by decide) ?_
  refine W.lcmp hx hb dX1_holdsOnly_23 ?_
  refine lv_if_eq (tgt := 29) hx hb dX1_holdsOnly_24 (by decide) (fun c3 => ?_) (fun c3 => ?_)
  · have hf := it_t c3 hf
    obtain ⟨u4, eu4, hf⟩ := nm_inv hf
    refine lv_iinc (v := u4) (lv' := [(2, .int u4), (0, .ref a_t), (1, .int y1)]) hx hb dX1_holdsOnly_29 hl (k := 2) rfl (by rw [eu4]; rfl) (by decide) rfl (fun ls hl => ?_)
    refine lv_goto (tgt := 2) hx hb dX1_holdsOnly_32 (by decide) ?_
    exact hag2 h (lv_sub hl [1, 2, 0] rfl) hf
  have hf := it_f c3 hf
  refine lv_iconst (v := 0) hx hb dX1_holdsOnly_27 (by decide) ?_
  exact q_retz (fun k : Unit => (wX1_holdsOnly cI cJ cZ cS a_t a_numbers v_bits v_size v_numbers)) fx rfl hf h dX1_holdsOnly_28
set_option maxRecDepth 100000 in
theorem EX1_holdsOnly_2 {p : Program} {l : Launch} {e : Env} {s : State} {m : MethodId} {args : Array Value} {below : List Frame} {meth : Method} {c : Code} {D : va_G} {cI cJ cZ cS : ClassId} {tb : Nat} {A : Nat → Prop} {a_t a_numbers : Nat} {v_bits : Int32} {v_size : Int32} {v_numbers : Nat → Int64} {rr : Int32} {kk' : Unit} (fx : q_Fx p s m args meth c cX1_holdsOnly 3 RX1 (some .boolean) D cI cJ cZ cS tb A) : ∀ (n : Nat), ∀ {y1 : Int32} {y2 : Int32} {H : Heap} {locs : List Loc} {ls : Array Slot}, q_H D A s (wX1_holdsOnly cI cJ cZ cS a_t a_numbers v_bits v_size v_numbers) H locs → lv_has ls 3 [(0, .ref a_t), (1, .int y1), (2, .int y2)] → ll2 (fX1_holdsOnly_2 v_bits v_size v_numbers) n y1 y2 = some (rr, kk') → W p l e rX1_holdsOnly s m args below meth c H locs 0 0 (MQ below (q_Ri D rr A ((fun k : Unit => (wX1_holdsOnly cI cJ cZ cS a_t a_numbers v_bits v_size v_numbers)) kk')) args s 0 0 A) (F0 m 2 ls []) := by
  intro n
  induction n with
  | zero => intro y1 y2 H locs ls h hl hf; exact (ll2_z hf).elim
  | succ n ih => intro y1 y2 H locs ls h hl hf; exact LX1_holdsOnly_2 fx ih h hl (ll2_s hf)
def fX1_holdsOnly (v_bits : Int32) (v_size : Int32) (v_numbers : Nat → Int64) (x1 : Int32) : Option (Int32 × Unit) :=
  ll2 (fX1_holdsOnly_2 v_bits v_size v_numbers) qF x1 0
set_option maxRecDepth 100000 in
set_option maxHeartbeats 4000000 in
theorem tX1_holdsOnly (l : Launch) (D : va_G) (cI cJ cZ cS : ClassId) (tb : Nat) (a_t a_numbers : Nat) (sz : Nat) (v_bits : Int32) (v_size : Int32) (v_numbers : Nat → Int64) (x1 : Int32) (rr : Int32) (kk' : Unit) (hf : fX1_holdsOnly v_bits v_size v_numbers x1 = some (rr, kk')) : Met l yX1_holdsOnly (Cond.code yX1_holdsOnly cX1_holdsOnly 3 (some .boolean) :: wA) rX1_holdsOnly (q_Pre D cI cJ cZ cS tb [.ref a_t, .int x1] sz (wX1_holdsOnly cI cJ cZ cS a_t a_numbers v_bits v_size v_numbers)) (q_Ri D rr (va_A (wX1_holdsOnly cI cJ cZ cS a_t a_numbers v_bits v_size v_numbers) sz) ((fun k : Unit => (wX1_holdsOnly cI cJ cZ cS a_t a_numbers v_bits v_size v_numbers)) kk')) 0 0 (va_A (wX1_holdsOnly cI cJ cZ cS a_t a_numbers v_bits v_size v_numbers) sz) := by
  refine q_enter (Qf := fun A => (q_Ri D rr A ((fun k : Unit => (wX1_holdsOnly cI cJ cZ cS a_t a_numbers v_bits v_size v_numbers)) kk'))) (by decide) rfl (Nat.le_of_ble_eq_true rfl) ?_
  intro p e s m below meth c A ls fx hname h hl
  have hx := fx.1
  have hb := fx.2.1
  have hl : lv_has ls 3 [(0, .ref a_t), (1, .int x1)] := hl
  generalize h9 : s.heap = H at h ⊢
  clear h9
  generalize h9 : ([] : List Loc) = locs at h ⊢
  clear h9
  unfold fX1_holdsOnly at hf
  refine lv_iconst (v := 0) hx hb dX1_holdsOnly_0 (by decide) ?_
  refine lv_istore_n (lv' := [(2, .int 0), (0, .ref a_t), (1, .int x1)]) hx hb dX1_holdsOnly_1 rfl hl (by decide) rfl (fun ls hl => ?_)
  exact EX1_holdsOnly_2 fx qF h (lv_sub hl [1, 2, 0] rfl) hf
/-! X1_listAt -/
abbrev wX1_listAt (cI cJ cZ cS : ClassId) (a_t a_numbers : Nat) (v_bits : Int32) (v_size : Int32) (v_numbers : Nat → Int64) : va_W := [(a_t, .inr (1, [.int v_bits, .int v_size, .ref a_numbers])), (a_numbers, .inl (cJ, 40, .inr (.inl v_numbers)))]
abbrev rX1_listAt : Room := { frames := 1, cells := 0, slots := 0, locals := 21 }
def fX1_listAt (v_bits : Int32) (v_numbers : Nat → Int64) (x1 : Int32) : Option (Int32 × Unit) :=
  bR (fX1_bitsAt v_bits v_numbers x1) (fun r1 k1 =>
  some ((r1.toInt32) &&& 255, ()))
set_option maxRecDepth 100000 in
set_option maxHeartbeats 4000000 in
theorem tX1_listAt (l : Launch) (D : va_G) (cI cJ cZ cS : ClassId) (tb : Nat) (a_t a_numbers : Nat) (sz : Nat) (v_bits : Int32) (v_size : Int32) (v_numbers : Nat → Int64) (x1 : Int32) (rr : Int32) (kk' : Unit) (hf : fX1_listAt v_bits v_numbers x1 = some (rr, kk')) : Met l yX1_listAt (Cond.code yX1_listAt cX1_listAt 2 (some .int) :: wA) rX1_listAt (q_Pre D cI cJ cZ cS tb [.ref a_t, .int x1] sz (wX1_listAt cI cJ cZ cS a_t a_numbers v_bits v_size v_numbers)) (q_Ri D rr (va_A (wX1_listAt cI cJ cZ cS a_t a_numbers v_bits v_size v_numbers) sz) ((fun k : Unit => (wX1_listAt cI cJ cZ cS a_t a_numbers v_bits v_size v_numbers)) kk')) 0 0 (va_A (wX1_listAt cI cJ cZ cS a_t a_numbers v_bits v_size v_numbers) sz) := by
  refine q_enter (Qf := fun A => (q_Ri D rr A ((fun k : Unit => (wX1_listAt cI cJ cZ cS a_t a_numbers v_bits v_size v_numbers)) kk'))) (by decide) rfl (Nat.le_of_ble_eq_true rfl) ?_
  intro p e s m below meth c A ls fx hname h hl
  have hx := fx.1
  have hb := fx.2.1
  have hl : lv_has ls 2 [(0, .ref a_t), (1, .int x1)] := hl
  generalize h9 : s.heap = H at h ⊢
  clear h9
  generalize h9 : ([] : List Loc) = locs at h ⊢
  clear h9
  unfold fX1_listAt at hf
  refine lv_aload_n hx hb dX1_listAt_0 rfl (lv_at hl 0 rfl) ?_
  refine lv_iload_n hx hb dX1_listAt_1 rfl (lv_at hl 1 rfl) ?_
  obtain ⟨r1, k1, hg, hf⟩ := bR_inv hf
  refine q_cl (rest := []) (ws' := (wX1_listAt cI cJ cZ cS a_t a_numbers v_bits v_size v_numbers)) (w1 := (wX1_bitsAt cI cJ cZ cS a_t a_numbers v_bits v_size v_numbers)) fx h [0, 1] rfl rfl rfl rfl (q_runV fx h hl.1 [0, 1] rfl rfl (tX1_bitsAt l D cI cJ cZ cS tb a_t a_numbers H.size v_bits v_size v_numbers x1 r1 k1 hg) mvX1_bitsAt k_589 ⟨rfl, rfl⟩ ⟨Nat.le_of_ble_eq_true rfl, Nat.le_of_ble_eq_true rfl⟩ rfl rfl rfl rfl (Nat.le_of_ble_eq_true rfl) dX1_listAt_2 ⟨Nat.le_of_ble_eq_true rfl, Nat.le_of_ble_eq_true rfl⟩) (fun H locs h => ?_)
  refine lv_l2i hx hb dX1_listAt_5 rfl ?_
  refine lv_sipush (v := 255) hx hb dX1_listAt_6 (by decide) ?_
  refine lv_iand hx hb dX1_listAt_9 ?_
  exact q_reti (fun k : Unit => (wX1_listAt cI cJ cZ cS a_t a_numbers v_bits v_size v_numbers)) fx hf h dX1_listAt_10
/-! X4_explains -/
abbrev wX4_explains (cI cJ cZ cS : ClassId) (a_t a_party a_party_kinds a_party_costs a_party_terms a_party_known a_kept a_tape a_telephone a_sheets a_findings a_p1 a_p1_numbers : Nat) (v_isKept : Int32) (v_party_size : Int32) (v_party_list : Int32) (v_party_told : Int32) (v_party_kinds : Nat → Int32) (v_party_terms : Nat → Int64) (v_party_known : Nat → Int32) (v_p1_bits : Int32) (v_p1_size : Int32) (v_p1_numbers : Nat → Int64) : va_W := [(a_t, .inr (4, [.ref a_party, .ref a_kept, .int v_isKept, .ref a_tape, .ref a_telephone, .ref a_sheets, .ref a_findings])), (a_party, .inr (0, [.int v_party_size, .int v_party_list, .int v_party_told, .ref a_party_kinds, .ref a_party_costs, .ref a_party_terms, .ref a_party_known])), (a_party_kinds, .inl (cI, 8, .inl v_party_kinds)), (a_party_terms, .inl (cJ, 32, .inr (.inl v_party_terms))), (a_party_known, .inl (cI, 256, .inl v_party_known)), (a_p1, .inr (1, [.int v_p1_bits, .int v_p1_size, .ref a_p1_numbers])), (a_p1_numbers, .inl (cJ, 40, .inr (.inl v_p1_numbers)))]
abbrev rX4_explains : Room := { frames := 5, cells := 0, slots := 0, locals := 114 }
def fX4_explains_3 (v_party_size : Int32) (v_party_kinds : Nat → Int32) (v_party_terms : Nat → Int64) (v_p1_bits : Int32) (v_p1_size : Int32) (v_p1_numbers : Nat → Int64) (ag3 : (Nat → Int32) → Int32 → Int32 → Int32 → Option (Int32 × (Nat → Int32))) (v_party_known : Nat → Int32) (y2 : Int32) (y3 : Int32) (y4 : Int32) : Option (Int32 × (Nat → Int32)) :=
  (if v_p1_size ≤ y4 then (
  some (1, v_party_known))
  else (
  bR (fX1_listAt v_p1_bits v_p1_numbers (y4 - 1)) (fun r2 k2 =>
  bR (fX0_comersAs v_party_size v_party_kinds v_party_terms v_party_known y2 y3 r2) (fun r3 k3 =>
  bR (fX1_listAt v_p1_bits v_p1_numbers y4) (fun r4 k4 =>
  (if r3 = r4 then (
  nm (y4 + 1) (fun u6 =>
  ag3 k3 y2 y3 u6))
  else (
  some (0, k3))))))))
set_option maxRecDepth 100000 in
set_option maxHeartbeats 4000000 in
theorem LX4_explains_3 {p : Program} {l : Launch} {e : Env} {s : State} {m : MethodId} {args : Array Value} {below : List Frame} {meth : Method} {c : Code} {D : va_G} {cI cJ cZ cS : ClassId} {tb : Nat} {A : Nat → Prop} {a_t a_party a_party_kinds a_party_costs a_party_terms a_party_known a_kept a_tape a_telephone a_sheets a_findings a_p1 a_p1_numbers : Nat} {v_isKept : Int32} {v_party_size : Int32} {v_party_list : Int32} {v_party_told : Int32} {v_party_kinds : Nat → Int32} {v_party_terms : Nat → Int64} {v_p1_bits : Int32} {v_p1_size : Int32} {v_p1_numbers : Nat → Int64} {rr : Int32} {kk' : (Nat → Int32)} (fx : q_Fx p s m args meth c cX4_explains 5 RX4 (some .boolean) D cI cJ cZ cS tb A) {ag3 : (Nat → Int32) → Int32 → Int32 → Int32 → Option (Int32 × (Nat → Int32))} (hag3 : ∀ {v_party_known : Nat → Int32} {y2 : Int32} {y3 : Int32} {y4 : Int32} {H : Heap} {locs : List Loc} {ls : Array Slot}, q_H D A s (wX4_explains cI cJ cZ cS a_t a_party a_party_kinds a_party_costs a_party_terms a_party_known a_kept a_tape a_telephone a_sheets a_findings a_p1 a_p1_numbers v_isKept v_party_size v_party_list v_party_told v_party_kinds v_party_terms v_party_known v_p1_bits v_p1_size v_p1_numbers) H locs → lv_has ls 5 [(0, .ref a_t), (1, .ref a_p1), (2, .int y2), (3, .int y3), (4, .int y4)] → ag3 v_party_known y2 y3 y4 = some (rr, kk') → W p l e rX4_explains s m args below meth c H locs 0 0 (MQ below (q_Ri D rr A ((fun k : (Nat → Int32) => (wX4_explains cI cJ cZ cS a_t a_party a_party_kinds a_party_costs a_party_terms a_party_known a_kept a_tape a_telephone a_sheets a_findings a_p1 a_p1_numbers v_isKept v_party_size v_party_list v_party_told v_party_kinds v_party_terms k v_p1_bits v_p1_size v_p1_numbers)) kk')) args s 0 0 A) (F0 m 3 ls [])) : ∀ {v_party_known : Nat → Int32} {y2 : Int32} {y3 : Int32} {y4 : Int32} {H : Heap} {locs : List Loc} {ls : Array Slot}, q_H D A s (wX4_explains cI cJ cZ cS a_t a_party a_party_kinds a_party_costs a_party_terms a_party_known a_kept a_tape a_telephone a_sheets a_findings a_p1 a_p1_numbers v_isKept v_party_size v_party_list v_party_told v_party_kinds v_party_terms v_party_known v_p1_bits v_p1_size v_p1_numbers) H locs → lv_has ls 5 [(0, .ref a_t), (1, .ref a_p1), (2, .int y2), (3, .int y3), (4, .int y4)] → fX4_explains_3 v_party_size v_party_kinds v_party_terms v_p1_bits v_p1_size v_p1_numbers ag3 v_party_known y2 y3 y4 = some (rr, kk') → W p l e rX4_explains s m args below meth c H locs 0 0 (MQ below (q_Ri D rr A ((fun k : (Nat → Int32) => (wX4_explains cI cJ cZ cS a_t a_party a_party_kinds a_party_costs a_party_terms a_party_known a_kept a_tape a_telephone a_sheets a_findings a_p1 a_p1_numbers v_isKept v_party_size v_party_list v_party_told v_party_kinds v_party_terms k v_p1_bits v_p1_size v_p1_numbers)) kk')) args s 0 0 A) (F0 m 3 ls []) := by
  intro v_party_known y2 y3 y4 H locs ls h hl hf
  have hx := fx.1
  have hb := fx.2.1
  unfold fX4_explains_3 at hf
  refine lv_iload hx hb dX4_explains_3 (lv_at hl 4 rfl) ?_
  refine lv_aload_n hx hb dX4_explains_5 rfl (lv_at hl 1 rfl) ?_
  refine q_getN (v := .int v_p1_size) fx inX1 h 5 rfl rfl 1 (by decide) nf_10 rfl dX4_explains_6 ?_
  refine lv_icmp_ge (tgt := 46) hx hb dX4_explains_9 (by decide) (fun c1 => ?_) (fun c1 => ?_)
  · have hf := it_t c1 hf
    refine lv_iconst (v := 1) hx hb dX4_explains_46 (by decide) ?_
    exact q_retz (fun k : (Nat → Int32) => (wX4_explains cI cJ cZ cS a_t a_party a_party_kinds a_party_costs a_party_terms a_party_known a_kept a_tape a_telephone a_sheets a_findings a_p1 a_p1_numbers v_isKept v_party_size v_party_list v_party_told v_party_kinds v_party_terms k v_p1_bits v_p1_size v_p1_numbers)) fx rfl hf h dX4_explains_47
  have hf := it_f c1 hf
  refine lv_aload_n hx hb dX4_explains_12 rfl (lv_at hl 0 rfl) ?_
  refine q_get (v := .ref a_party) fx inX4 h 0 rfl rfl 0 (by decide) k_174 rfl dX4_explains_13 ?_
  refine lv_iload_n hx hb dX4_explains_16 rfl (lv_at hl 2 rfl) ?_
  refine lv_iload_n hx hb dX4_explains_17 rfl (lv_at hl 3 rfl) ?_
  refine lv_aload_n hx hb dX4_explains_18 rfl (lv_at hl 1 rfl) ?_
  refine lv_iload hx hb dX4_explains_19 (lv_at hl 4 rfl) ?_
  refine lv_iconst (v := 1) hx hb dX4_explains_21 (by decide) ?_
  refine lv_isub hx hb dX4_explains_22 ?_
  obtain ⟨r2, k2, hg, hf⟩ := bR_inv hf
  refine q_ci (rest := [.int y3, .int y2, .ref a_party]) (ws' := (wX4_explains cI cJ cZ cS a_t a_party a_party_kinds a_party_costs a_party_terms a_party_known a_kept a_tape a_telephone a_sheets a_findings a_p1 a_p1_numbers v_isKept v_party_size v_party_list v_party_told v_party_kinds v_party_terms v_party_known v_p1_bits v_p1_size v_p1_numbers)) (w1 := (wX1_listAt cI cJ cZ cS a_p1 a_p1_numbers v_p1_bits v_p1_size v_p1_numbers)) fx h [5, 6] rfl rfl rfl rfl (q_runV fx h hl.1 [5, 6] rfl rfl (tX1_listAt l D cI cJ cZ cS tb a_p1 a_p1_numbers H.size v_p1_bits v_p1_size v_p1_numbers (y4 - 1) r2 k2 hg) mvX1_listAt k_600 ⟨rfl, rfl⟩ ⟨Nat.le_of_ble_eq_true rfl, Nat.le_of_ble_eq_true rfl⟩ rfl rfl rfl rfl (Nat.le_of_ble_eq_true rfl) dX4_explains_23 ⟨Nat.le_of_ble_eq_true rfl, Nat.le_of_ble_eq_true rfl⟩) (fun H locs h => ?_)
  obtain ⟨r3, k3, hg, hf⟩ := bR_inv hf
  refine q_ci (rest := []) (ws' := (wX4_explains cI cJ cZ cS a_t a_party a_party_kinds a_party_costs a_party_terms a_party_known a_kept a_tape a_telephone a_sheets a_findings a_p1 a_p1_numbers v_isKept v_party_size v_party_list v_party_told v_party_kinds v_party_terms k3 v_p1_bits v_p1_size v_p1_numbers)) (w1 := (wX0_comersAs cI cJ cZ cS a_party a_party_kinds a_party_costs a_party_terms a_party_known v_party_size v_party_list v_party_told v_party_kinds v_party_terms k3)) fx h [1, 2, 3, 4] rfl rfl rfl rfl (q_runV fx h hl.1 [1, 2, 3, 4] rfl rfl (tX0_comersAs l D cI cJ cZ cS tb a_party a_party_kinds a_party_costs a_party_terms a_party_known H.size v_party_size v_party_list v_party_told v_party_kinds v_party_terms v_party_known y2 y3 r2 r3 k3 hg) mvX0_comersAs k_604 ⟨rfl, rfl⟩ ⟨Nat.le_of_ble_eq_true rfl, Nat.le_of_ble_eq_true rfl⟩ rfl rfl rfl rfl (Nat.le_of_ble_eq_true rfl) dX4_explains_26 ⟨Nat.le_of_ble_eq_true rfl, Nat.le_of_ble_eq_true rfl⟩) (fun H locs h => ?_)
  refine lv_aload_n hx hb dX4_explains_29 rfl (lv_at hl 1 rfl) ?_
  refine lv_iload hx hb dX4_explains_30 (lv_at hl 4 rfl) ?_
  obtain ⟨r4, k4, hg, hf⟩ := bR_inv hf
  refine q_ci (rest := [.int r3]) (ws' := (wX4_explains cI cJ cZ cS a_t a_party a_party_kinds a_party_costs a_party_terms a_party_known a_kept a_tape a_telephone a_sheets a_findings a_p1 a_p1_numbers v_isKept v_party_size v_party_list v_party_told v_party_kinds v_party_terms k3 v_p1_bits v_p1_size v_p1_numbers)) (w1 := (wX1_listAt cI cJ cZ cS a_p1 a_p1_numbers v_p1_bits v_p1_size v_p1_numbers)) fx h [5, 6] rfl rfl rfl rfl (q_runV fx h hl.1 [5, 6] rfl rfl (tX1_listAt l D cI cJ cZ cS tb a_p1 a_p1_numbers H.size v_p1_bits v_p1_size v_p1_numbers y4 r4 k4 hg) mvX1_listAt k_600 ⟨rfl, rfl⟩ ⟨Nat.le_of_ble_eq_true rfl, Nat.le_of_ble_eq_true rfl⟩ rfl rfl rfl rfl (Nat.le_of_ble_eq_true rfl) dX4_explains_32 ⟨Nat.le_of_ble_eq_true rfl, Nat.le_of_ble_eq_true rfl⟩) (fun H locs h => ?_)
  refine lv_icmp_eq (tgt := 40) hx hb dX4_explains_35 (by decide) (fun c5 => ?_) (fun c5 => ?_)
  · have hf := it_t c5 hf
    obtain ⟨u6, eu6, hf⟩ := nm_inv hf
    refine lv_iinc (v := u6) (lv' := [(4, .int u6), (0, .ref a_t), (1, .ref a_p1), (2, .int y2), (3, .int y3)]) hx hb dX4_explains_40 hl (k := 4) rfl (by rw [eu6]; rfl) (by decide) rfl (fun ls hl => ?_)
    refine lv_goto (tgt := 3) hx hb dX4_explains_43 (by decide) ?_
    exact hag3 h (lv_sub hl [1, 2, 3, 4, 0] rfl) hf
  have hf := it_f c5 hf
  refine lv_iconst (v := 0) hx hb dX4_explains_38 (by decide) ?_
  exact q_retz (fun k : (Nat → Int32) => (wX4_explains cI cJ cZ cS a_t a_party a_party_kinds a_party_costs a_party_terms a_party_known a_kept a_tape a_telephone a_sheets a_findings a_p1 a_p1_numbers v_isKept v_party_size v_party_list v_party_told v_party_kinds v_party_terms k v_p1_bits v_p1_size v_p1_numbers)) fx rfl hf h dX4_explains_39
set_option maxRecDepth 100000 in
theorem EX4_explains_3 {p : Program} {l : Launch} {e : Env} {s : State} {m : MethodId} {args : Array Value} {below : List Frame} {meth : Method} {c : Code} {D : va_G} {cI cJ cZ cS : ClassId} {tb : Nat} {A : Nat → Prop} {a_t a_party a_party_kinds a_party_costs a_party_terms a_party_known a_kept a_tape a_telephone a_sheets a_findings a_p1 a_p1_numbers : Nat} {v_isKept : Int32} {v_party_size : Int32} {v_party_list : Int32} {v_party_told : Int32} {v_party_kinds : Nat → Int32} {v_party_terms : Nat → Int64} {v_p1_bits : Int32} {v_p1_size : Int32} {v_p1_numbers : Nat → Int64} {rr : Int32} {kk' : (Nat → Int32)} (fx : q_Fx p s m args meth c cX4_explains 5 RX4 (some .boolean) D cI cJ cZ cS tb A) : ∀ (n : Nat), ∀ {v_party_known : Nat → Int32} {y2 : Int32} {y3 : Int32} {y4 : Int32} {H : Heap} {locs : List Loc} {ls : Array Slot}, q_H D A s (wX4_explains cI cJ cZ cS a_t a_party a_party_kinds a_party_costs a_party_terms a_party_known a_kept a_tape a_telephone a_sheets a_findings a_p1 a_p1_numbers v_isKept v_party_size v_party_list v_party_told v_party_kinds v_party_terms v_party_known v_p1_bits v_p1_size v_p1_numbers) H locs → lv_has ls 5 [(0, .ref a_t), (1, .ref a_p1), (2, .int y2), (3, .int y3), (4, .int y4)] → ll4 (fX4_explains_3 v_party_size v_party_kinds v_party_terms v_p1_bits v_p1_size v_p1_numbers) n v_party_known y2 y3 y4 = some (rr, kk') → W p l e rX4_explains s m args below meth c H locs 0 0 (MQ below (q_Ri D rr A ((fun k : (Nat → Int32) => (wX4_explains cI cJ cZ cS a_t a_party a_party_kinds a_party_costs a_party_terms a_party_known a_kept a_tape a_telephone a_sheets a_findings a_p1 a_p1_numbers v_isKept v_party_size v_party_list v_party_told v_party_kinds v_party_terms k v_p1_bits v_p1_size v_p1_numbers)) kk')) args s 0 0 A) (F0 m 3 ls []) := by
  intro n
  induction n with
  | zero => intro v_party_known y2 y3 y4 H locs ls h hl hf; exact (ll4_z hf).elim
  | succ n ih => intro v_party_known y2 y3 y4 H locs ls h hl hf; exact LX4_explains_3 fx ih h hl (ll4_s hf)
def fX4_explains (v_party_size : Int32) (v_party_kinds : Nat → Int32) (v_party_terms : Nat → Int64) (v_party_known : Nat → Int32) (v_p1_bits : Int32) (v_p1_size : Int32) (v_p1_numbers : Nat → Int64) (x2 : Int32) (x3 : Int32) : Option (Int32 × (Nat → Int32)) :=
  ll4 (fX4_explains_3 v_party_size v_party_kinds v_party_terms v_p1_bits v_p1_size v_p1_numbers) qF v_party_known x2 x3 1
set_option maxRecDepth 100000 in
set_option maxHeartbeats 4000000 in
theorem tX4_explains (l : Launch) (D : va_G) (cI cJ cZ cS : ClassId) (tb : Nat) (a_t a_party a_party_kinds a_party_costs a_party_terms a_party_known a_kept a_tape a_telephone a_sheets a_findings a_p1 a_p1_numbers : Nat) (sz : Nat) (v_isKept : Int32) (v_party_size : Int32) (v_party_list : Int32) (v_party_told : Int32) (v_party_kinds : Nat → Int32) (v_party_terms : Nat → Int64) (v_party_known : Nat → Int32) (v_p1_bits : Int32) (v_p1_size : Int32) (v_p1_numbers : Nat → Int64) (x2 : Int32) (x3 : Int32) (rr : Int32) (kk' : (Nat → Int32)) (hf : fX4_explains v_party_size v_party_kinds v_party_terms v_party_known v_p1_bits v_p1_size v_p1_numbers x2 x3 = some (rr, kk')) : Met l yX4_explains (Cond.code yX4_explains cX4_explains 5 (some .boolean) :: wA) rX4_explains (q_Pre D cI cJ cZ cS tb [.ref a_t, .ref a_p1, .int x2, .int x3] sz (wX4_explains cI cJ cZ cS a_t a_party a_party_kinds a_party_costs a_party_terms a_party_known a_kept a_tape a_telephone a_sheets a_findings a_p1 a_p1_numbers v_isKept v_party_size v_party_list v_party_told v_party_kinds v_party_terms v_party_known v_p1_bits v_p1_size v_p1_numbers)) (q_Ri D rr (va_A (wX4_explains cI cJ cZ cS a_t a_party a_party_kinds a_party_costs a_party_terms a_party_known a_kept a_tape a_telephone a_sheets a_findings a_p1 a_p1_numbers v_isKept v_party_size v_party_list v_party_told v_party_kinds v_party_terms v_party_known v_p1_bits v_p1_size v_p1_numbers) sz) ((fun k : (Nat → Int32) => (wX4_explains cI cJ cZ cS a_t a_party a_party_kinds a_party_costs a_party_terms a_party_known a_kept a_tape a_telephone a_sheets a_findings a_p1 a_p1_numbers v_isKept v_party_size v_party_list v_party_told v_party_kinds v_party_terms k v_p1_bits v_p1_size v_p1_numbers)) kk')) 0 0 (va_A (wX4_explains cI cJ cZ cS a_t a_party a_party_kinds a_party_costs a_party_terms a_party_known a_kept a_tape a_telephone a_sheets a_findings a_p1 a_p1_numbers v_isKept v_party_size v_party_list v_party_told v_party_kinds v_party_terms v_party_known v_p1_bits v_p1_size v_p1_numbers) sz) := by
  refine q_enter (Qf := fun A => (q_Ri D rr A ((fun k : (Nat → Int32) => (wX4_explains cI cJ cZ cS a_t a_party a_party_kinds a_party_costs a_party_terms a_party_known a_kept a_tape a_telephone a_sheets a_findings a_p1 a_p1_numbers v_isKept v_party_size v_party_list v_party_told v_party_kinds v_party_terms k v_p1_bits v_p1_size v_p1_numbers)) kk'))) (by decide) rfl (Nat.le_of_ble_eq_true rfl) ?_
  intro p e s m below meth c A ls fx hname h hl
  have hx := fx.1
  have hb := fx.2.1
  have hl : lv_has ls 5 [(0, .ref a_t), (1, .ref a_p1), (2, .int x2), (3, .int x3)] := hl
  generalize h9 : s.heap = H at h ⊢
  clear h9
  generalize h9 : ([] : List Loc) = locs at h ⊢
  clear h9
  unfold fX4_explains at hf
  refine lv_iconst (v := 1) hx hb dX4_explains_0 (by decide) ?_
  refine lv_istore (lv' := [(4, .int 1), (0, .ref a_t), (1, .ref a_p1), (2, .int x2), (3, .int x3)]) hx hb dX4_explains_1 hl (by decide) rfl (fun ls hl => ?_)
  exact EX4_explains_3 fx qF h (lv_sub hl [1, 2, 3, 4, 0] rfl) hf
