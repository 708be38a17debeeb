/-! X4_copy -/
abbrev wX4_copy (cI cJ cZ cS : ClassId) (a_t a_party a_kept a_tape a_telephone a_sheets a_sheets0 a_sheets0_numbers a_sheets1 a_sheets1_numbers a_sheets2 a_sheets2_numbers a_sheets3 a_sheets3_numbers a_findings : Nat) (v_isKept : Int32) (v_sheets0_bits : Int32) (v_sheets0_size : Int32) (v_sheets0_numbers : Nat → Int64) (v_sheets1_bits : Int32) (v_sheets1_size : Int32) (v_sheets1_numbers : Nat → Int64) (v_sheets2_bits : Int32) (v_sheets2_size : Int32) (v_sheets2_numbers : Nat → Int64) (v_sheets3_bits : Int32) (v_sheets3_size : Int32) (v_sheets3_numbers : Nat → Int64) (v_findings : Nat → Int32) : va_W := [(a_t, .inr (4, [.ref a_party, .ref a_kept, .int v_isKept, .ref a_tape, .ref a_telephone, .ref a_sheets, .ref a_findings])), (a_sheets, .inl (cS, 4, .inr (.inr (.inr (.inr (q_sh a_sheets0 a_sheets1 a_sheets2 a_sheets3)))))), (a_sheets0, .inr (1, [.int v_sheets0_bits, .int v_sheets0_size, .ref a_sheets0_numbers])), (a_sheets0_numbers, .inl (cJ, 40, .inr (.inl v_sheets0_numbers))), (a_sheets1, .inr (1, [.int v_sheets1_bits, .int v_sheets1_size, .ref a_sheets1_numbers])), (a_sheets1_numbers, .inl (cJ, 40, .inr (.inl v_sheets1_numbers))), (a_sheets2, .inr (1, [.int v_sheets2_bits, .int v_sheets2_size, .ref a_sheets2_numbers])), (a_sheets2_numbers, .inl (cJ, 40, .inr (.inl v_sheets2_numbers))), (a_sheets3, .inr (1, [.int v_sheets3_bits, .int v_sheets3_size, .ref a_sheets3_numbers])), (a_sheets3_numbers, .inl (cJ, 40, .inr (.inl v_sheets3_numbers))), (a_findings, .inl (cI, 7, .inl v_findings))]
abbrev rX4_copy : Room := { frames := 1, cells := 0, slots := 0, locals := 30 }
def fX4_copy_111 (v_sheets0_bits : Int32) (v_sheets0_size : Int32) (v_sheets1_bits : Int32) (v_sheets1_size : Int32) (v_sheets2_bits : Int32) (v_sheets2_size : Int32) (v_sheets3_bits : Int32) (v_sheets3_size : Int32) (v_sheets0_numbers : Nat → Int64) (v_sheets1_numbers : Nat → Int64) (v_sheets2_numbers : Nat → Int64) (v_sheets3_numbers : Nat → Int64) (v_findings : Nat → Int32) : Option (Int32 × (Nat → Int64) × (Nat → Int64) × (Nat → Int64) × (Nat → Int64) × (Nat → Int32)) :=
  bR (fX4_found v_findings (-1000000001)) (fun r1 k1 =>
  some (r1, (v_sheets0_numbers, v_sheets1_numbers, v_sheets2_numbers, v_sheets3_numbers, k1)))
set_option maxRecDepth 100000 in
set_option maxHeartbeats 4000000 in
theorem LX4_copy_111 {p : Program} {l : Launch} {e : Env} {s : State} {m : MethodId} {args : Array Value} {below : List Frame} {meth : Method} {c : Code} {D : va_G} {cI cJ cZ cS : ClassId} {tb : Nat} {A : Nat → Prop} {a_t a_party a_kept a_tape a_telephone a_sheets a_sheets0 a_sheets0_numbers a_sheets1 a_sheets1_numbers a_sheets2 a_sheets2_numbers a_sheets3 a_sheets3_numbers a_findings : Nat} {v_isKept : Int32} {v_sheets0_bits : Int32} {v_sheets0_size : Int32} {v_sheets1_bits : Int32} {v_sheets1_size : Int32} {v_sheets2_bits : Int32} {v_sheets2_size : Int32} {v_sheets3_bits : Int32} {v_sheets3_size : Int32} {rr : Int32} {kk' : (Nat → Int64) × (Nat → Int64) × (Nat → Int64) × (Nat → Int64) × (Nat → Int32)} (fx : q_Fx p s m args meth c cX4_copy 6 RX4 (some .int) D cI cJ cZ cS tb A) : ∀ {v_sheets0_numbers : Nat → Int64} {v_sheets1_numbers : Nat → Int64} {v_sheets2_numbers : Nat → Int64} {v_sheets3_numbers : Nat → Int64} {v_findings : Nat → Int32} {H : Heap} {locs : List Loc} {ls : Array Slot}, q_H D A s (wX4_copy cI cJ cZ cS a_t a_party a_kept a_tape a_telephone a_sheets a_sheets0 a_sheets0_numbers a_sheets1 a_sheets1_numbers a_sheets2 a_sheets2_numbers a_sheets3 a_sheets3_numbers a_findings v_isKept v_sheets0_bits v_sheets0_size v_sheets0_numbers v_sheets1_bits v_sheets1_size v_sheets1_numbers v_sheets2_bits v_sheets2_size v_sheets2_numbers v_sheets3_bits v_sheets3_size v_sheets3_numbers v_findings) H locs → lv_has ls 6 [(0, .ref a_t)] → fX4_copy_111 v_sheets0_bits v_sheets0_size v_sheets1_bits v_sheets1_size v_sheets2_bits v_sheets2_size v_sheets3_bits v_sheets3_size v_sheets0_numbers v_sheets1_numbers v_sheets2_numbers v_sheets3_numbers v_findings = some (rr, kk') → W p l e rX4_copy s m args below meth c H locs 0 0 (MQ below (q_Ri D rr A ((fun k : (Nat → Int64) × (Nat → Int64) × (Nat → Int64) × (Nat → Int64) × (Nat → Int32) => (wX4_copy cI cJ cZ cS a_t a_party a_kept a_tape a_telephone a_sheets a_sheets0 a_sheets0_numbers a_sheets1 a_sheets1_numbers a_sheets2 a_sheets2_numbers a_sheets3 a_sheets3_numbers a_findings v_isKept v_sheets0_bits v_sheets0_size k.1 v_sheets1_bits v_sheets1_size k.2.1 v_sheets2_bits v_sheets2_size k.2.2.1 v_sheets3_bits v_sheets3_size k.2.2.2.1 k.2.2.2.2)) kk')) args s 0 0 A) (F0 m 111 ls []) := by
  intro v_sheets0_numbers v_sheets1_numbers v_sheets2_numbers v_sheets3_numbers v_findings H locs ls h hl hf
  have hx := fx.1
  have hb := fx.2.1
  unfold fX4_copy_111 at hf
  refine lv_aload_n hx hb dX4_copy_111 rfl (lv_at hl 0 rfl) ?_
  refine q_ldc fx k_206 dX4_copy_112 ?_
  obtain ⟨r1, k1, hg, hf⟩ := bR_inv hf
  refine q_ci (rest := []) (ws' := (wX4_copy cI cJ cZ cS a_t a_party a_kept a_tape a_telephone a_sheets a_sheets0 a_sheets0_numbers a_sheets1 a_sheets1_numbers a_sheets2 a_sheets2_numbers a_sheets3 a_sheets3_numbers a_findings v_isKept v_sheets0_bits v_sheets0_size v_sheets0_numbers v_sheets1_bits v_sheets1_size v_sheets1_numbers v_sheets2_bits v_sheets2_size v_sheets2_numbers v_sheets3_bits v_sheets3_size v_sheets3_numbers k1)) (w1 := (wX4_found cI cJ cZ cS a_t a_party a_kept a_tape a_telephone a_sheets a_findings v_isKept k1)) fx h [0, 10] rfl rfl rfl rfl (q_runV fx h hl.1 [0, 10] rfl rfl (tX4_found l D cI cJ cZ cS tb a_t a_party a_kept a_tape a_telephone a_sheets a_findings H.size v_isKept v_findings (-1000000001) r1 k1 hg) mvX4_found k_207 ⟨rfl, rfl⟩ ⟨Nat.le_of_ble_eq_true rfl, Nat.le_of_ble_eq_true rfl⟩ rfl rfl rfl rfl (Nat.le_of_ble_eq_true rfl) dX4_copy_114 ⟨Nat.le_of_ble_eq_true rfl, Nat.le_of_ble_eq_true rfl⟩) (fun H locs h => ?_)
  exact q_reti (fun k : (Nat → Int64) × (Nat → Int64) × (Nat → Int64) × (Nat → Int64) × (Nat → Int32) => (wX4_copy cI cJ cZ cS a_t a_party a_kept a_tape a_telephone a_sheets a_sheets0 a_sheets0_numbers a_sheets1 a_sheets1_numbers a_sheets2 a_sheets2_numbers a_sheets3 a_sheets3_numbers a_findings v_isKept v_sheets0_bits v_sheets0_size k.1 v_sheets1_bits v_sheets1_size k.2.1 v_sheets2_bits v_sheets2_size k.2.2.1 v_sheets3_bits v_sheets3_size k.2.2.2.1 k.2.2.2.2)) fx hf h dX4_copy_117
def fX4_copy_45 (v_sheets0_bits : Int32) (v_sheets0_size : Int32) (v_sheets1_bits : Int32) (v_sheets1_size : Int32) (v_sheets2_bits : Int32) (v_sheets2_size : Int32) (v_sheets3_bits : Int32) (v_sheets3_size : Int32) (v_sheets0_numbers : Nat → Int64) (v_sheets1_numbers : Nat → Int64) (v_sheets2_numbers : Nat → Int64) (v_sheets3_numbers : Nat → Int64) (v_findings : Nat → Int32) : Option (Int32 × (Nat → Int64) × (Nat → Int64) × (Nat → Int64) × (Nat → Int64) × (Nat → Int32)) :=
  bR (fX4_found v_findings (-1000000006)) (fun r2 k2 =>
  some (r2, (v_sheets0_numbers, v_sheets1_numbers, v_sheets2_numbers, v_sheets3_numbers, k2)))
set_option maxRecDepth 100000 in
set_option maxHeartbeats 4000000 in
theorem LX4_copy_45 {p : Program} {l : Launch} {e : Env} {s : State} {m : MethodId} {args : Array Value} {below : List Frame} {meth : Method} {c : Code} {D : va_G} {cI cJ cZ cS : ClassId} {tb : Nat} {A : Nat → Prop} {a_t a_party a_kept a_tape a_telephone a_sheets a_sheets0 a_sheets0_numbers a_sheets1 a_sheets1_numbers a_sheets2 a_sheets2_numbers a_sheets3 a_sheets3_numbers a_findings : Nat} {v_isKept : Int32} {v_sheets0_bits : Int32} {v_sheets0_size : Int32} {v_sheets1_bits : Int32} {v_sheets1_size : Int32} {v_sheets2_bits : Int32} {v_sheets2_size : Int32} {v_sheets3_bits : Int32} {v_sheets3_size : Int32} {rr : Int32} {kk' : (Nat → Int64) × (Nat → Int64) × (Nat → Int64) × (Nat → Int64) × (Nat → Int32)} (fx : q_Fx p s m args meth c cX4_copy 6 RX4 (some .int) D cI cJ cZ cS tb A) : ∀ {v_sheets0_numbers : Nat → Int64} {v_sheets1_numbers : Nat → Int64} {v_sheets2_numbers : Nat → Int64} {v_sheets3_numbers : Nat → Int64} {v_findings : Nat → Int32} {H : Heap} {locs : List Loc} {ls : Array Slot}, q_H D A s (wX4_copy cI cJ cZ cS a_t a_party a_kept a_tape a_telephone a_sheets a_sheets0 a_sheets0_numbers a_sheets1 a_sheets1_numbers a_sheets2 a_sheets2_numbers a_sheets3 a_sheets3_numbers a_findings v_isKept v_sheets0_bits v_sheets0_size v_sheets0_numbers v_sheets1_bits v_sheets1_size v_sheets1_numbers v_sheets2_bits v_sheets2_size v_sheets2_numbers v_sheets3_bits v_sheets3_size v_sheets3_numbers v_findings) H locs → lv_has ls 6 [(0, .ref a_t)] → fX4_copy_45 v_sheets0_bits v_sheets0_size v_sheets1_bits v_sheets1_size v_sheets2_bits v_sheets2_size v_sheets3_bits v_sheets3_size v_sheets0_numbers v_sheets1_numbers v_sheets2_numbers v_sheets3_numbers v_findings = some (rr, kk') → W p l e rX4_copy s m args below meth c H locs 0 0 (MQ below (q_Ri D rr A ((fun k : (Nat → Int64) × (Nat → Int64) × (Nat → Int64) × (Nat → Int64) × (Nat → Int32) => (wX4_copy cI cJ cZ cS a_t a_party a_kept a_tape a_telephone a_sheets a_sheets0 a_sheets0_numbers a_sheets1 a_sheets1_numbers a_sheets2 a_sheets2_numbers a_sheets3 a_sheets3_numbers a_findings v_isKept v_sheets0_bits v_sheets0_size k.1 v_sheets1_bits v_sheets1_size k.2.1 v_sheets2_bits v_sheets2_size k.2.2.1 v_sheets3_bits v_sheets3_size k.2.2.2.1 k.2.2.2.2)) kk')) args s 0 0 A) (F0 m 45 ls []) := by
  intro v_sheets0_numbers v_sheets1_numbers v_sheets2_numbers v_sheets3_numbers v_findings H locs ls h hl hf
  have hx := fx.1
  have hb := fx.2.1
  unfold fX4_copy_45 at hf
  refine lv_aload_n hx hb dX4_copy_45 rfl (lv_at hl 0 rfl) ?_
  refine q_ldc fx k_557 dX4_copy_46 ?_
  obtain ⟨r2, k2, hg, hf⟩ := bR_inv hf
  refine q_ci (rest := []) (ws' := (wX4_copy cI cJ cZ cS a_t a_party a_kept a_tape a_telephone a_sheets a_sheets0 a_sheets0_numbers a_sheets1 a_sheets1_numbers a_sheets2 a_sheets2_numbers a_sheets3 a_sheets3_numbers a_findings v_isKept v_sheets0_bits v_sheets0_size v_sheets0_numbers v_sheets1_bits v_sheets1_size v_sheets1_numbers v_sheets2_bits v_sheets2_size v_sheets2_numbers v_sheets3_bits v_sheets3_size v_sheets3_numbers k2)) (w1 := (wX4_found cI cJ cZ cS a_t a_party a_kept a_tape a_telephone a_sheets a_findings v_isKept k2)) fx h [0, 10] rfl rfl rfl rfl (q_runV fx h hl.1 [0, 10] rfl rfl (tX4_found l D cI cJ cZ cS tb a_t a_party a_kept a_tape a_telephone a_sheets a_findings H.size v_isKept v_findings (-1000000006) r2 k2 hg) mvX4_found k_207 ⟨rfl, rfl⟩ ⟨Nat.le_of_ble_eq_true rfl, Nat.le_of_ble_eq_true rfl⟩ rfl rfl rfl rfl (Nat.le_of_ble_eq_true rfl) dX4_copy_48 ⟨Nat.le_of_ble_eq_true rfl, Nat.le_of_ble_eq_true rfl⟩) (fun H locs h => ?_)
  exact q_reti (fun k : (Nat → Int64) × (Nat → Int64) × (Nat → Int64) × (Nat → Int64) × (Nat → Int32) => (wX4_copy cI cJ cZ cS a_t a_party a_kept a_tape a_telephone a_sheets a_sheets0 a_sheets0_numbers a_sheets1 a_sheets1_numbers a_sheets2 a_sheets2_numbers a_sheets3 a_sheets3_numbers a_findings v_isKept v_sheets0_bits v_sheets0_size k.1 v_sheets1_bits v_sheets1_size k.2.1 v_sheets2_bits v_sheets2_size k.2.2.1 v_sheets3_bits v_sheets3_size k.2.2.2.1 k.2.2.2.2)) fx hf h dX4_copy_51
def fX4_copy_14 (v_sheets0_bits : Int32) (v_sheets0_size : Int32) (v_sheets1_bits : Int32) (v_sheets1_size : Int32) (v_sheets2_bits : Int32) (v_sheets2_size : Int32) (v_sheets3_bits : Int32) (v_sheets3_size : Int32) (v_sheets0_numbers : Nat → Int64) (v_sheets1_numbers : Nat → Int64) (v_sheets2_numbers : Nat → Int64) (v_sheets3_numbers : Nat → Int64) (v_findings : Nat → Int32) : Option (Int32 × (Nat → Int64) × (Nat → Int64) × (Nat → Int64) × (Nat → Int64) × (Nat → Int32)) :=
  bR (fX4_found v_findings (-1000000001)) (fun r3 k3 =>
  some (r3, (v_sheets0_numbers, v_sheets1_numbers, v_sheets2_numbers, v_sheets3_numbers, k3)))
set_option maxRecDepth 100000 in
set_option maxHeartbeats 4000000 in
theorem LX4_copy_14 {p : Program} {l : Launch} {e : Env} {s : State} {m : MethodId} {args : Array Value} {below : List Frame} {meth : Method} {c : Code} {D : va_G} {cI cJ cZ cS : ClassId} {tb : Nat} {A : Nat → Prop} {a_t a_party a_kept a_tape a_telephone a_sheets a_sheets0 a_sheets0_numbers a_sheets1 a_sheets1_numbers a_sheets2 a_sheets2_numbers a_sheets3 a_sheets3_numbers a_findings : Nat} {v_isKept : Int32} {v_sheets0_bits : Int32} {v_sheets0_size : Int32} {v_sheets1_bits : Int32} {v_sheets1_size : Int32} {v_sheets2_bits : Int32} {v_sheets2_size : Int32} {v_sheets3_bits : Int32} {v_sheets3_size : Int32} {rr : Int32} {kk' : (Nat → Int64) × (Nat → Int64) × (Nat → Int64) × (Nat → Int64) × (Nat → Int32)} (fx : q_Fx p s m args meth c cX4_copy 6 RX4 (some .int) D cI cJ cZ cS tb A) : ∀ {v_sheets0_numbers : Nat → Int64} {v_sheets1_numbers : Nat → Int64} {v_sheets2_numbers : Nat → Int64} {v_sheets3_numbers : Nat → Int64} {v_findings : Nat → Int32} {H : Heap} {locs : List Loc} {ls : Array Slot}, q_H D A s (wX4_copy cI cJ cZ cS a_t a_party a_kept a_tape a_telephone a_sheets a_sheets0 a_sheets0_numbers a_sheets1 a_sheets1_numbers a_sheets2 a_sheets2_numbers a_sheets3 a_sheets3_numbers a_findings v_isKept v_sheets0_bits v_sheets0_size v_sheets0_numbers v_sheets1_bits v_sheets1_size v_sheets1_numbers v_sheets2_bits v_sheets2_size v_sheets2_numbers v_sheets3_bits v_sheets3_size v_sheets3_numbers v_findings) H locs → lv_has ls 6 [(0, .ref a_t)] → fX4_copy_14 v_sheets0_bits v_sheets0_size v_sheets1_bits v_sheets1_size v_sheets2_bits v_sheets2_size v_sheets3_bits v_sheets3_size v_sheets0_numbers v_sheets1_numbers v_sheets2_numbers v_sheets3_numbers v_findings = some (rr, kk') → W p l e rX4_copy s m args below meth c H locs 0 0 (MQ below (q_Ri D rr A ((fun k : (Nat → Int64) × (Nat → Int64) × (Nat → Int64) × (Nat → Int64) × (Nat → Int32) => (wX4_copy cI cJ cZ cS a_t a_party a_kept a_tape a_telephone a_sheets a_sheets0 a_sheets0_numbers a_sheets1 a_sheets1_numbers a_sheets2 a_sheets2_numbers a_sheets3 a_sheets3_numbers a_findings v_isKept v_sheets0_bits v_sheets0_size k.1 v_sheets1_bits v_sheets1_size k.2.1 v_sheets2_bits v_sheets2_size k.2.2.1 v_sheets3_bits v_sheets3_size k.2.2.2.1 k.2.2.2.2)) kk')) args s 0 0 A) (F0 m 14 ls []) := by
  intro v_sheets0_numbers v_sheets1_numbers v_sheets2_numbers v_sheets3_numbers v_findings H locs ls h hl hf
  have hx := fx.1
  have hb := fx.2.1
  unfold fX4_copy_14 at hf
  refine lv_aload_n hx hb dX4_copy_14 rfl (lv_at hl 0 rfl) ?_
  refine q_ldc fx k_206 dX4_copy_15 ?_
  obtain ⟨r3, k3, hg, hf⟩ := bR_inv hf
  refine q_ci (rest := []) (ws' := (wX4_copy cI cJ cZ cS a_t a_party a_kept a_tape a_telephone a_sheets a_sheets0 a_sheets0_numbers a_sheets1 a_sheets1_numbers a_sheets2 a_sheets2_numbers a_sheets3 a_sheets3_numbers a_findings v_isKept v_sheets0_bits v_sheets0_size v_sheets0_numbers v_sheets1_bits v_sheets1_size v_sheets1_numbers v_sheets2_bits v_sheets2_size v_sheets2_numbers v_sheets3_bits v_sheets3_size v_sheets3_numbers k3)) (w1 := (wX4_found cI cJ cZ cS a_t a_party a_kept a_tape a_telephone a_sheets a_findings v_isKept k3)) fx h [0, 10] rfl rfl rfl rfl (q_runV fx h hl.1 [0, 10] rfl rfl (tX4_found l D cI cJ cZ cS tb a_t a_party a_kept a_tape a_telephone a_sheets a_findings H.size v_isKept v_findings (-1000000001) r3 k3 hg) mvX4_found k_207 ⟨rfl, rfl⟩ ⟨Nat.le_of_ble_eq_true rfl, Nat.le_of_ble_eq_true rfl⟩ rfl rfl rfl rfl (Nat.le_of_ble_eq_true rfl) dX4_copy_17 ⟨Nat.le_of_ble_eq_true rfl, Nat.le_of_ble_eq_true rfl⟩) (fun H locs h => ?_)
  exact q_reti (fun k : (Nat → Int64) × (Nat → Int64) × (Nat → Int64) × (Nat → Int64) × (Nat → Int32) => (wX4_copy cI cJ cZ cS a_t a_party a_kept a_tape a_telephone a_sheets a_sheets0 a_sheets0_numbers a_sheets1 a_sheets1_numbers a_sheets2 a_sheets2_numbers a_sheets3 a_sheets3_numbers a_findings v_isKept v_sheets0_bits v_sheets0_size k.1 v_sheets1_bits v_sheets1_size k.2.1 v_sheets2_bits v_sheets2_size k.2.2.1 v_sheets3_bits v_sheets3_size k.2.2.2.1 k.2.2.2.2)) fx hf h dX4_copy_20
def fX4_copy (v_sheets0_bits : Int32) (v_sheets0_size : Int32) (v_sheets0_numbers : Nat → Int64) (v_sheets1_bits : Int32) (v_sheets1_size : Int32) (v_sheets1_numbers : Nat → Int64) (v_sheets2_bits : Int32) (v_sheets2_size : Int32) (v_sheets2_numbers : Nat → Int64) (v_sheets3_bits : Int32) (v_sheets3_size : Int32) (v_sheets3_numbers : Nat → Int64) (v_findings : Nat → Int32) (x1 : Int32) (x2 : Int32) (x3 : Int32) (x4 : Int32) (x5 : Int32) : Option (Int32 × (Nat → Int64) × (Nat → Int64) × (Nat → Int64) × (Nat → Int64) × (Nat → Int32)) :=
  bR (fX4_isSheet x1) (fun r4 k4 =>
  (if r4 = 0 then (
  fX4_copy_14 v_sheets0_bits v_sheets0_size v_sheets1_bits v_sheets1_size v_sheets2_bits v_sheets2_size v_sheets3_bits v_sheets3_size v_sheets0_numbers v_sheets1_numbers v_sheets2_numbers v_sheets3_numbers v_findings)
  else (
  bR (fX4_isSheet x3) (fun r6 k6 =>
  (if r6 = 0 then (
  fX4_copy_14 v_sheets0_bits v_sheets0_size v_sheets1_bits v_sheets1_size v_sheets2_bits v_sheets2_size v_sheets3_bits v_sheets3_size v_sheets0_numbers v_sheets1_numbers v_sheets2_numbers v_sheets3_numbers v_findings)
  else (
  sel4 x1 (
  bR (fX1_isMissing v_sheets0_bits) (fun r9 k9 =>
  (if r9 = 0 then (
  sel4 x3 (
  bR (fX1_isMissing v_sheets0_bits) (fun r12 k12 =>
  (if r12 = 0 then (
  (if v_sheets0_bits = v_sheets0_bits then (
  bR (fX1_hasRun v_sheets0_size x2 x5) (fun r15 k15 =>
  (if r15 = 0 then (
  fX4_copy_111 v_sheets0_bits v_sheets0_size v_sheets1_bits v_sheets1_size v_sheets2_bits v_sheets2_size v_sheets3_bits v_sheets3_size v_sheets0_numbers v_sheets1_numbers v_sheets2_numbers v_sheets3_numbers v_findings)
  else (
  bR (fX1_hasRun v_sheets0_size x4 x5) (fun r17 k17 =>
  (if r17 = 0 then (
  fX4_copy_111 v_sheets0_bits v_sheets0_size v_sheets1_bits v_sheets1_size v_sheets2_bits v_sheets2_size v_sheets3_bits v_sheets3_size v_sheets0_numbers v_sheets1_numbers v_sheets2_numbers v_sheets3_numbers v_findings)
  else (
  gCp x2 x4 x5 40 40 (
  some (x5, ((va_cpy v_sheets0_numbers v_sheets0_numbers x2.toNatClampNeg x4.toNatClampNeg x5.toNatClampNeg), v_sheets1_numbers, v_sheets2_numbers, v_sheets3_numbers, v_findings))))))))))
  else (
  bR (fX4_found v_findings (-1000000003)) (fun r20 k20 =>
  some (r20, (v_sheets0_numbers, v_sheets1_numbers, v_sheets2_numbers, v_sheets3_numbers, k20))))))
  else (
  fX4_copy_45 v_sheets0_bits v_sheets0_size v_sheets1_bits v_sheets1_size v_sheets2_bits v_sheets2_size v_sheets3_bits v_sheets3_size v_sheets0_numbers v_sheets1_numbers v_sheets2_numbers v_sheets3_numbers v_findings))))
  (bR (fX1_isMissing v_sheets1_bits) (fun r21 k21 =>
  (if r21 = 0 then (
  (if v_sheets0_bits = v_sheets1_bits then (
  bR (fX1_hasRun v_sheets0_size x2 x5) (fun r24 k24 =>
  (if r24 = 0 then (
  fX4_copy_111 v_sheets0_bits v_sheets0_size v_sheets1_bits v_sheets1_size v_sheets2_bits v_sheets2_size v_sheets3_bits v_sheets3_size v_sheets0_numbers v_sheets1_numbers v_sheets2_numbers v_sheets3_numbers v_findings)
  else (
  bR (fX1_hasRun v_sheets1_size x4 x5) (fun r26 k26 =>
  (if r26 = 0 then (
  fX4_copy_111 v_sheets0_bits v_sheets0_size v_sheets1_bits v_sheets1_size v_sheets2_bits v_sheets2_size v_sheets3_bits v_sheets3_size v_sheets0_numbers v_sheets1_numbers v_sheets2_numbers v_sheets3_numbers v_findings)
  else (
  gCp x2 x4 x5 40 40 (
  some (x5, (v_sheets0_numbers, (va_cpy v_sheets0_numbers v_sheets1_numbers x2.toNatClampNeg x4.toNatClampNeg x5.toNatClampNeg), v_sheets2_numbers, v_sheets3_numbers, v_findings))))))))))
  else (
  bR (fX4_found v_findings (-1000000003)) (fun r29 k29 =>
  some (r29, (v_sheets0_numbers, v_sheets1_numbers, v_sheets2_numbers, v_sheets3_numbers, k29))))))
  else (
  fX4_copy_45 v_sheets0_bits v_sheets0_size v_sheets1_bits v_sheets1_size v_sheets2_bits v_sheets2_size v_sheets3_bits v_sheets3_size v_sheets0_numbers v_sheets1_numbers v_sheets2_numbers v_sheets3_numbers v_findings))))
  (bR (fX1_isMissing v_sheets2_bits) (fun r30 k30 =>
  (if r30 = 0 then (
  (if v_sheets0_bits = v_sheets2_bits then (
  bR (fX1_hasRun v_sheets0_size x2 x5) (fun r33 k33 =>
  (if r33 = 0 then (
  fX4_copy_111 v_sheets0_bits v_sheets0_size v_sheets1_bits v_sheets1_size v_sheets2_bits v_sheets2_size v_sheets3_bits v_sheets3_size v_sheets0_numbers v_sheets1_numbers v_sheets2_numbers v_sheets3_numbers v_findings)
  else (
  bR (fX1_hasRun v_sheets2_size x4 x5) (fun r35 k35 =>
  (if r35 = 0 then (
  fX4_copy_111 v_sheets0_bits v_sheets0_size v_sheets1_bits v_sheets1_size v_sheets2_bits v_sheets2_size v_sheets3_bits v_sheets3_size v_sheets0_numbers v_sheets1_numbers v_sheets2_numbers v_sheets3_numbers v_findings)
  else (
  gCp x2 x4 x5 40 40 (
  some (x5, (v_sheets0_numbers, v_sheets1_numbers, (va_cpy v_sheets0_numbers v_sheets2_numbers x2.toNatClampNeg x4.toNatClampNeg x5.toNatClampNeg), v_sheets3_numbers, v_findings))))))))))
  else (
  bR (fX4_found v_findings (-1000000003)) (fun r38 k38 =>
  some (r38, (v_sheets0_numbers, v_sheets1_numbers, v_sheets2_numbers, v_sheets3_numbers, k38))))))
  else (
  fX4_copy_45 v_sheets0_bits v_sheets0_size v_sheets1_bits v_sheets1_size v_sheets2_bits v_sheets2_size v_sheets3_bits v_sheets3_size v_sheets0_numbers v_sheets1_numbers v_sheets2_numbers v_sheets3_numbers v_findings))))
  (bR (fX1_isMissing v_sheets3_bits) (fun r39 k39 =>
  (if r39 = 0 then (
  (if v_sheets0_bits = v_sheets3_bits then (
  bR (fX1_hasRun v_sheets0_size x2 x5) (fun r42 k42 =>
  (if r42 = 0 then (
  fX4_copy_111 v_sheets0_bits v_sheets0_size v_sheets1_bits v_sheets1_size v_sheets2_bits v_sheets2_size v_sheets3_bits v_sheets3_size v_sheets0_numbers v_sheets1_numbers v_sheets2_numbers v_sheets3_numbers v_findings)
  else (
  bR (fX1_hasRun v_sheets3_size x4 x5) (fun r44 k44 =>
  (if r44 = 0 then (
  fX4_copy_111 v_sheets0_bits v_sheets0_size v_sheets1_bits v_sheets1_size v_sheets2_bits v_sheets2_size v_sheets3_bits v_sheets3_size v_sheets0_numbers v_sheets1_numbers v_sheets2_numbers v_sheets3_numbers v_findings)
  else (
  gCp x2 x4 x5 40 40 (
  some (x5, (v_sheets0_numbers, v_sheets1_numbers, v_sheets2_numbers, (va_cpy v_sheets0_numbers v_sheets3_numbers x2.toNatClampNeg x4.toNatClampNeg x5.toNatClampNeg), v_findings))))))))))
  else (
  bR (fX4_found v_findings (-1000000003)) (fun r47 k47 =>
  some (r47, (v_sheets0_numbers, v_sheets1_numbers, v_sheets2_numbers, v_sheets3_numbers, k47))))))
  else (
  fX4_copy_45 v_sheets0_bits v_sheets0_size v_sheets1_bits v_sheets1_size v_sheets2_bits v_sheets2_size v_sheets3_bits v_sheets3_size v_sheets0_numbers v_sheets1_numbers v_sheets2_numbers v_sheets3_numbers v_findings)))))
  else (
  fX4_copy_45 v_sheets0_bits v_sheets0_size v_sheets1_bits v_sheets1_size v_sheets2_bits v_sheets2_size v_sheets3_bits v_sheets3_size v_sheets0_numbers v_sheets1_numbers v_sheets2_numbers v_sheets3_numbers v_findings))))
  (bR (fX1_isMissing v_sheets1_bits) (fun r48 k48 =>
  (if r48 = 0 then (
  sel4 x3 (
  bR (fX1_isMissing v_sheets0_bits) (fun r51 k51 =>
  (if r51 = 0 then (
  (if v_sheets1_bits = v_sheets0_bits then (
  bR (fX1_hasRun v_sheets1_size x2 x5) (fun r54 k54 =>
  (if r54 = 0 then (
  fX4_copy_111 v_sheets0_bits v_sheets0_size v_sheets1_bits v_sheets1_size v_sheets2_bits v_sheets2_size v_sheets3_bits v_sheets3_size v_sheets0_numbers v_sheets1_numbers v_sheets2_numbers v_sheets3_numbers v_findings)
  else (
  bR (fX1_hasRun v_sheets0_size x4 x5) (fun r56 k56 =>
  (if r56 = 0 then (
  fX4_copy_111 v_sheets0_bits v_sheets0_size v_sheets1_bits v_sheets1_size v_sheets2_bits v_sheets2_size v_sheets3_bits v_sheets3_size v_sheets0_numbers v_sheets1_numbers v_sheets2_numbers v_sheets3_numbers v_findings)
  else (
  gCp x2 x4 x5 40 40 (
  some (x5, ((va_cpy v_sheets1_numbers v_sheets0_numbers x2.toNatClampNeg x4.toNatClampNeg x5.toNatClampNeg), v_sheets1_numbers, v_sheets2_numbers, v_sheets3_numbers, v_findings))))))))))
  else (
  bR (fX4_found v_findings (-1000000003)) (fun r59 k59 =>
  some (r59, (v_sheets0_numbers, v_sheets1_numbers, v_sheets2_numbers, v_sheets3_numbers, k59))))))
  else (
  fX4_copy_45 v_sheets0_bits v_sheets0_size v_sheets1_bits v_sheets1_size v_sheets2_bits v_sheets2_size v_sheets3_bits v_sheets3_size v_sheets0_numbers v_sheets1_numbers v_sheets2_numbers v_sheets3_numbers v_findings))))
  (bR (fX1_isMissing v_sheets1_bits) (fun r60 k60 =>
  (if r60 = 0 then (
  (if v_sheets1_bits = v_sheets1_bits then (
  bR (fX1_hasRun v_sheets1_size x2 x5) (fun r63 k63 =>
  (if r63 = 0 then (
  fX4_copy_111 v_sheets0_bits v_sheets0_size v_sheets1_bits v_sheets1_size v_sheets2_bits v_sheets2_size v_sheets3_bits v_sheets3_size v_sheets0_numbers v_sheets1_numbers v_sheets2_numbers v_sheets3_numbers v_findings)
  else (
  bR (fX1_hasRun v_sheets1_size x4 x5) (fun r65 k65 =>
  (if r65 = 0 then (
  fX4_copy_111 v_sheets0_bits v_sheets0_size v_sheets1_bits v_sheets1_size v_sheets2_bits v_sheets2_size v_sheets3_bits v_sheets3_size v_sheets0_numbers v_sheets1_numbers v_sheets2_numbers v_sheets3_numbers v_findings)
  else (
  gCp x2 x4 x5 40 40 (
  some (x5, (v_sheets0_numbers, (va_cpy v_sheets1_numbers v_sheets1_numbers x2.toNatClampNeg x4.toNatClampNeg x5.toNatClampNeg), v_sheets2_numbers, v_sheets3_numbers, v_findings))))))))))
  else (
  bR (fX4_found v_findings (-1000000003)) (fun r68 k68 =>
  some (r68, (v_sheets0_numbers, v_sheets1_numbers, v_sheets2_numbers, v_sheets3_numbers, k68))))))
  else (
  fX4_copy_45 v_sheets0_bits v_sheets0_size v_sheets1_bits v_sheets1_size v_sheets2_bits v_sheets2_size v_sheets3_bits v_sheets3_size v_sheets0_numbers v_sheets1_numbers v_sheets2_numbers v_sheets3_numbers v_findings))))
  (bR (fX1_isMissing v_sheets2_bits) (fun r69 k69 =>
  (if r69 = 0 then (
  (if v_sheets1_bits = v_sheets2_bits then (
  bR (fX1_hasRun v_sheets1_size x2 x5) (fun r72 k72 =>
  (if r72 = 0 then (
  fX4_copy_111 v_sheets0_bits v_sheets0_size v_sheets1_bits v_sheets1_size v_sheets2_bits v_sheets2_size v_sheets3_bits v_sheets3_size v_sheets0_numbers v_sheets1_numbers v_sheets2_numbers v_sheets3_numbers v_findings)
  else (
  bR (fX1_hasRun v_sheets2_size x4 x5) (fun r74 k74 =>
  (if r74 = 0 then (
  fX4_copy_111 v_sheets0_bits v_sheets0_size v_sheets1_bits v_sheets1_size v_sheets2_bits v_sheets2_size v_sheets3_bits v_sheets3_size v_sheets0_numbers v_sheets1_numbers v_sheets2_numbers v_sheets3_numbers v_findings)
  else (
  gCp x2 x4 x5 40 40 (
  some (x5, (v_sheets0_numbers, v_sheets1_numbers, (va_cpy v_sheets1_numbers v_sheets2_numbers x2.toNatClampNeg x4.toNatClampNeg x5.toNatClampNeg), v_sheets3_numbers, v_findings))))))))))
  else (
  bR (fX4_found v_findings (-1000000003)) (fun r77 k77 =>
  some (r77, (v_sheets0_numbers, v_sheets1_numbers, v_sheets2_numbers, v_sheets3_numbers, k77))))))
  else (
  fX4_copy_45 v_sheets0_bits v_sheets0_size v_sheets1_bits v_sheets1_size v_sheets2_bits v_sheets2_size v_sheets3_bits v_sheets3_size v_sheets0_numbers v_sheets1_numbers v_sheets2_numbers v_sheets3_numbers v_findings))))
  (bR (fX1_isMissing v_sheets3_bits) (fun r78 k78 =>
  (if r78 = 0 then (
  (if v_sheets1_bits = v_sheets3_bits then (
  bR (fX1_hasRun v_sheets1_size x2 x5) (fun r81 k81 =>
  (if r81 = 0 then (
  fX4_copy_111 v_sheets0_bits v_sheets0_size v_sheets1_bits v_sheets1_size v_sheets2_bits v_sheets2_size v_sheets3_bits v_sheets3_size v_sheets0_numbers v_sheets1_numbers v_sheets2_numbers v_sheets3_numbers v_findings)
  else (
  bR (fX1_hasRun v_sheets3_size x4 x5) (fun r83 k83 =>
  (if r83 = 0 then (
  fX4_copy_111 v_sheets0_bits v_sheets0_size v_sheets1_bits v_sheets1_size v_sheets2_bits v_sheets2_size v_sheets3_bits v_sheets3_size v_sheets0_numbers v_sheets1_numbers v_sheets2_numbers v_sheets3_numbers v_findings)
  else (
  gCp x2 x4 x5 40 40 (
  some (x5, (v_sheets0_numbers, v_sheets1_numbers, v_sheets2_numbers, (va_cpy v_sheets1_numbers v_sheets3_numbers x2.toNatClampNeg x4.toNatClampNeg x5.toNatClampNeg), v_findings))))))))))
  else (
  bR (fX4_found v_findings (-1000000003)) (fun r86 k86 =>
  some (r86, (v_sheets0_numbers, v_sheets1_numbers, v_sheets2_numbers, v_sheets3_numbers, k86))))))
  else (
  fX4_copy_45 v_sheets0_bits v_sheets0_size v_sheets1_bits v_sheets1_size v_sheets2_bits v_sheets2_size v_sheets3_bits v_sheets3_size v_sheets0_numbers v_sheets1_numbers v_sheets2_numbers v_sheets3_numbers v_findings)))))
  else (
  fX4_copy_45 v_sheets0_bits v_sheets0_size v_sheets1_bits v_sheets1_size v_sheets2_bits v_sheets2_size v_sheets3_bits v_sheets3_size v_sheets0_numbers v_sheets1_numbers v_sheets2_numbers v_sheets3_numbers v_findings))))
  (bR (fX1_isMissing v_sheets2_bits) (fun r87 k87 =>
  (if r87 = 0 then (
  sel4 x3 (
  bR (fX1_isMissing v_sheets0_bits) (fun r90 k90 =>
  (if r90 = 0 then (
  (if v_sheets2_bits = v_sheets0_bits then (
  bR (fX1_hasRun v_sheets2_size x2 x5) (fun r93 k93 =>
  (if r93 = 0 then (
  fX4_copy_111 v_sheets0_bits v_sheets0_size v_sheets1_bits v_sheets1_size v_sheets2_bits v_sheets2_size v_sheets3_bits v_sheets3_size v_sheets0_numbers v_sheets1_numbers v_sheets2_numbers v_sheets3_numbers v_findings)
  else (
  bR (fX1_hasRun v_sheets0_size x4 x5) (fun r95 k95 =>
  (if r95 = 0 then (
  fX4_copy_111 v_sheets0_bits v_sheets0_size v_sheets1_bits v_sheets1_size v_sheets2_bits v_sheets2_size v_sheets3_bits v_sheets3_size v_sheets0_numbers v_sheets1_numbers v_sheets2_numbers v_sheets3_numbers v_findings)
  else (
  gCp x2 x4 x5 40 40 (
  some (x5, ((va_cpy v_sheets2_numbers v_sheets0_numbers x2.toNatClampNeg x4.toNatClampNeg x5.toNatClampNeg), v_sheets1_numbers, v_sheets2_numbers, v_sheets3_numbers, v_findings))))))))))
  else (
  bR (fX4_found v_findings (-1000000003)) (fun r98 k98 =>
  some (r98, (v_sheets0_numbers, v_sheets1_numbers, v_sheets2_numbers, v_sheets3_numbers, k98))))))
  else (
  fX4_copy_45 v_sheets0_bits v_sheets0_size v_sheets1_bits v_sheets1_size v_sheets2_bits v_sheets2_size v_sheets3_bits v_sheets3_size v_sheets0_numbers v_sheets1_numbers v_sheets2_numbers v_sheets3_numbers v_findings))))
  (bR (fX1_isMissing v_sheets1_bits) (fun r99 k99 =>
  (if r99 = 0 then (
  (if v_sheets2_bits = v_sheets1_bits then (
  bR (fX1_hasRun v_sheets2_size x2 x5) (fun r102 k102 =>
  (if r102 = 0 then (
  fX4_copy_111 v_sheets0_bits v_sheets0_size v_sheets1_bits v_sheets1_size v_sheets2_bits v_sheets2_size v_sheets3_bits v_sheets3_size v_sheets0_numbers v_sheets1_numbers v_sheets2_numbers v_sheets3_numbers v_findings)
  else (
  bR (fX1_hasRun v_sheets1_size x4 x5) (fun r104 k104 =>
  (if r104 = 0 then (
  fX4_copy_111 v_sheets0_bits v_sheets0_size v_sheets1_bits v_sheets1_size v_sheets2_bits v_sheets2_size v_sheets3_bits v_sheets3_size v_sheets0_numbers v_sheets1_numbers v_sheets2_numbers v_sheets3_numbers v_findings)
  else (
  gCp x2 x4 x5 40 40 (
  some (x5, (v_sheets0_numbers, (va_cpy v_sheets2_numbers v_sheets1_numbers x2.toNatClampNeg x4.toNatClampNeg x5.toNatClampNeg), v_sheets2_numbers, v_sheets3_numbers, v_findings))))))))))
  else (
  bR (fX4_found v_findings (-1000000003)) (fun r107 k107 =>
  some (r107, (v_sheets0_numbers, v_sheets1_numbers, v_sheets2_numbers, v_sheets3_numbers, k107))))))
  else (
  fX4_copy_45 v_sheets0_bits v_sheets0_size v_sheets1_bits v_sheets1_size v_sheets2_bits v_sheets2_size v_sheets3_bits v_sheets3_size v_sheets0_numbers v_sheets1_numbers v_sheets2_numbers v_sheets3_numbers v_findings))))
  (bR (fX1_isMissing v_sheets2_bits) (fun r108 k108 =>
  (if r108 = 0 then (
  (if v_sheets2_bits = v_sheets2_bits then (
  bR (fX1_hasRun v_sheets2_size x2 x5) (fun r111 k111 =>
  (if r111 = 0 then (
  fX4_copy_111 v_sheets0_bits v_sheets0_size v_sheets1_bits v_sheets1_size v_sheets2_bits v_sheets2_size v_sheets3_bits v_sheets3_size v_sheets0_numbers v_sheets1_numbers v_sheets2_numbers v_sheets3_numbers v_findings)
  else (
  bR (fX1_hasRun v_sheets2_size x4 x5) (fun r113 k113 =>
  (if r113 = 0 then (
  fX4_copy_111 v_sheets0_bits v_sheets0_size v_sheets1_bits v_sheets1_size v_sheets2_bits v_sheets2_size v_sheets3_bits v_sheets3_size v_sheets0_numbers v_sheets1_numbers v_sheets2_numbers v_sheets3_numbers v_findings)
  else (
  gCp x2 x4 x5 40 40 (
  some (x5, (v_sheets0_numbers, v_sheets1_numbers, (va_cpy v_sheets2_numbers v_sheets2_numbers x2.toNatClampNeg x4.toNatClampNeg x5.toNatClampNeg), v_sheets3_numbers, v_findings))))))))))
  else (
  bR (fX4_found v_findings (-1000000003)) (fun r116 k116 =>
  some (r116, (v_sheets0_numbers, v_sheets1_numbers, v_sheets2_numbers, v_sheets3_numbers, k116))))))
  else (
  fX4_copy_45 v_sheets0_bits v_sheets0_size v_sheets1_bits v_sheets1_size v_sheets2_bits v_sheets2_size v_sheets3_bits v_sheets3_size v_sheets0_numbers v_sheets1_numbers v_sheets2_numbers v_sheets3_numbers v_findings))))
  (bR (fX1_isMissing v_sheets3_bits) (fun r117 k117 =>
  (if r117 = 0 then (
  (if v_sheets2_bits = v_sheets3_bits then (
  bR (fX1_hasRun v_sheets2_size x2 x5) (fun r120 k120 =>
  (if r120 = 0 then (
  fX4_copy_111 v_sheets0_bits v_sheets0_size v_sheets1_bits v_sheets1_size v_sheets2_bits v_sheets2_size v_sheets3_bits v_sheets3_size v_sheets0_numbers v_sheets1_numbers v_sheets2_numbers v_sheets3_numbers v_findings)
  else (
  bR (fX1_hasRun v_sheets3_size x4 x5) (fun r122 k122 =>
  (if r122 = 0 then (
  fX4_copy_111 v_sheets0_bits v_sheets0_size v_sheets1_bits v_sheets1_size v_sheets2_bits v_sheets2_size v_sheets3_bits v_sheets3_size v_sheets0_numbers v_sheets1_numbers v_sheets2_numbers v_sheets3_numbers v_findings)
  else (
  gCp x2 x4 x5 40 40 (
  some (x5, (v_sheets0_numbers, v_sheets1_numbers, v_sheets2_numbers, (va_cpy v_sheets2_numbers v_sheets3_numbers x2.toNatClampNeg x4.toNatClampNeg x5.toNatClampNeg), v_findings))))))))))
  else (
  bR (fX4_found v_findings (-1000000003)) (fun r125 k125 =>
  some (r125, (v_sheets0_numbers, v_sheets1_numbers, v_sheets2_numbers, v_sheets3_numbers, k125))))))
  else (
  fX4_copy_45 v_sheets0_bits v_sheets0_size v_sheets1_bits v_sheets1_size v_sheets2_bits v_sheets2_size v_sheets3_bits v_sheets3_size v_sheets0_numbers v_sheets1_numbers v_sheets2_numbers v_sheets3_numbers v_findings)))))
  else (
  fX4_copy_45 v_sheets0_bits v_sheets0_size v_sheets1_bits v_sheets1_size v_sheets2_bits v_sheets2_size v_sheets3_bits v_sheets3_size v_sheets0_numbers v_sheets1_numbers v_sheets2_numbers v_sheets3_numbers v_findings))))
  (bR (fX1_isMissing v_sheets3_bits) (fun r126 k126 =>
  (if r126 = 0 then (
  sel4 x3 (
  bR (fX1_isMissing v_sheets0_bits) (fun r129 k129 =>
  (if r129 = 0 then (
  (if v_sheets3_bits = v_sheets0_bits then (
  bR (fX1_hasRun v_sheets3_size x2 x5) (fun r132 k132 =>
  (if r132 = 0 then (
  fX4_copy_111 v_sheets0_bits v_sheets0_size v_sheets1_bits v_sheets1_size v_sheets2_bits v_sheets2_size v_sheets3_bits v_sheets3_size v_sheets0_numbers v_sheets1_numbers v_sheets2_numbers v_sheets3_numbers v_findings)
  else (
  bR (fX1_hasRun v_sheets0_size x4 x5) (fun r134 k134 =>
  (if r134 = 0 then (
  fX4_copy_111 v_sheets0_bits v_sheets0_size v_sheets1_bits v_sheets1_size v_sheets2_bits v_sheets2_size v_sheets3_bits v_sheets3_size v_sheets0_numbers v_sheets1_numbers v_sheets2_numbers v_sheets3_numbers v_findings)
  else (
  gCp x2 x4 x5 40 40 (
  some (x5, ((va_cpy v_sheets3_numbers v_sheets0_numbers x2.toNatClampNeg x4.toNatClampNeg x5.toNatClampNeg), v_sheets1_numbers, v_sheets2_numbers, v_sheets3_numbers, v_findings))))))))))
  else (
  bR (fX4_found v_findings (-1000000003)) (fun r137 k137 =>
  some (r137, (v_sheets0_numbers, v_sheets1_numbers, v_sheets2_numbers, v_sheets3_numbers, k137))))))
  else (
  fX4_copy_45 v_sheets0_bits v_sheets0_size v_sheets1_bits v_sheets1_size v_sheets2_bits v_sheets2_size v_sheets3_bits v_sheets3_size v_sheets0_numbers v_sheets1_numbers v_sheets2_numbers v_sheets3_numbers v_findings))))
  (bR (fX1_isMissing v_sheets1_bits) (fun r138 k138 =>
  (if r138 = 0 then (
  (if v_sheets3_bits = v_sheets1_bits then (
  bR (fX1_hasRun v_sheets3_size x2 x5) (fun r141 k141 =>
  (if r141 = 0 then (
  fX4_copy_111 v_sheets0_bits v_sheets0_size v_sheets1_bits v_sheets1_size v_sheets2_bits v_sheets2_size v_sheets3_bits v_sheets3_size v_sheets0_numbers v_sheets1_numbers v_sheets2_numbers v_sheets3_numbers v_findings)
  else (
  bR (fX1_hasRun v_sheets1_size x4 x5) (fun r143 k143 =>
  (if r143 = 0 then (
  fX4_copy_111 v_sheets0_bits v_sheets0_size v_sheets1_bits v_sheets1_size v_sheets2_bits v_sheets2_size v_sheets3_bits v_sheets3_size v_sheets0_numbers v_sheets1_numbers v_sheets2_numbers v_sheets3_numbers v_findings)
  else (
  gCp x2 x4 x5 40 40 (
  some (x5, (v_sheets0_numbers, (va_cpy v_sheets3_numbers v_sheets1_numbers x2.toNatClampNeg x4.toNatClampNeg x5.toNatClampNeg), v_sheets2_numbers, v_sheets3_numbers, v_findings))))))))))
  else (
  bR (fX4_found v_findings (-1000000003)) (fun r146 k146 =>
  some (r146, (v_sheets0_numbers, v_sheets1_numbers, v_sheets2_numbers, v_sheets3_numbers, k146))))))
  else (
  fX4_copy_45 v_sheets0_bits v_sheets0_size v_sheets1_bits v_sheets1_size v_sheets2_bits v_sheets2_size v_sheets3_bits v_sheets3_size v_sheets0_numbers v_sheets1_numbers v_sheets2_numbers v_sheets3_numbers v_findings))))
  (bR (fX1_isMissing v_sheets2_bits) (fun r147 k147 =>
  (if r147 = 0 then (
  (if v_sheets3_bits = v_sheets2_bits then (
  bR (fX1_hasRun v_sheets3_size x2 x5) (fun r150 k150 =>
  (if r150 = 0 then (
  fX4_copy_111 v_sheets0_bits v_sheets0_size v_sheets1_bits v_sheets1_size v_sheets2_bits v_sheets2_size v_sheets3_bits v_sheets3_size v_sheets0_numbers v_sheets1_numbers v_sheets2_numbers v_sheets3_numbers v_findings)
  else (
  bR (fX1_hasRun v_sheets2_size x4 x5) (fun r152 k152 =>
  (if r152 = 0 then (
  fX4_copy_111 v_sheets0_bits v_sheets0_size v_sheets1_bits v_sheets1_size v_sheets2_bits v_sheets2_size v_sheets3_bits v_sheets3_size v_sheets0_numbers v_sheets1_numbers v_sheets2_numbers v_sheets3_numbers v_findings)
  else (
  gCp x2 x4 x5 40 40 (
  some (x5, (v_sheets0_numbers, v_sheets1_numbers, (va_cpy v_sheets3_numbers v_sheets2_numbers x2.toNatClampNeg x4.toNatClampNeg x5.toNatClampNeg), v_sheets3_numbers, v_findings))))))))))
  else (
  bR (fX4_found v_findings (-1000000003)) (fun r155 k155 =>
  some (r155, (v_sheets0_numbers, v_sheets1_numbers, v_sheets2_numbers, v_sheets3_numbers, k155))))))
  else (
  fX4_copy_45 v_sheets0_bits v_sheets0_size v_sheets1_bits v_sheets1_size v_sheets2_bits v_sheets2_size v_sheets3_bits v_sheets3_size v_sheets0_numbers v_sheets1_numbers v_sheets2_numbers v_sheets3_numbers v_findings))))
  (bR (fX1_isMissing v_sheets3_bits) (fun r156 k156 =>
  (if r156 = 0 then (
  (if v_sheets3_bits = v_sheets3_bits then (
  bR (fX1_hasRun v_sheets3_size x2 x5) (fun r159 k159 =>
  (if r159 = 0 then (
  fX4_copy_111 v_sheets0_bits v_sheets0_size v_sheets1_bits v_sheets1_size v_sheets2_bits v_sheets2_size v_sheets3_bits v_sheets3_size v_sheets0_numbers v_sheets1_numbers v_sheets2_numbers v_sheets3_numbers v_findings)
  else (
  bR (fX1_hasRun v_sheets3_size x4 x5) (fun r161 k161 =>
  (if r161 = 0 then (
  fX4_copy_111 v_sheets0_bits v_sheets0_size v_sheets1_bits v_sheets1_size v_sheets2_bits v_sheets2_size v_sheets3_bits v_sheets3_size v_sheets0_numbers v_sheets1_numbers v_sheets2_numbers v_sheets3_numbers v_findings)
  else (
  gCp x2 x4 x5 40 40 (
  some (x5, (v_sheets0_numbers, v_sheets1_numbers, v_sheets2_numbers, (va_cpy v_sheets3_numbers v_sheets3_numbers x2.toNatClampNeg x4.toNatClampNeg x5.toNatClampNeg), v_findings))))))))))
  else (
  bR (fX4_found v_findings (-1000000003)) (fun r164 k164 =>
  some (r164, (v_sheets0_numbers, v_sheets1_numbers, v_sheets2_numbers, v_sheets3_numbers, k164))))))
  else (
  fX4_copy_45 v_sheets0_bits v_sheets0_size v_sheets1_bits v_sheets1_size v_sheets2_bits v_sheets2_size v_sheets3_bits v_sheets3_size v_sheets0_numbers v_sheets1_numbers v_sheets2_numbers v_sheets3_numbers v_findings)))))
  else (
  fX4_copy_45 v_sheets0_bits v_sheets0_size v_sheets1_bits v_sheets1_size v_sheets2_bits v_sheets2_size v_sheets3_bits v_sheets3_size v_sheets0_numbers v_sheets1_numbers v_sheets2_numbers v_sheets3_numbers v_findings))))))))))
set_option maxRecDepth 100000 in
set_option maxHeartbeats 4000000 in
theorem tX4_copy (l : Launch) (D : va_G) (cI cJ cZ cS : ClassId) (tb : Nat) (a_t a_party a_kept a_tape a_telephone a_sheets a_sheets0 a_sheets0_numbers a_sheets1 a_sheets1_numbers a_sheets2 a_sheets2_numbers a_sheets3 a_sheets3_numbers a_findings : Nat) (sz : Nat) (v_isKept : Int32) (v_sheets0_bits : Int32) (v_sheets0_size : Int32) (v_sheets0_numbers : Nat → Int64) (v_sheets1_bits : Int32) (v_sheets1_size : Int32) (v_sheets1_numbers : Nat → Int64) (v_sheets2_bits : Int32) (v_sheets2_size : Int32) (v_sheets2_numbers : Nat → Int64) (v_sheets3_bits : Int32) (v_sheets3_size : Int32) (v_sheets3_numbers : Nat → Int64) (v_findings : Nat → Int32) (x1 : Int32) (x2 : Int32) (x3 : Int32) (x4 : Int32) (x5 : Int32) (rr : Int32) (kk' : (Nat → Int64) × (Nat → Int64) × (Nat → Int64) × (Nat → Int64) × (Nat → Int32)) (hf : fX4_copy v_sheets0_bits v_sheets0_size v_sheets0_numbers v_sheets1_bits v_sheets1_size v_sheets1_numbers v_sheets2_bits v_sheets2_size v_sheets2_numbers v_sheets3_bits v_sheets3_size v_sheets3_numbers v_findings x1 x2 x3 x4 x5 = some (rr, kk')) : Met l yX4_copy (Cond.code yX4_copy cX4_copy 6 (some .int) :: wA) rX4_copy (q_Pre D cI cJ cZ cS tb [.ref a_t, .int x1, .int x2, .int x3, .int x4, .int x5] sz (wX4_copy cI cJ cZ cS a_t a_party a_kept a_tape a_telephone a_sheets a_sheets0 a_sheets0_numbers a_sheets1 a_sheets1_numbers a_sheets2 a_sheets2_numbers a_sheets3 a_sheets3_numbers a_findings v_isKept v_sheets0_bits v_sheets0_size v_sheets0_numbers v_sheets1_bits v_sheets1_size v_sheets1_numbers v_sheets2_bits v_sheets2_size v_sheets2_numbers v_sheets3_bits v_sheets3_size v_sheets3_numbers v_findings)) (q_Ri D rr (va_A (wX4_copy cI cJ cZ cS a_t a_party a_kept a_tape a_telephone a_sheets a_sheets0 a_sheets0_numbers a_sheets1 a_sheets1_numbers a_sheets2 a_sheets2_numbers a_sheets3 a_sheets3_numbers a_findings v_isKept v_sheets0_bits v_sheets0_size v_sheets0_numbers v_sheets1_bits v_sheets1_size v_sheets1_numbers v_sheets2_bits v_sheets2_size v_sheets2_numbers v_sheets3_bits v_sheets3_size v_sheets3_numbers v_findings) sz) ((fun k : (Nat → Int64) × (Nat → Int64) × (Nat → Int64) × (Nat → Int64) × (Nat → Int32) => (wX4_copy cI cJ cZ cS a_t a_party a_kept a_tape a_telephone a_sheets a_sheets0 a_sheets0_numbers a_sheets1 a_sheets1_numbers a_sheets2 a_sheets2_numbers a_sheets3 a_sheets3_numbers a_findings v_isKept v_sheets0_bits v_sheets0_size k.1 v_sheets1_bits v_sheets1_size k.2.1 v_sheets2_bits v_sheets2_size k.2.2.1 v_sheets3_bits v_sheets3_size k.2.2.2.1 k.2.2.2.2)) kk')) 0 0 (va_A (wX4_copy cI cJ cZ cS a_t a_party a_kept a_tape a_telephone a_sheets a_sheets0 a_sheets0_numbers a_sheets1 a_sheets1_numbers a_sheets2 a_sheets2_numbers a_sheets3 a_sheets3_numbers a_findings v_isKept v_sheets0_bits v_sheets0_size v_sheets0_numbers v_sheets1_bits v_sheets1_size v_sheets1_numbers v_sheets2_bits v_sheets2_size v_sheets2_numbers v_sheets3_bits v_sheets3_size v_sheets3_numbers v_findings) sz) := by
  refine q_enter (Qf := fun A => (q_Ri D rr A ((fun k : (Nat → Int64) × (Nat → Int64) × (Nat → Int64) × (Nat → Int64) × (Nat → Int32) => (wX4_copy cI cJ cZ cS a_t a_party a_kept a_tape a_telephone a_sheets a_sheets0 a_sheets0_numbers a_sheets1 a_sheets1_numbers a_sheets2 a_sheets2_numbers a_sheets3 a_sheets3_numbers a_findings v_isKept v_sheets0_bits v_sheets0_size k.1 v_sheets1_bits v_sheets1_size k.2.1 v_sheets2_bits v_sheets2_size k.2.2.1 v_sheets3_bits v_sheets3_size k.2.2.2.1 k.2.2.2.2)) kk'))) (by decide) rfl (Nat.le_of_ble_eq_true rfl) ?_
  intro p e s m below meth c A ls fx hname h hl
  have hx := fx.1
  have hb := fx.2.1
  have hl : lv_has ls 6 [(0, .ref a_t), (1, .int x1), (2, .int x2), (3, .int x3), (4, .int x4), (5, .int x5)] := hl
  generalize h9 : s.heap = H at h ⊢
  clear h9
  generalize h9 : ([] : List Loc) = locs at h ⊢
  clear h9
  unfold fX4_copy at hf
  refine lv_iload_n hx hb dX4_copy_0 rfl (lv_at hl 1 rfl) ?_
  obtain ⟨r4, k4, hg, hf⟩ := bR_inv hf
  refine q_ci (rest := []) (ws' := (wX4_copy cI cJ cZ cS a_t a_party a_kept a_tape a_telephone a_sheets a_sheets0 a_sheets0_numbers a_sheets1 a_sheets1_numbers a_sheets2 a_sheets2_numbers a_sheets3 a_sheets3_numbers a_findings v_isKept v_sheets0_bits v_sheets0_size v_sheets0_numbers v_sheets1_bits v_sheets1_size v_sheets1_numbers v_sheets2_bits v_sheets2_size v_sheets2_numbers v_sheets3_bits v_sheets3_size v_sheets3_numbers v_findings)) (w1 := (wX4_isSheet cI cJ cZ cS)) fx h [] rfl rfl rfl rfl (q_runS fx h hl.1 [] rfl rfl (tX4_isSheet l D cI cJ cZ cS tb H.size x1 r4 k4 hg) msX4_isSheet k_536 ⟨rfl, rfl⟩ ⟨Nat.le_of_ble_eq_true rfl, Nat.le_of_ble_eq_true rfl⟩ rfl rfl (Nat.le_of_ble_eq_true rfl) dX4_copy_1 ⟨Nat.le_of_ble_eq_true rfl, Nat.le_of_ble_eq_true rfl⟩) (fun H locs h => ?_)
  refine lv_if_eq (tgt := 14) hx hb dX4_copy_4 (by decide) (fun c5 => ?_) (fun c5 => ?_)
  · have hf := it_t c5 hf
    exact LX4_copy_14 fx h (lv_sub hl [0] rfl) hf
  have hf := it_f c5 hf
  refine lv_iload_n hx hb dX4_copy_7 rfl (lv_at hl 3 rfl) ?_
  obtain ⟨r6, k6, hg, hf⟩ := bR_inv hf
  refine q_ci (rest := []) (ws' := (wX4_copy cI cJ cZ cS a_t a_party a_kept a_tape a_telephone a_sheets a_sheets0 a_sheets0_numbers a_sheets1 a_sheets1_numbers a_sheets2 a_sheets2_numbers a_sheets3 a_sheets3_numbers a_findings v_isKept v_sheets0_bits v_sheets0_size v_sheets0_numbers v_sheets1_bits v_sheets1_size v_sheets1_numbers v_sheets2_bits v_sheets2_size v_sheets2_numbers v_sheets3_bits v_sheets3_size v_sheets3_numbers v_findings)) (w1 := (wX4_isSheet cI cJ cZ cS)) fx h [] rfl rfl rfl rfl (q_runS fx h hl.1 [] rfl rfl (tX4_isSheet l D cI cJ cZ cS tb H.size x3 r6 k6 hg) msX4_isSheet k_536 ⟨rfl, rfl⟩ ⟨Nat.le_of_ble_eq_true rfl, Nat.le_of_ble_eq_true rfl⟩ rfl rfl (Nat.le_of_ble_eq_true rfl) dX4_copy_8 ⟨Nat.le_of_ble_eq_true rfl, Nat.le_of_ble_eq_true rfl⟩) (fun H locs h => ?_)
  refine lv_if_ne (tgt := 21) hx hb dX4_copy_11 (by decide) (fun c7 => ?_) (fun c7 => ?_)
  · have hf := it_f c7 hf
    refine lv_aload_n hx hb dX4_copy_21 rfl (lv_at hl 0 rfl) ?_
    refine q_get (v := .ref a_sheets) fx inX4 h 0 rfl rfl 5 (by decide) k_179 rfl dX4_copy_22 ?_
    refine lv_iload_n hx hb dX4_copy_25 rfl (lv_at hl 1 rfl) ?_
    rcases sel4_inv hf with ⟨c8, hf⟩ | ⟨c8, hf⟩ | ⟨c8, hf⟩ | ⟨c8, hf⟩
    · refine q_aald (v := a_sheets0) fx h 1 rfl c8 (vinK (by decide)) rfl dX4_copy_26 ?_
      obtain ⟨r9, k9, hg, hf⟩ := bR_inv hf
      refine q_ci (rest := []) (ws' := (wX4_copy cI cJ cZ cS a_t a_party a_kept a_tape a_telephone a_sheets a_sheets0 a_sheets0_numbers a_sheets1 a_sheets1_numbers a_sheets2 a_sheets2_numbers a_sheets3 a_sheets3_numbers a_findings v_isKept v_sheets0_bits v_sheets0_size v_sheets0_numbers v_sheets1_bits v_sheets1_size v_sheets1_numbers v_sheets2_bits v_sheets2_size v_sheets2_numbers v_sheets3_bits v_sheets3_size v_sheets3_numbers v_findings)) (w1 := (wX1_isMissing cI cJ cZ cS a_sheets0 a_sheets0_numbers v_sheets0_bits v_sheets0_size)) fx h [2] rfl rfl rfl rfl (q_runV fx h hl.1 [2] rfl rfl (tX1_isMissing l D cI cJ cZ cS tb a_sheets0 a_sheets0_numbers H.size v_sheets0_bits v_sheets0_size r9 k9 hg) mvX1_isMissing k_553 ⟨rfl, rfl⟩ ⟨Nat.le_of_ble_eq_true rfl, Nat.le_of_ble_eq_true rfl⟩ rfl rfl rfl rfl (Nat.le_of_ble_eq_true rfl) dX4_copy_27 ⟨Nat.le_of_ble_eq_true rfl, Nat.le_of_ble_eq_true rfl⟩) (fun H locs h => ?_)
      refine lv_if_ne (tgt := 45) hx hb dX4_copy_30 (by decide) (fun c10 => ?_) (fun c10 => ?_)
      · have hf := it_f c10 hf
        exact LX4_copy_45 fx h (lv_sub hl [0] rfl) hf
      have hf := it_t c10 hf
      refine lv_aload_n hx hb dX4_copy_33 rfl (lv_at hl 0 rfl) ?_
      refine q_get (v := .ref a_sheets) fx inX4 h 0 rfl rfl 5 (by decide) k_179 rfl dX4_copy_34 ?_
      refine lv_iload_n hx hb dX4_copy_37 rfl (lv_at hl 3 rfl) ?_
      rcases sel4_inv hf with ⟨c11, hf⟩ | ⟨c11, hf⟩ | ⟨c11, hf⟩ | ⟨c11, hf⟩
      · refine q_aald (v := a_sheets0) fx h 1 rfl c11 (vinK (by decide)) rfl dX4_copy_38 ?_
        obtain ⟨r12, k12, hg, hf⟩ := bR_inv hf
        refine q_ci (rest := []) (ws' := (wX4_copy cI cJ cZ cS a_t a_party a_kept a_tape a_telephone a_sheets a_sheets0 a_sheets0_numbers a_sheets1 a_sheets1_numbers a_sheets2 a_sheets2_numbers a_sheets3 a_sheets3_numbers a_findings v_isKept v_sheets0_bits v_sheets0_size v_sheets0_numbers v_sheets1_bits v_sheets1_size v_sheets1_numbers v_sheets2_bits v_sheets2_size v_sheets2_numbers v_sheets3_bits v_sheets3_size v_sheets3_numbers v_findings)) (w1 := (wX1_isMissing cI cJ cZ cS a_sheets0 a_sheets0_numbers v_sheets0_bits v_sheets0_size)) fx h [2] rfl rfl rfl rfl (q_runV fx h hl.1 [2] rfl rfl (tX1_isMissing l D cI cJ cZ cS tb a_sheets0 a_sheets0_numbers H.size v_sheets0_bits v_sheets0_size r12 k12 hg) mvX1_isMissing k_553 ⟨rfl, rfl⟩ ⟨Nat.le_of_ble_eq_true rfl, Nat.le_of_ble_eq_true rfl⟩ rfl rfl rfl rfl (Nat.le_of_ble_eq_true rfl) dX4_copy_39 ⟨Nat.le_of_ble_eq_true rfl, Nat.le_of_ble_eq_true rfl⟩) (fun H locs h => ?_)
        refine lv_if_eq (tgt := 52) hx hb dX4_copy_42 (by decide) (fun c13 => ?_) (fun c13 => ?_)
        · have hf := it_t c13 hf
          refine lv_aload_n hx hb dX4_copy_52 rfl (lv_at hl 0 rfl) ?_
          refine q_get (v := .ref a_sheets) fx inX4 h 0 rfl rfl 5 (by decide) k_179 rfl dX4_copy_53 ?_
          refine lv_iload_n hx hb dX4_copy_56 rfl (lv_at hl 1 rfl) ?_
          refine q_aald (v := a_sheets0) fx h 1 rfl c8 (vinK (by decide)) rfl dX4_copy_57 ?_
          refine q_getN (v := .int v_sheets0_bits) fx inX1 h 2 rfl rfl 0 (by decide) nf_9 rfl dX4_copy_58 ?_
          refine lv_aload_n hx hb dX4_copy_61 rfl (lv_at hl 0 rfl) ?_
          refine q_get (v := .ref a_sheets) fx inX4 h 0 rfl rfl 5 (by decide) k_179 rfl dX4_copy_62 ?_
          refine lv_iload_n hx hb dX4_copy_65 rfl (lv_at hl 3 rfl) ?_
          refine q_aald (v := a_sheets0) fx h 1 rfl c11 (vinK (by decide)) rfl dX4_copy_66 ?_
          refine q_getN (v := .int v_sheets0_bits) fx inX1 h 2 rfl rfl 0 (by decide) nf_9 rfl dX4_copy_67 ?_
          refine lv_icmp_eq (tgt := 80) hx hb dX4_copy_70 (by decide) (fun c14 => ?_) (fun c14 => ?_)
          · have hf := it_t c14 hf
            refine lv_aload_n hx hb dX4_copy_80 rfl (lv_at hl 0 rfl) ?_
            refine q_get (v := .ref a_sheets) fx inX4 h 0 rfl rfl 5 (by decide) k_179 rfl dX4_copy_81 ?_
            refine lv_iload_n hx hb dX4_copy_84 rfl (lv_at hl 1 rfl) ?_
            refine q_aald (v := a_sheets0) fx h 1 rfl c8 (vinK (by decide)) rfl dX4_copy_85 ?_
            refine lv_iload_n hx hb dX4_copy_86 rfl (lv_at hl 2 rfl) ?_
            refine lv_iload hx hb dX4_copy_87 (lv_at hl 5 rfl) ?_
            obtain ⟨r15, k15, hg, hf⟩ := bR_inv hf
            refine q_ci (rest := []) (ws' := (wX4_copy cI cJ cZ cS a_t a_party a_kept a_tape a_telephone a_sheets a_sheets0 a_sheets0_numbers a_sheets1 a_sheets1_numbers a_sheets2 a_sheets2_numbers a_sheets3 a_sheets3_numbers a_findings v_isKept v_sheets0_bits v_sheets0_size v_sheets0_numbers v_sheets1_bits v_sheets1_size v_sheets1_numbers v_sheets2_bits v_sheets2_size v_sheets2_numbers v_sheets3_bits v_sheets3_size v_sheets3_numbers v_findings)) (w1 := (wX1_hasRun cI cJ cZ cS a_sheets0 a_sheets0_numbers v_sheets0_bits v_sheets0_size)) fx h [2] rfl rfl rfl rfl (q_runV fx h hl.1 [2] rfl rfl (tX1_hasRun l D cI cJ cZ cS tb a_sheets0 a_sheets0_numbers H.size v_sheets0_bits v_sheets0_size x2 x5 r15 k15 hg) mvX1_hasRun k_566 ⟨rfl, rfl⟩ ⟨Nat.le_of_ble_eq_true rfl, Nat.le_of_ble_eq_true rfl⟩ rfl rfl rfl rfl (Nat.le_of_ble_eq_true rfl) dX4_copy_89 ⟨Nat.le_of_ble_eq_true rfl, Nat.le_of_ble_eq_true rfl⟩) (fun H locs h => ?_)
            refine lv_if_eq (tgt := 111) hx hb dX4_copy_92 (by decide) (fun c16 => ?_) (fun c16 => ?_)
            · have hf := it_t c16 hf
              exact LX4_copy_111 fx h (lv_sub hl [0] rfl) hf
            have hf := it_f c16 hf
            refine lv_aload_n hx hb dX4_copy_95 rfl (lv_at hl 0 rfl) ?_
            refine q_get (v := .ref a_sheets) fx inX4 h 0 rfl rfl 5 (by decide) k_179 rfl dX4_copy_96 ?_
            refine lv_iload_n hx hb dX4_copy_99 rfl (lv_at hl 3 rfl) ?_
            refine q_aald (v := a_sheets0) fx h 1 rfl c11 (vinK (by decide)) rfl dX4_copy_100 ?_
            refine lv_iload hx hb dX4_copy_101 (lv_at hl 4 rfl) ?_
            refine lv_iload hx hb dX4_copy_103 (lv_at hl 5 rfl) ?_
            obtain ⟨r17, k17, hg, hf⟩ := bR_inv hf
            refine q_ci (rest := []) (ws' := (wX4_copy cI cJ cZ cS a_t a_party a_kept a_tape a_telephone a_sheets a_sheets0 a_sheets0_numbers a_sheets1 a_sheets1_numbers a_sheets2 a_sheets2_numbers a_sheets3 a_sheets3_numbers a_findings v_isKept v_sheets0_bits v_sheets0_size v_sheets0_numbers v_sheets1_bits v_sheets1_size v_sheets1_numbers v_sheets2_bits v_sheets2_size v_sheets2_numbers v_sheets3_bits v_sheets3_size v_sheets3_numbers v_findings)) (w1 := (wX1_hasRun cI cJ cZ cS a_sheets0 a_sheets0_numbers v_sheets0_bits v_sheets0_size)) fx h [2] rfl rfl rfl rfl (q_runV fx h hl.1 [2] rfl rfl (tX1_hasRun l D cI cJ cZ cS tb a_sheets0 a_sheets0_numbers H.size v_sheets0_bits v_sheets0_size x4 x5 r17 k17 hg) mvX1_hasRun k_566 ⟨rfl, rfl⟩ ⟨Nat.le_of_ble_eq_true rfl, Nat.le_of_ble_eq_true rfl⟩ rfl rfl rfl rfl (Nat.le_of_ble_eq_true rfl) dX4_copy_105 ⟨Nat.le_of_ble_eq_true rfl, Nat.le_of_ble_eq_true rfl⟩) (fun H locs h => ?_)
            refine lv_if_ne (tgt := 118) hx hb dX4_copy_108 (by decide) (fun c18 => ?_) (fun c18 => ?_)
            · have hf := it_f c18 hf
              refine lv_aload_n hx hb dX4_copy_118 rfl (lv_at hl 0 rfl) ?_
              refine q_get (v := .ref a_sheets) fx inX4 h 0 rfl rfl 5 (by decide) k_179 rfl dX4_copy_119 ?_
              refine lv_iload_n hx hb dX4_copy_122 rfl (lv_at hl 1 rfl) ?_
              refine q_aald (v := a_sheets0) fx h 1 rfl c8 (vinK (by decide)) rfl dX4_copy_123 ?_
              refine q_getN (v := .ref a_sheets0_numbers) fx inX1 h 2 rfl rfl 2 (by decide) nf_11 rfl dX4_copy_124 ?_
              refine lv_iload_n hx hb dX4_copy_127 rfl (lv_at hl 2 rfl) ?_
              refine lv_aload_n hx hb dX4_copy_128 rfl (lv_at hl 0 rfl) ?_
              refine q_get (v := .ref a_sheets) fx inX4 h 0 rfl rfl 5 (by decide) k_179 rfl dX4_copy_129 ?_
              refine lv_iload_n hx hb dX4_copy_132 rfl (lv_at hl 3 rfl) ?_
              refine q_aald (v := a_sheets0) fx h 1 rfl c11 (vinK (by decide)) rfl dX4_copy_133 ?_
              refine q_getN (v := .ref a_sheets0_numbers) fx inX1 h 2 rfl rfl 2 (by decide) nf_11 rfl dX4_copy_134 ?_
              refine lv_iload hx hb dX4_copy_137 (lv_at hl 4 rfl) ?_
              refine lv_iload hx hb dX4_copy_139 (lv_at hl 5 rfl) ?_
              obtain ⟨i19, hf⟩ := gCp_inv hf
              refine q_copyl (ws' := (wX4_copy cI cJ cZ cS a_t a_party a_kept a_tape a_telephone a_sheets a_sheets0 a_sheets0_numbers a_sheets1 a_sheets1_numbers a_sheets2 a_sheets2_numbers a_sheets3 a_sheets3_numbers a_findings v_isKept v_sheets0_bits v_sheets0_size (va_cpy v_sheets0_numbers v_sheets0_numbers x2.toNatClampNeg x4.toNatClampNeg x5.toNatClampNeg) v_sheets1_bits v_sheets1_size v_sheets1_numbers v_sheets2_bits v_sheets2_size v_sheets2_numbers v_sheets3_bits v_sheets3_size v_sheets3_numbers v_findings)) fx h hl.1 3 3 rfl rfl k_570 k_572 k_571 k_58 i19 (Nat.le_of_ble_eq_true rfl) (Nat.le_of_ble_eq_true rfl) rfl dX4_copy_141 (fun H locs h => ?_)
              refine lv_iload hx hb dX4_copy_144 (lv_at hl 5 rfl) ?_
              exact q_reti (fun k : (Nat → Int64) × (Nat → Int64) × (Nat → Int64) × (Nat → Int64) × (Nat → Int32) => (wX4_copy cI cJ cZ cS a_t a_party a_kept a_tape a_telephone a_sheets a_sheets0 a_sheets0_numbers a_sheets1 a_sheets1_numbers a_sheets2 a_sheets2_numbers a_sheets3 a_sheets3_numbers a_findings v_isKept v_sheets0_bits v_sheets0_size k.1 v_sheets1_bits v_sheets1_size k.2.1 v_sheets2_bits v_sheets2_size k.2.2.1 v_sheets3_bits v_sheets3_size k.2.2.2.1 k.2.2.2.2)) fx hf h dX4_copy_146
            have hf := it_t c18 hf
            exact LX4_copy_111 fx h (lv_sub hl [0] rfl) hf
          have hf := it_f c14 hf
          refine lv_aload_n hx hb dX4_copy_73 rfl (lv_at hl 0 rfl) ?_
          refine q_ldc fx k_269 dX4_copy_74 ?_
          obtain ⟨r20, k20, hg, hf⟩ := bR_inv hf
          refine q_ci (rest := []) (ws' := (wX4_copy cI cJ cZ cS a_t a_party a_kept a_tape a_telephone a_sheets a_sheets0 a_sheets0_numbers a_sheets1 a_sheets1_numbers a_sheets2 a_sheets2_numbers a_sheets3 a_sheets3_numbers a_findings v_isKept v_sheets0_bits v_sheets0_size v_sheets0_numbers v_sheets1_bits v_sheets1_size v_sheets1_numbers v_sheets2_bits v_sheets2_size v_sheets2_numbers v_sheets3_bits v_sheets3_size v_sheets3_numbers k20)) (w1 := (wX4_found cI cJ cZ cS a_t a_party a_kept a_tape a_telephone a_sheets a_findings v_isKept k20)) fx h [0, 10] rfl rfl rfl rfl (q_runV fx h hl.1 [0, 10] rfl rfl (tX4_found l D cI cJ cZ cS tb a_t a_party a_kept a_tape a_telephone a_sheets a_findings H.size v_isKept v_findings (-1000000003) r20 k20 hg) mvX4_found k_207 ⟨rfl, rfl⟩ ⟨Nat.le_of_ble_eq_true rfl, Nat.le_of_ble_eq_true rfl⟩ rfl rfl rfl rfl (Nat.le_of_ble_eq_true rfl) dX4_copy_76 ⟨Nat.le_of_ble_eq_true rfl, Nat.le_of_ble_eq_true rfl⟩) (fun H locs h => ?_)
          exact q_reti (fun k : (Nat → Int64) × (Nat → Int64) × (Nat → Int64) × (Nat → Int64) × (Nat → Int32) => (wX4_copy cI cJ cZ cS a_t a_party a_kept a_tape a_telephone a_sheets a_sheets0 a_sheets0_numbers a_sheets1 a_sheets1_numbers a_sheets2 a_sheets2_numbers a_sheets3 a_sheets3_numbers a_findings v_isKept v_sheets0_bits v_sheets0_size k.1 v_sheets1_bits v_sheets1_size k.2.1 v_sheets2_bits v_sheets2_size k.2.2.1 v_sheets3_bits v_sheets3_size k.2.2.2.1 k.2.2.2.2)) fx hf h dX4_copy_79
        have hf := it_f c13 hf
        exact LX4_copy_45 fx h (lv_sub hl [0] rfl) hf
      · refine q_aald (v := a_sheets1) fx h 1 rfl c11 (vinK (by decide)) rfl dX4_copy_38 ?_
        obtain ⟨r21, k21, hg, hf⟩ := bR_inv hf
        refine q_ci (rest := []) (ws' := (wX4_copy cI cJ cZ cS a_t a_party a_kept a_tape a_telephone a_sheets a_sheets0 a_sheets0_numbers a_sheets1 a_sheets1_numbers a_sheets2 a_sheets2_numbers a_sheets3 a_sheets3_numbers a_findings v_isKept v_sheets0_bits v_sheets0_size v_sheets0_numbers v_sheets1_bits v_sheets1_size v_sheets1_numbers v_sheets2_bits v_sheets2_size v_sheets2_numbers v_sheets3_bits v_sheets3_size v_sheets3_numbers v_findings)) (w1 := (wX1_isMissing cI cJ cZ cS a_sheets1 a_sheets1_numbers v_sheets1_bits v_sheets1_size)) fx h [4] rfl rfl rfl rfl (q_runV fx h hl.1 [4] rfl rfl (tX1_isMissing l D cI cJ cZ cS tb a_sheets1 a_sheets1_numbers H.size v_sheets1_bits v_sheets1_size r21 k21 hg) mvX1_isMissing k_553 ⟨rfl, rfl⟩ ⟨Nat.le_of_ble_eq_true rfl, Nat.le_of_ble_eq_true rfl⟩ rfl rfl rfl rfl (Nat.le_of_ble_eq_true rfl) dX4_copy_39 ⟨Nat.le_of_ble_eq_true rfl, Nat.le_of_ble_eq_true rfl⟩) (fun H locs h => ?_)
        refine lv_if_eq (tgt := 52) hx hb dX4_copy_42 (by decide) (fun c22 => ?_) (fun c22 => ?_)
        · have hf := it_t c22 hf
          refine lv_aload_n hx hb dX4_copy_52 rfl (lv_at hl 0 rfl) ?_
          refine q_get (v := .ref a_sheets) fx inX4 h 0 rfl rfl 5 (by decide) k_179 rfl dX4_copy_53 ?_
          refine lv_iload_n hx hb dX4_copy_56 rfl (lv_at hl 1 rfl) ?_
          refine q_aald (v := a_sheets0) fx h 1 rfl c8 (vinK (by decide)) rfl dX4_copy_57 ?_
          refine q_getN (v := .int v_sheets0_bits) fx inX1 h 2 rfl rfl 0 (by decide) nf_9 rfl dX4_copy_58 ?_
          refine lv_aload_n hx hb dX4_copy_61 rfl (lv_at hl 0 rfl) ?_
          refine q_get (v := .ref a_sheets) fx inX4 h 0 rfl rfl 5 (by decide) k_179 rfl dX4_copy_62 ?_
          refine lv_iload_n hx hb dX4_copy_65 rfl (lv_at hl 3 rfl) ?_
          refine q_aald (v := a_sheets1) fx h 1 rfl c11 (vinK (by decide)) rfl dX4_copy_66 ?_
          refine q_getN (v := .int v_sheets1_bits) fx inX1 h 4 rfl rfl 0 (by decide) nf_9 rfl dX4_copy_67 ?_
          refine lv_icmp_eq (tgt := 80) hx hb dX4_copy_70 (by decide) (fun c23 => ?_) (fun c23 => ?_)
          · have hf := it_t c23 hf
            refine lv_aload_n hx hb dX4_copy_80 rfl (lv_at hl 0 rfl) ?_
            refine q_get (v := .ref a_sheets) fx inX4 h 0 rfl rfl 5 (by decide) k_179 rfl dX4_copy_81 ?_
            refine lv_iload_n hx hb dX4_copy_84 rfl (lv_at hl 1 rfl) ?_
            refine q_aald (v := a_sheets0) fx h 1 rfl c8 (vinK (by decide)) rfl dX4_copy_85 ?_
            refine lv_iload_n hx hb dX4_copy_86 rfl (lv_at hl 2 rfl) ?_
            refine lv_iload hx hb dX4_copy_87 (lv_at hl 5 rfl) ?_
            obtain ⟨r24, k24, hg, hf⟩ := bR_inv hf
            refine q_ci (rest := []) (ws' := (wX4_copy cI cJ cZ cS a_t a_party a_kept a_tape a_telephone a_sheets a_sheets0 a_sheets0_numbers a_sheets1 a_sheets1_numbers a_sheets2 a_sheets2_numbers a_sheets3 a_sheets3_numbers a_findings v_isKept v_sheets0_bits v_sheets0_size v_sheets0_numbers v_sheets1_bits v_sheets1_size v_sheets1_numbers v_sheets2_bits v_sheets2_size v_sheets2_numbers v_sheets3_bits v_sheets3_size v_sheets3_numbers v_findings)) (w1 := (wX1_hasRun cI cJ cZ cS a_sheets0 a_sheets0_numbers v_sheets0_bits v_sheets0_size)) fx h [2] rfl rfl rfl rfl (q_runV fx h hl.1 [2] rfl rfl (tX1_hasRun l D cI cJ cZ cS tb a_sheets0 a_sheets0_numbers H.size v_sheets0_bits v_sheets0_size x2 x5 r24 k24 hg) mvX1_hasRun k_566 ⟨rfl, rfl⟩ ⟨Nat.le_of_ble_eq_true rfl, Nat.le_of_ble_eq_true rfl⟩ rfl rfl rfl rfl (Nat.le_of_ble_eq_true rfl) dX4_copy_89 ⟨Nat.le_of_ble_eq_true rfl, Nat.le_of_ble_eq_true rfl⟩) (fun H locs h => ?_)
            refine lv_if_eq (tgt := 111) hx hb dX4_copy_92 (by decide) (fun c25 => ?_) (fun c25 => ?_)
            · have hf := it_t c25 hf
              exact LX4_copy_111 fx h (lv_sub hl [0] rfl) hf
            have hf := it_f c25 hf
            refine lv_aload_n hx hb dX4_copy_95 rfl (lv_at hl 0 rfl) ?_
            refine q_get (v := .ref a_sheets) fx inX4 h 0 rfl rfl 5 (by decide) k_179 rfl dX4_copy_96 ?_
            refine lv_iload_n hx hb dX4_copy_99 rfl (lv_at hl 3 rfl) ?_
            refine q_aald (v := a_sheets1) fx h 1 rfl c11 (vinK (by decide)) rfl dX4_copy_100 ?_
            refine lv_iload hx hb dX4_copy_101 (lv_at hl 4 rfl) ?_
            refine lv_iload hx hb dX4_copy_103 (lv_at hl 5 rfl) ?_
            obtain ⟨r26, k26, hg, hf⟩ := bR_inv hf
            refine q_ci (rest := []) (ws' := (wX4_copy cI cJ cZ cS a_t a_party a_kept a_tape a_telephone a_sheets a_sheets0 a_sheets0_numbers a_sheets1 a_sheets1_numbers a_sheets2 a_sheets2_numbers a_sheets3 a_sheets3_numbers a_findings v_isKept v_sheets0_bits v_sheets0_size v_sheets0_numbers v_sheets1_bits v_sheets1_size v_sheets1_numbers v_sheets2_bits v_sheets2_size v_sheets2_numbers v_sheets3_bits v_sheets3_size v_sheets3_numbers v_findings)) (w1 := (wX1_hasRun cI cJ cZ cS a_sheets1 a_sheets1_numbers v_sheets1_bits v_sheets1_size)) fx h [4] rfl rfl rfl rfl (q_runV fx h hl.1 [4] rfl rfl (tX1_hasRun l D cI cJ cZ cS tb a_sheets1 a_sheets1_numbers H.size v_sheets1_bits v_sheets1_size x4 x5 r26 k26 hg) mvX1_hasRun k_566 ⟨rfl, rfl⟩ ⟨Nat.le_of_ble_eq_true rfl, Nat.le_of_ble_eq_true rfl⟩ rfl rfl rfl rfl (Nat.le_of_ble_eq_true rfl) dX4_copy_105 ⟨Nat.le_of_ble_eq_true rfl, Nat.le_of_ble_eq_true rfl⟩) (fun H locs h => ?_)
            refine lv_if_ne (tgt := 118) hx hb dX4_copy_108 (by decide) (fun c27 => ?_) (fun c27 => ?_)
            · have hf := it_f c27 hf
              refine lv_aload_n hx hb dX4_copy_118 rfl (lv_at hl 0 rfl) ?_
              refine q_get (v := .ref a_sheets) fx inX4 h 0 rfl rfl 5 (by decide) k_179 rfl dX4_copy_119 ?_
              refine lv_iload_n hx hb dX4_copy_122 rfl (lv_at hl 1 rfl) ?_
              refine q_aald (v := a_sheets0) fx h 1 rfl c8 (vinK (by decide)) rfl dX4_copy_123 ?_
              refine q_getN (v := .ref a_sheets0_numbers) fx inX1 h 2 rfl rfl 2 (by decide) nf_11 rfl dX4_copy_124 ?_
              refine lv_iload_n hx hb dX4_copy_127 rfl (lv_at hl 2 rfl) ?_
              refine lv_aload_n hx hb dX4_copy_128 rfl (lv_at hl 0 rfl) ?_
              refine q_get (v := .ref a_sheets) fx inX4 h 0 rfl rfl 5 (by decide) k_179 rfl dX4_copy_129 ?_
              refine lv_iload_n hx hb dX4_copy_132 rfl (lv_at hl 3 rfl) ?_
              refine q_aald (v := a_sheets1) fx h 1 rfl c11 (vinK (by decide)) rfl dX4_copy_133 ?_
              refine q_getN (v := .ref a_sheets1_numbers) fx inX1 h 4 rfl rfl 2 (by decide) nf_11 rfl dX4_copy_134 ?_
              refine lv_iload hx hb dX4_copy_137 (lv_at hl 4 rfl) ?_
              refine lv_iload hx hb dX4_copy_139 (lv_at hl 5 rfl) ?_
              obtain ⟨i28, hf⟩ := gCp_inv hf
              refine q_copyl (ws' := (wX4_copy cI cJ cZ cS a_t a_party a_kept a_tape a_telephone a_sheets a_sheets0 a_sheets0_numbers a_sheets1 a_sheets1_numbers a_sheets2 a_sheets2_numbers a_sheets3 a_sheets3_numbers a_findings v_isKept v_sheets0_bits v_sheets0_size v_sheets0_numbers v_sheets1_bits v_sheets1_size (va_cpy v_sheets0_numbers v_sheets1_numbers x2.toNatClampNeg x4.toNatClampNeg x5.toNatClampNeg) v_sheets2_bits v_sheets2_size v_sheets2_numbers v_sheets3_bits v_sheets3_size v_sheets3_numbers v_findings)) fx h hl.1 3 5 rfl rfl k_570 k_572 k_571 k_58 i28 (Nat.le_of_ble_eq_true rfl) (Nat.le_of_ble_eq_true rfl) rfl dX4_copy_141 (fun H locs h => ?_)
              refine lv_iload hx hb dX4_copy_144 (lv_at hl 5 rfl) ?_
              exact q_reti (fun k : (Nat → Int64) × (Nat → Int64) × (Nat → Int64) × (Nat → Int64) × (Nat → Int32) => (wX4_copy cI cJ cZ cS a_t a_party a_kept a_tape a_telephone a_sheets a_sheets0 a_sheets0_numbers a_sheets1 a_sheets1_numbers a_sheets2 a_sheets2_numbers a_sheets3 a_sheets3_numbers a_findings v_isKept v_sheets0_bits v_sheets0_size k.1 v_sheets1_bits v_sheets1_size k.2.1 v_sheets2_bits v_sheets2_size k.2.2.1 v_sheets3_bits v_sheets3_size k.2.2.2.1 k.2.2.2.2)) fx hf h dX4_copy_146
            have hf := it_t c27 hf
            exact LX4_copy_111 fx h (lv_sub hl [0] rfl) hf
          have hf := it_f c23 hf
          refine lv_aload_n hx hb dX4_copy_73 rfl (lv_at hl 0 rfl) ?_
          refine q_ldc fx k_269 dX4_copy_74 ?_
          obtain ⟨r29, k29, hg, hf⟩ := bR_inv hf
          refine q_ci (rest := []) (ws' := (wX4_copy cI cJ cZ cS a_t a_party a_kept a_tape a_telephone a_sheets a_sheets0 a_sheets0_numbers a_sheets1 a_sheets1_numbers a_sheets2 a_sheets2_numbers a_sheets3 a_sheets3_numbers a_findings v_isKept v_sheets0_bits v_sheets0_size v_sheets0_numbers v_sheets1_bits v_sheets1_size v_sheets1_numbers v_sheets2_bits v_sheets2_size v_sheets2_numbers v_sheets3_bits v_sheets3_size v_sheets3_numbers k29)) (w1 := (wX4_found cI cJ cZ cS a_t a_party a_kept a_tape a_telephone a_sheets a_findings v_isKept k29)) fx h [0, 10] rfl rfl rfl rfl (q_runV fx h hl.1 [0, 10] rfl rfl (tX4_found l D cI cJ cZ cS tb a_t a_party a_kept a_tape a_telephone a_sheets a_findings H.size v_isKept v_findings (-1000000003) r29 k29 hg) mvX4_found k_207 ⟨rfl, rfl⟩ ⟨Nat.le_of_ble_eq_true rfl, Nat.le_of_ble_eq_true rfl⟩ rfl rfl rfl rfl (Nat.le_of_ble_eq_true rfl) dX4_copy_76 ⟨Nat.le_of_ble_eq_true rfl, Nat.le_of_ble_eq_true rfl⟩) (fun H locs h => ?_)
          exact q_reti (fun k : (Nat → Int64) × (Nat → Int64) × (Nat → Int64) × (Nat → Int64) × (Nat → Int32) => (wX4_copy cI cJ cZ cS a_t a_party a_kept a_tape a_telephone a_sheets a_sheets0 a_sheets0_numbers a_sheets1 a_sheets1_numbers a_sheets2 a_sheets2_numbers a_sheets3 a_sheets3_numbers a_findings v_isKept v_sheets0_bits v_sheets0_size k.1 v_sheets1_bits v_sheets1_size k.2.1 v_sheets2_bits v_sheets2_size k.2.2.1 v_sheets3_bits v_sheets3_size k.2.2.2.1 k.2.2.2.2)) fx hf h dX4_copy_79
        have hf := it_f c22 hf
        exact LX4_copy_45 fx h (lv_sub hl [0] rfl) hf
      · refine q_aald (v := a_sheets2) fx h 1 rfl c11 (vinK (by decide)) rfl dX4_copy_38 ?_
        obtain ⟨r30, k30, hg, hf⟩ := bR_inv hf
        refine q_ci (rest := []) (ws' := (wX4_copy cI cJ cZ cS a_t a_party a_kept a_tape a_telephone a_sheets a_sheets0 a_sheets0_numbers a_sheets1 a_sheets1_numbers a_sheets2 a_sheets2_numbers a_sheets3 a_sheets3_numbers a_findings v_isKept v_sheets0_bits v_sheets0_size v_sheets0_numbers v_sheets1_bits v_sheets1_size v_sheets1_numbers v_sheets2_bits v_sheets2_size v_sheets2_numbers v_sheets3_bits v_sheets3_size v_sheets3_numbers v_findings)) (w1 := (wX1_isMissing cI cJ cZ cS a_sheets2 a_sheets2_numbers v_sheets2_bits v_sheets2_size)) fx h [6] rfl rfl rfl rfl (q_runV fx h hl.1 [6] rfl rfl (tX1_isMissing l D cI cJ cZ cS tb a_sheets2 a_sheets2_numbers H.size v_sheets2_bits v_sheets2_size r30 k30 hg) mvX1_isMissing k_553 ⟨rfl, rfl⟩ ⟨Nat.le_of_ble_eq_true rfl, Nat.le_of_ble_eq_true rfl⟩ rfl rfl rfl rfl (Nat.le_of_ble_eq_true rfl) dX4_copy_39 ⟨Nat.le_of_ble_eq_true rfl, Nat.le_of_ble_eq_true rfl⟩) (fun H locs h => ?_)
        refine lv_if_eq (tgt := 52) hx hb dX4_copy_42 (by decide) (fun c31 => ?_) (fun c31 => ?_)
        · have hf := it_t c31 hf
          refine lv_aload_n hx hb dX4_copy_52 rfl (lv_at hl 0 rfl) ?_
          refine q_get (v := .ref a_sheets) fx inX4 h 0 rfl rfl 5 (by decide) k_179 rfl dX4_copy_53 ?_
          refine lv_iload_n hx hb dX4_copy_56 rfl (lv_at hl 1 rfl) ?_
          refine q_aald (v := a_sheets0) fx h 1 rfl c8 (vinK (by decide)) rfl dX4_copy_57 ?_
          refine q_getN (v := .int v_sheets0_bits) fx inX1 h 2 rfl rfl 0 (by decide) nf_9 rfl dX4_copy_58 ?_
          refine lv_aload_n hx hb dX4_copy_61 rfl (lv_at hl 0 rfl) ?_
          refine q_get (v := .ref a_sheets) fx inX4 h 0 rfl rfl 5 (by decide) k_179 rfl dX4_copy_62 ?_
          refine lv_iload_n hx hb dX4_copy_65 rfl (lv_at hl 3 rfl) ?_
          refine q_aald (v := a_sheets2) fx h 1 rfl c11 (vinK (by decide)) rfl dX4_copy_66 ?_
          refine q_getN (v := .int v_sheets2_bits) fx inX1 h 6 rfl rfl 0 (by decide) nf_9 rfl dX4_copy_67 ?_
          refine lv_icmp_eq (tgt := 80) hx hb dX4_copy_70 (by decide) (fun c32 => ?_) (fun c32 => ?_)
          · have hf := it_t c32 hf
            refine lv_aload_n hx hb dX4_copy_80 rfl (lv_at hl 0 rfl) ?_
            refine q_get (v := .ref a_sheets) fx inX4 h 0 rfl rfl 5 (by decide) k_179 rfl dX4_copy_81 ?_
            refine lv_iload_n hx hb dX4_copy_84 rfl (lv_at hl 1 rfl) ?_
            refine q_aald (v := a_sheets0) fx h 1 rfl c8 (vinK (by decide)) rfl dX4_copy_85 ?_
            refine lv_iload_n hx hb dX4_copy_86 rfl (lv_at hl 2 rfl) ?_
            refine lv_iload hx hb dX4_copy_87 (lv_at hl 5 rfl) ?_
            obtain ⟨r33, k33, hg, hf⟩ := bR_inv hf
            refine q_ci (rest := []) (ws' := (wX4_copy cI cJ cZ cS a_t a_party a_kept a_tape a_telephone a_sheets a_sheets0 a_sheets0_numbers a_sheets1 a_sheets1_numbers a_sheets2 a_sheets2_numbers a_sheets3 a_sheets3_numbers a_findings v_isKept v_sheets0_bits v_sheets0_size v_sheets0_numbers v_sheets1_bits v_sheets1_size v_sheets1_numbers v_sheets2_bits v_sheets2_size v_sheets2_numbers v_sheets3_bits v_sheets3_size v_sheets3_numbers v_findings)) (w1 := (wX1_hasRun cI cJ cZ cS a_sheets0 a_sheets0_numbers v_sheets0_bits v_sheets0_size)) fx h [2] rfl rfl rfl rfl (q_runV fx h hl.1 [2] rfl rfl (tX1_hasRun l D cI cJ cZ cS tb a_sheets0 a_sheets0_numbers H.size v_sheets0_bits v_sheets0_size x2 x5 r33 k33 hg) mvX1_hasRun k_566 ⟨rfl, rfl⟩ ⟨Nat.le_of_ble_eq_true rfl, Nat.le_of_ble_eq_true rfl⟩ rfl rfl rfl rfl (Nat.le_of_ble_eq_true rfl) dX4_copy_89 ⟨Nat.le_of_ble_eq_true rfl, Nat.le_of_ble_eq_true rfl⟩) (fun H locs h => ?_)
            refine lv_if_eq (tgt := 111) hx hb dX4_copy_92 (by decide) (fun c34 => ?_) (fun c34 => ?_)
            · have hf := it_t c34 hf
              exact LX4_copy_111 fx h (lv_sub hl [0] rfl) hf
            have hf := it_f c34 hf
            refine lv_aload_n hx hb dX4_copy_95 rfl (lv_at hl 0 rfl) ?_
            refine q_get (v := .ref a_sheets) fx inX4 h 0 rfl rfl 5 (by decide) k_179 rfl dX4_copy_96 ?_
            refine lv_iload_n hx hb dX4_copy_99 rfl (lv_at hl 3 rfl) ?_
            refine q_aald (v := a_sheets2) fx h 1 rfl c11 (vinK (by decide)) rfl dX4_copy_100 ?_
            refine lv_iload hx hb dX4_copy_101 (lv_at hl 4 rfl) ?_
            refine lv_iload hx hb dX4_copy_103 (lv_at hl 5 rfl) ?_
            obtain ⟨r35, k35, hg, hf⟩ := bR_inv hf
            refine q_ci (rest := []) (ws' := (wX4_copy cI cJ cZ cS a_t a_party a_kept a_tape a_telephone a_sheets a_sheets0 a_sheets0_numbers a_sheets1 a_sheets1_numbers a_sheets2 a_sheets2_numbers a_sheets3 a_sheets3_numbers a_findings v_isKept v_sheets0_bits v_sheets0_size v_sheets0_numbers v_sheets1_bits v_sheets1_size v_sheets1_numbers v_sheets2_bits v_sheets2_size v_sheets2_numbers v_sheets3_bits v_sheets3_size v_sheets3_numbers v_findings)) (w1 := (wX1_hasRun cI cJ cZ cS a_sheets2 a_sheets2_numbers v_sheets2_bits v_sheets2_size)) fx h [6] rfl rfl rfl rfl (q_runV fx h hl.1 [6] rfl rfl (tX1_hasRun l D cI cJ cZ cS tb a_sheets2 a_sheets2_numbers H.size v_sheets2_bits v_sheets2_size x4 x5 r35 k35 hg) mvX1_hasRun k_566 ⟨rfl, rfl⟩ ⟨Nat.le_of_ble_eq_true rfl, Nat.le_of_ble_eq_true rfl⟩ rfl rfl rfl rfl (Nat.le_of_ble_eq_true rfl) dX4_copy_105 ⟨Nat.le_of_ble_eq_true rfl, Nat.le_of_ble_eq_true rfl⟩) (fun H locs h => ?_)
            refine lv_if_ne (tgt := 118) hx hb dX4_copy_108 (by decide) (fun c36 => ?_) (fun c36 => ?_)
            · have hf := it_f c36 hf
              refine lv_aload_n hx hb dX4_copy_118 rfl (lv_at hl 0 rfl) ?_
              refine q_get (v := .ref a_sheets) fx inX4 h 0 rfl rfl 5 (by decide) k_179 rfl dX4_copy_119 ?_
              refine lv_iload_n hx hb dX4_copy_122 rfl (lv_at hl 1 rfl) ?_
              refine q_aald (v := a_sheets0) fx h 1 rfl c8 (vinK (by decide)) rfl dX4_copy_123 ?_
              refine q_getN (v := .ref a_sheets0_numbers) fx inX1 h 2 rfl rfl 2 (by decide) nf_11 rfl dX4_copy_124 ?_
              refine lv_iload_n hx hb dX4_copy_127 rfl (lv_at hl 2 rfl) ?_
              refine lv_aload_n hx hb dX4_copy_128 rfl (lv_at hl 0 rfl) ?_
              refine q_get (v := .ref a_sheets) fx inX4 h 0 rfl rfl 5 (by decide) k_179 rfl dX4_copy_129 ?_
              refine lv_iload_n hx hb dX4_copy_132 rfl (lv_at hl 3 rfl) ?_
              refine q_aald (v := a_sheets2) fx h 1 rfl c11 (vinK (by decide)) rfl dX4_copy_133 ?_
              refine q_getN (v := .ref a_sheets2_numbers) fx inX1 h 6 rfl rfl 2 (by decide) nf_11 rfl dX4_copy_134 ?_
              refine lv_iload hx hb dX4_copy_137 (lv_at hl 4 rfl) ?_
              refine lv_iload hx hb dX4_copy_139 (lv_at hl 5 rfl) ?_
              obtain ⟨i37, hf⟩ := gCp_inv hf
              refine q_copyl (ws' := (wX4_copy cI cJ cZ cS a_t a_party a_kept a_tape a_telephone a_sheets a_sheets0 a_sheets0_numbers a_sheets1 a_sheets1_numbers a_sheets2 a_sheets2_numbers a_sheets3 a_sheets3_numbers a_findings v_isKept v_sheets0_bits v_sheets0_size v_sheets0_numbers v_sheets1_bits v_sheets1_size v_sheets1_numbers v_sheets2_bits v_sheets2_size (va_cpy v_sheets0_numbers v_sheets2_numbers x2.toNatClampNeg x4.toNatClampNeg x5.toNatClampNeg) v_sheets3_bits v_sheets3_size v_sheets3_numbers v_findings)) fx h hl.1 3 7 rfl rfl k_570 k_572 k_571 k_58 i37 (Nat.le_of_ble_eq_true rfl) (Nat.le_of_ble_eq_true rfl) rfl dX4_copy_141 (fun H locs h => ?_)
              refine lv_iload hx hb dX4_copy_144 (lv_at hl 5 rfl) ?_
              exact q_reti (fun k : (Nat → Int64) × (Nat → Int64) × (Nat → Int64) × (Nat → Int64) × (Nat → Int32) => (wX4_copy cI cJ cZ cS a_t a_party a_kept a_tape a_telephone a_sheets a_sheets0 a_sheets0_numbers a_sheets1 a_sheets1_numbers a_sheets2 a_sheets2_numbers a_sheets3 a_sheets3_numbers a_findings v_isKept v_sheets0_bits v_sheets0_size k.1 v_sheets1_bits v_sheets1_size k.2.1 v_sheets2_bits v_sheets2_size k.2.2.1 v_sheets3_bits v_sheets3_size k.2.2.2.1 k.2.2.2.2)) fx hf h dX4_copy_146
            have hf := it_t c36 hf
            exact LX4_copy_111 fx h (lv_sub hl [0] rfl) hf
          have hf := it_f c32 hf
          refine lv_aload_n hx hb dX4_copy_73 rfl (lv_at hl 0 rfl) ?_
          refine q_ldc fx k_269 dX4_copy_74 ?_
          obtain ⟨r38, k38, hg, hf⟩ := bR_inv hf
          refine q_ci (rest := []) (ws' := (wX4_copy cI cJ cZ cS a_t a_party a_kept a_tape a_telephone a_sheets a_sheets0 a_sheets0_numbers a_sheets1 a_sheets1_numbers a_sheets2 a_sheets2_numbers a_sheets3 a_sheets3_numbers a_findings v_isKept v_sheets0_bits v_sheets0_size v_sheets0_numbers v_sheets1_bits v_sheets1_size v_sheets1_numbers v_sheets2_bits v_sheets2_size v_sheets2_numbers v_sheets3_bits v_sheets3_size v_sheets3_numbers k38)) (w1 := (wX4_found cI cJ cZ cS a_t a_party a_kept a_tape a_telephone a_sheets a_findings v_isKept k38)) fx h [0, 10] rfl rfl rfl rfl (q_runV fx h hl.1 [0, 10] rfl rfl (tX4_found l D cI cJ cZ cS tb a_t a_party a_kept a_tape a_telephone a_sheets a_findings H.size v_isKept v_findings (-1000000003) r38 k38 hg) mvX4_found k_207 ⟨rfl, rfl⟩ ⟨Nat.le_of_ble_eq_true rfl, Nat.le_of_ble_eq_true rfl⟩ rfl rfl rfl rfl (Nat.le_of_ble_eq_true rfl) dX4_copy_76 ⟨Nat.le_of_ble_eq_true rfl, Nat.le_of_ble_eq_true rfl⟩) (fun H locs h => ?_)
          exact q_reti (fun k : (Nat → Int64) × (Nat → Int64) × (Nat → Int64) × (Nat → Int64) × (Nat → Int32) => (wX4_copy cI cJ cZ cS a_t a_party a_kept a_tape a_telephone a_sheets a_sheets0 a_sheets0_numbers a_sheets1 a_sheets1_numbers a_sheets2 a_sheets2_numbers a_sheets3 a_sheets3_numbers a_findings v_isKept v_sheets0_bits v_sheets0_size k.1 v_sheets1_bits v_sheets1_size k.2.1 v_sheets2_bits v_sheets2_size k.2.2.1 v_sheets3_bits v_sheets3_size k.2.2.2.1 k.2.2.2.2)) fx hf h dX4_copy_79
        have hf := it_f c31 hf
        exact LX4_copy_45 fx h (lv_sub hl [0] rfl) hf
      · refine q_aald (v := a_sheets3) fx h 1 rfl c11 (vinK (by decide)) rfl dX4_copy_38 ?_
        obtain ⟨r39, k39, hg, hf⟩ := bR_inv hf
        refine q_ci (rest := []) (ws' := (wX4_copy cI cJ cZ cS a_t a_party a_kept a_tape a_telephone a_sheets a_sheets0 a_sheets0_numbers a_sheets1 a_sheets1_numbers a_sheets2 a_sheets2_numbers a_sheets3 a_sheets3_numbers a_findings v_isKept v_sheets0_bits v_sheets0_size v_sheets0_numbers v_sheets1_bits v_sheets1_size v_sheets1_numbers v_sheets2_bits v_sheets2_size v_sheets2_numbers v_sheets3_bits v_sheets3_size v_sheets3_numbers v_findings)) (w1 := (wX1_isMissing cI cJ cZ cS a_sheets3 a_sheets3_numbers v_sheets3_bits v_sheets3_size)) fx h [8] rfl rfl rfl rfl (q_runV fx h hl.1 [8] rfl rfl (tX1_isMissing l D cI cJ cZ cS tb a_sheets3 a_sheets3_numbers H.size v_sheets3_bits v_sheets3_size r39 k39 hg) mvX1_isMissing k_553 ⟨rfl, rfl⟩ ⟨Nat.le_of_ble_eq_true rfl, Nat.le_of_ble_eq_true rfl⟩ rfl rfl rfl rfl (Nat.le_of_ble_eq_true rfl) dX4_copy_39 ⟨Nat.le_of_ble_eq_true rfl, Nat.le_of_ble_eq_true rfl⟩) (fun H locs h => ?_)
        refine lv_if_eq (tgt := 52) hx hb dX4_copy_42 (by decide) (fun c40 => ?_) (fun c40 => ?_)
        · have hf := it_t c40 hf
          refine lv_aload_n hx hb dX4_copy_52 rfl (lv_at hl 0 rfl) ?_
          refine q_get (v := .ref a_sheets) fx inX4 h 0 rfl rfl 5 (by decide) k_179 rfl dX4_copy_53 ?_
          refine lv_iload_n hx hb dX4_copy_56 rfl (lv_at hl 1 rfl) ?_
          refine q_aald (v := a_sheets0) fx h 1 rfl c8 (vinK (by decide)) rfl dX4_copy_57 ?_
          refine q_getN (v := .int v_sheets0_bits) fx inX1 h 2 rfl rfl 0 (by decide) nf_9 rfl dX4_copy_58 ?_
          refine lv_aload_n hx hb dX4_copy_61 rfl (lv_at hl 0 rfl) ?_
          refine q_get (v := .ref a_sheets) fx inX4 h 0 rfl rfl 5 (by decide) k_179 rfl dX4_copy_62 ?_
          refine lv_iload_n hx hb dX4_copy_65 rfl (lv_at hl 3 rfl) ?_
          refine q_aald (v := a_sheets3) fx h 1 rfl c11 (vinK (by decide)) rfl dX4_copy_66 ?_
          refine q_getN (v := .int v_sheets3_bits) fx inX1 h 8 rfl rfl 0 (by decide) nf_9 rfl dX4_copy_67 ?_
          refine lv_icmp_eq (tgt := 80) hx hb dX4_copy_70 (by decide) (fun c41 => ?_) (fun c41 => ?_)
          · have hf := it_t c41 hf
            refine lv_aload_n hx hb dX4_copy_80 rfl (lv_at hl 0 rfl) ?_
            refine q_get (v := .ref a_sheets) fx inX4 h 0 rfl rfl 5 (by decide) k_179 rfl dX4_copy_81 ?_
            refine lv_iload_n hx hb dX4_copy_84 rfl (lv_at hl 1 rfl) ?_
            refine q_aald (v := a_sheets0) fx h 1 rfl c8 (vinK (by decide)) rfl dX4_copy_85 ?_
            refine lv_iload_n hx hb dX4_copy_86 rfl (lv_at hl 2 rfl) ?_
            refine lv_iload hx hb dX4_copy_87 (lv_at hl 5 rfl) ?_
            obtain ⟨r42, k42, hg, hf⟩ := bR_inv hf
            refine q_ci (rest := []) (ws' := (wX4_copy cI cJ cZ cS a_t a_party a_kept a_tape a_telephone a_sheets a_sheets0 a_sheets0_numbers a_sheets1 a_sheets1_numbers a_sheets2 a_sheets2_numbers a_sheets3 a_sheets3_numbers a_findings v_isKept v_sheets0_bits v_sheets0_size v_sheets0_numbers v_sheets1_bits v_sheets1_size v_sheets1_numbers v_sheets2_bits v_sheets2_size v_sheets2_numbers v_sheets3_bits v_sheets3_size v_sheets3_numbers v_findings)) (w1 := (wX1_hasRun cI cJ cZ cS a_sheets0 a_sheets0_numbers v_sheets0_bits v_sheets0_size)) fx h [2] rfl rfl rfl rfl (q_runV fx h hl.1 [2] rfl rfl (tX1_hasRun l D cI cJ cZ cS tb a_sheets0 a_sheets0_numbers H.size v_sheets0_bits v_sheets0_size x2 x5 r42 k42 hg) mvX1_hasRun k_566 ⟨rfl, rfl⟩ ⟨Nat.le_of_ble_eq_true rfl, Nat.le_of_ble_eq_true rfl⟩ rfl rfl rfl rfl (Nat.le_of_ble_eq_true rfl) dX4_copy_89 ⟨Nat.le_of_ble_eq_true rfl, Nat.le_of_ble_eq_true rfl⟩) (fun H locs h => ?_)
            refine lv_if_eq (tgt := 111) hx hb dX4_copy_92 (by decide) (fun c43 => ?_) (fun c43 => ?_)
            · have hf := it_t c43 hf
              exact LX4_copy_111 fx h (lv_sub hl [0] rfl) hf
            have hf := it_f c43 hf
            refine lv_aload_n hx hb dX4_copy_95 rfl (lv_at hl 0 rfl) ?_
            refine q_get (v := .ref a_sheets) fx inX4 h 0 rfl rfl 5 (by decide) k_179 rfl dX4_copy_96 ?_
            refine lv_iload_n hx hb dX4_copy_99 rfl (lv_at hl 3 rfl) ?_
            refine q_aald (v := a_sheets3) fx h 1 rfl c11 (vinK (by decide)) rfl dX4_copy_100 ?_
            refine lv_iload hx hb dX4_copy_101 (lv_at hl 4 rfl) ?_
            refine lv_iload hx hb dX4_copy_103 (lv_at hl 5 rfl) ?_
            obtain ⟨r44, k44, hg, hf⟩ := bR_inv hf
            refine q_ci (rest := []) (ws' := (wX4_copy cI cJ cZ cS a_t a_party a_kept a_tape a_telephone a_sheets a_sheets0 a_sheets0_numbers a_sheets1 a_sheets1_numbers a_sheets2 a_sheets2_numbers a_sheets3 a_sheets3_numbers a_findings v_isKept v_sheets0_bits v_sheets0_size v_sheets0_numbers v_sheets1_bits v_sheets1_size v_sheets1_numbers v_sheets2_bits v_sheets2_size v_sheets2_numbers v_sheets3_bits v_sheets3_size v_sheets3_numbers v_findings)) (w1 := (wX1_hasRun cI cJ cZ cS a_sheets3 a_sheets3_numbers v_sheets3_bits v_sheets3_size)) fx h [8] rfl rfl rfl rfl (q_runV fx h hl.1 [8] rfl rfl (tX1_hasRun l D cI cJ cZ cS tb a_sheets3 a_sheets3_numbers H.size v_sheets3_bits v_sheets3_size x4 x5 r44 k44 hg) mvX1_hasRun k_566 ⟨rfl, rfl⟩ ⟨Nat.le_of_ble_eq_true rfl, Nat.le_of_ble_eq_true rfl⟩ rfl rfl rfl rfl (Nat.le_of_ble_eq_true rfl) dX4_copy_105 ⟨Nat.le_of_ble_eq_true rfl, Nat.le_of_ble_eq_true rfl⟩) (fun H locs h => ?_)
            refine lv_if_ne (tgt := 118) hx hb dX4_copy_108 (by decide) (fun c45 => ?_) (fun c45 => ?_)
            · have hf := it_f c45 hf
              refine lv_aload_n hx hb dX4_copy_118 rfl (lv_at hl 0 rfl) ?_
              refine q_get (v := .ref a_sheets) fx inX4 h 0 rfl rfl 5 (by decide) k_179 rfl dX4_copy_119 ?_
              refine lv_iload_n hx hb dX4_copy_122 rfl (lv_at hl 1 rfl) ?_
              refine q_aald (v := a_sheets0) fx h 1 rfl c8 (vinK (by decide)) rfl dX4_copy_123 ?_
              refine q_getN (v := .ref a_sheets0_numbers) fx inX1 h 2 rfl rfl 2 (by decide) nf_11 rfl dX4_copy_124 ?_
              refine lv_iload_n hx hb dX4_copy_127 rfl (lv_at hl 2 rfl) ?_
              refine lv_aload_n hx hb dX4_copy_128 rfl (lv_at hl 0 rfl) ?_
              refine q_get (v := .ref a_sheets) fx inX4 h 0 rfl rfl 5 (by decide) k_179 rfl dX4_copy_129 ?_
              refine lv_iload_n hx hb dX4_copy_132 rfl (lv_at hl 3 rfl) ?_
              refine q_aald (v := a_sheets3) fx h 1 rfl c11 (vinK (by decide)) rfl dX4_copy_133 ?_
              refine q_getN (v := .ref a_sheets3_numbers) fx inX1 h 8 rfl rfl 2 (by decide) nf_11 rfl dX4_copy_134 ?_
              refine lv_iload hx hb dX4_copy_137 (lv_at hl 4 rfl) ?_
              refine lv_iload hx hb dX4_copy_139 (lv_at hl 5 rfl) ?_
              obtain ⟨i46, hf⟩ := gCp_inv hf
              refine q_copyl (ws' := (wX4_copy cI cJ cZ cS a_t a_party a_kept a_tape a_telephone a_sheets a_sheets0 a_sheets0_numbers a_sheets1 a_sheets1_numbers a_sheets2 a_sheets2_numbers a_sheets3 a_sheets3_numbers a_findings v_isKept v_sheets0_bits v_sheets0_size v_sheets0_numbers v_sheets1_bits v_sheets1_size v_sheets1_numbers v_sheets2_bits v_sheets2_size v_sheets2_numbers v_sheets3_bits v_sheets3_size (va_cpy v_sheets0_numbers v_sheets3_numbers x2.toNatClampNeg x4.toNatClampNeg x5.toNatClampNeg) v_findings)) fx h hl.1 3 9 rfl rfl k_570 k_572 k_571 k_58 i46 (Nat.le_of_ble_eq_true rfl) (Nat.le_of_ble_eq_true rfl) rfl dX4_copy_141 (fun H locs h => ?_)
              refine lv_iload hx hb dX4_copy_144 (lv_at hl 5 rfl) ?_
              exact q_reti (fun k : (Nat → Int64) × (Nat → Int64) × (Nat → Int64) × (Nat → Int64) × (Nat → Int32) => (wX4_copy cI cJ cZ cS a_t a_party a_kept a_tape a_telephone a_sheets a_sheets0 a_sheets0_numbers a_sheets1 a_sheets1_numbers a_sheets2 a_sheets2_numbers a_sheets3 a_sheets3_numbers a_findings v_isKept v_sheets0_bits v_sheets0_size k.1 v_sheets1_bits v_sheets1_size k.2.1 v_sheets2_bits v_sheets2_size k.2.2.1 v_sheets3_bits v_sheets3_size k.2.2.2.1 k.2.2.2.2)) fx hf h dX4_copy_146
            have hf := it_t c45 hf
            exact LX4_copy_111 fx h (lv_sub hl [0] rfl) hf
          have hf := it_f c41 hf
          refine lv_aload_n hx hb dX4_copy_73 rfl (lv_at hl 0 rfl) ?_
          refine q_ldc fx k_269 dX4_copy_74 ?_
          obtain ⟨r47, k47, hg, hf⟩ := bR_inv hf
          refine q_ci (rest := []) (ws' := (wX4_copy cI cJ cZ cS a_t a_party a_kept a_tape a_telephone a_sheets a_sheets0 a_sheets0_numbers a_sheets1 a_sheets1_numbers a_sheets2 a_sheets2_numbers a_sheets3 a_sheets3_numbers a_findings v_isKept v_sheets0_bits v_sheets0_size v_sheets0_numbers v_sheets1_bits v_sheets1_size v_sheets1_numbers v_sheets2_bits v_sheets2_size v_sheets2_numbers v_sheets3_bits v_sheets3_size v_sheets3_numbers k47)) (w1 := (wX4_found cI cJ cZ cS a_t a_party a_kept a_tape a_telephone a_sheets a_findings v_isKept k47)) fx h [0, 10] rfl rfl rfl rfl (q_runV fx h hl.1 [0, 10] rfl rfl (tX4_found l D cI cJ cZ cS tb a_t a_party a_kept a_tape a_telephone a_sheets a_findings H.size v_isKept v_findings (-1000000003) r47 k47 hg) mvX4_found k_207 ⟨rfl, rfl⟩ ⟨Nat.le_of_ble_eq_true rfl, Nat.le_of_ble_eq_true rfl⟩ rfl rfl rfl rfl (Nat.le_of_ble_eq_true rfl) dX4_copy_76 ⟨Nat.le_of_ble_eq_true rfl, Nat.le_of_ble_eq_true rfl⟩) (fun H locs h => ?_)
          exact q_reti (fun k : (Nat → Int64) × (Nat → Int64) × (Nat → Int64) × (Nat → Int64) × (Nat → Int32) => (wX4_copy cI cJ cZ cS a_t a_party a_kept a_tape a_telephone a_sheets a_sheets0 a_sheets0_numbers a_sheets1 a_sheets1_numbers a_sheets2 a_sheets2_numbers a_sheets3 a_sheets3_numbers a_findings v_isKept v_sheets0_bits v_sheets0_size k.1 v_sheets1_bits v_sheets1_size k.2.1 v_sheets2_bits v_sheets2_size k.2.2.1 v_sheets3_bits v_sheets3_size k.2.2.2.1 k.2.2.2.2)) fx hf h dX4_copy_79
        have hf := it_f c40 hf
        exact LX4_copy_45 fx h (lv_sub hl [0] rfl) hf
    · refine q_aald (v := a_sheets1) fx h 1 rfl c8 (vinK (by decide)) rfl dX4_copy_26 ?_
      obtain ⟨r48, k48, hg, hf⟩ := bR_inv hf
      refine q_ci (rest := []) (ws' := (wX4_copy cI cJ cZ cS a_t a_party a_kept a_tape a_telephone a_sheets a_sheets0 a_sheets0_numbers a_sheets1 a_sheets1_numbers a_sheets2 a_sheets2_numbers a_sheets3 a_sheets3_numbers a_findings v_isKept v_sheets0_bits v_sheets0_size v_sheets0_numbers v_sheets1_bits v_sheets1_size v_sheets1_numbers v_sheets2_bits v_sheets2_size v_sheets2_numbers v_sheets3_bits v_sheets3_size v_sheets3_numbers v_findings)) (w1 := (wX1_isMissing cI cJ cZ cS a_sheets1 a_sheets1_numbers v_sheets1_bits v_sheets1_size)) fx h [4] rfl rfl rfl rfl (q_runV fx h hl.1 [4] rfl rfl (tX1_isMissing l D cI cJ cZ cS tb a_sheets1 a_sheets1_numbers H.size v_sheets1_bits v_sheets1_size r48 k48 hg) mvX1_isMissing k_553 ⟨rfl, rfl⟩ ⟨Nat.le_of_ble_eq_true rfl, Nat.le_of_ble_eq_true rfl⟩ rfl rfl rfl rfl (Nat.le_of_ble_eq_true rfl) dX4_copy_27 ⟨Nat.le_of_ble_eq_true rfl, Nat.le_of_ble_eq_true rfl⟩) (fun H locs h => ?_)
      refine lv_if_ne (tgt := 45) hx hb dX4_copy_30 (by decide) (fun c49 => ?_) (fun c49 => ?_)
      · have hf := it_f c49 hf
        exact LX4_copy_45 fx h (lv_sub hl [0] rfl) hf
      have hf := it_t c49 hf
      refine lv_aload_n hx hb dX4_copy_33 rfl (lv_at hl 0 rfl) ?_
      refine q_get (v := .ref a_sheets) fx inX4 h 0 rfl rfl 5 (by decide) k_179 rfl dX4_copy_34 ?_
      refine lv_iload_n hx hb dX4_copy_37 rfl (lv_at hl 3 rfl) ?_
      rcases sel4_inv hf with ⟨c50, hf⟩ | ⟨c50, hf⟩ | ⟨c50, hf⟩ | ⟨c50, hf⟩
      · refine q_aald (v := a_sheets0) fx h 1 rfl c50 (vinK (by decide)) rfl dX4_copy_38 ?_
        obtain ⟨r51, k51, hg, hf⟩ := bR_inv hf
        refine q_ci (rest := []) (ws' := (wX4_copy cI cJ cZ cS a_t a_party a_kept a_tape a_telephone a_sheets a_sheets0 a_sheets0_numbers a_sheets1 a_sheets1_numbers a_sheets2 a_sheets2_numbers a_sheets3 a_sheets3_numbers a_findings v_isKept v_sheets0_bits v_sheets0_size v_sheets0_numbers v_sheets1_bits v_sheets1_size v_sheets1_numbers v_sheets2_bits v_sheets2_size v_sheets2_numbers v_sheets3_bits v_sheets3_size v_sheets3_numbers v_findings)) (w1 := (wX1_isMissing cI cJ cZ cS a_sheets0 a_sheets0_numbers v_sheets0_bits v_sheets0_size)) fx h [2] rfl rfl rfl rfl (q_runV fx h hl.1 [2] rfl rfl (tX1_isMissing l D cI cJ cZ cS tb a_sheets0 a_sheets0_numbers H.size v_sheets0_bits v_sheets0_size r51 k51 hg) mvX1_isMissing k_553 ⟨rfl, rfl⟩ ⟨Nat.le_of_ble_eq_true rfl, Nat.le_of_ble_eq_true rfl⟩ rfl rfl rfl rfl (Nat.le_of_ble_eq_true rfl) dX4_copy_39 ⟨Nat.le_of_ble_eq_true rfl, Nat.le_of_ble_eq_true rfl⟩) (fun H locs h => ?_)
        refine lv_if_eq (tgt := 52) hx hb dX4_copy_42 (by decide) (fun c52 => ?_) (fun c52 => ?_)
        · have hf := it_t c52 hf
          refine lv_aload_n hx hb dX4_copy_52 rfl (lv_at hl 0 rfl) ?_
          refine q_get (v := .ref a_sheets) fx inX4 h 0 rfl rfl 5 (by decide) k_179 rfl dX4_copy_53 ?_
          refine lv_iload_n hx hb dX4_copy_56 rfl (lv_at hl 1 rfl) ?_
          refine q_aald (v := a_sheets1) fx h 1 rfl c8 (vinK (by decide)) rfl dX4_copy_57 ?_
          refine q_getN (v := .int v_sheets1_bits) fx inX1 h 4 rfl rfl 0 (by decide) nf_9 rfl dX4_copy_58 ?_
          refine lv_aload_n hx hb dX4_copy_61 rfl (lv_at hl 0 rfl) ?_
          refine q_get (v := .ref a_sheets) fx inX4 h 0 rfl rfl 5 (by decide) k_179 rfl dX4_copy_62 ?_
          refine lv_iload_n hx hb dX4_copy_65 rfl (lv_at hl 3 rfl) ?_
          refine q_aald (v := a_sheets0) fx h 1 rfl c50 (vinK (by decide)) rfl dX4_copy_66 ?_
          refine q_getN (v := .int v_sheets0_bits) fx inX1 h 2 rfl rfl 0 (by decide) nf_9 rfl dX4_copy_67 ?_
          refine lv_icmp_eq (tgt := 80) hx hb dX4_copy_70 (by decide) (fun c53 => ?_) (fun c53 => ?_)
          · have hf := it_t c53 hf
            refine lv_aload_n hx hb dX4_copy_80 rfl (lv_at hl 0 rfl) ?_
            refine q_get (v := .ref a_sheets) fx inX4 h 0 rfl rfl 5 (by decide) k_179 rfl dX4_copy_81 ?_
            refine lv_iload_n hx hb dX4_copy_84 rfl (lv_at hl 1 rfl) ?_
            refine q_aald (v := a_sheets1) fx h 1 rfl c8 (vinK (by decide)) rfl dX4_copy_85 ?_
            refine lv_iload_n hx hb dX4_copy_86 rfl (lv_at hl 2 rfl) ?_
            refine lv_iload hx hb dX4_copy_87 (lv_at hl 5 rfl) ?_
            obtain ⟨r54, k54, hg, hf⟩ := bR_inv hf
            refine q_ci (rest := []) (ws' := (wX4_copy cI cJ cZ cS a_t a_party a_kept a_tape a_telephone a_sheets a_sheets0 a_sheets0_numbers a_sheets1 a_sheets1_numbers a_sheets2 a_sheets2_numbers a_sheets3 a_sheets3_numbers a_findings v_isKept v_sheets0_bits v_sheets0_size v_sheets0_numbers v_sheets1_bits v_sheets1_size v_sheets1_numbers v_sheets2_bits v_sheets2_size v_sheets2_numbers v_sheets3_bits v_sheets3_size v_sheets3_numbers v_findings)) (w1 := (wX1_hasRun cI cJ cZ cS a_sheets1 a_sheets1_numbers v_sheets1_bits v_sheets1_size)) fx h [4] rfl rfl rfl rfl (q_runV fx h hl.1 [4] rfl rfl (tX1_hasRun l D cI cJ cZ cS tb a_sheets1 a_sheets1_numbers H.size v_sheets1_bits v_sheets1_size x2 x5 r54 k54 hg) mvX1_hasRun k_566 ⟨rfl, rfl⟩ ⟨Nat.le_of_ble_eq_true rfl, Nat.le_of_ble_eq_true rfl⟩ rfl rfl rfl rfl (Nat.le_of_ble_eq_true rfl) dX4_copy_89 ⟨Nat.le_of_ble_eq_true rfl, Nat.le_of_ble_eq_true rfl⟩) (fun H locs h => ?_)
            refine lv_if_eq (tgt := 111) hx hb dX4_copy_92 (by decide) (fun c55 => ?_) (fun c55 => ?_)
            · have hf := it_t c55 hf
              exact LX4_copy_111 fx h (lv_sub hl [0] rfl) hf
            have hf := it_f c55 hf
            refine lv_aload_n hx hb dX4_copy_95 rfl (lv_at hl 0 rfl) ?_
            refine q_get (v := .ref a_sheets) fx inX4 h 0 rfl rfl 5 (by decide) k_179 rfl dX4_copy_96 ?_
            refine lv_iload_n hx hb dX4_copy_99 rfl (lv_at hl 3 rfl) ?_
            refine q_aald (v := a_sheets0) fx h 1 rfl c50 (vinK (by decide)) rfl dX4_copy_100 ?_
            refine lv_iload hx hb dX4_copy_101 (lv_at hl 4 rfl) ?_
            refine lv_iload hx hb dX4_copy_103 (lv_at hl 5 rfl) ?_
            obtain ⟨r56, k56, hg, hf⟩ := bR_inv hf
            refine q_ci (rest := []) (ws' := (wX4_copy cI cJ cZ cS a_t a_party a_kept a_tape a_telephone a_sheets a_sheets0 a_sheets0_numbers a_sheets1 a_sheets1_numbers a_sheets2 a_sheets2_numbers a_sheets3 a_sheets3_numbers a_findings v_isKept v_sheets0_bits v_sheets0_size v_sheets0_numbers v_sheets1_bits v_sheets1_size v_sheets1_numbers v_sheets2_bits v_sheets2_size v_sheets2_numbers v_sheets3_bits v_sheets3_size v_sheets3_numbers v_findings)) (w1 := (wX1_hasRun cI cJ cZ cS a_sheets0 a_sheets0_numbers v_sheets0_bits v_sheets0_size)) fx h [2] rfl rfl rfl rfl (q_runV fx h hl.1 [2] rfl rfl (tX1_hasRun l D cI cJ cZ cS tb a_sheets0 a_sheets0_numbers H.size v_sheets0_bits v_sheets0_size x4 x5 r56 k56 hg) mvX1_hasRun k_566 ⟨rfl, rfl⟩ ⟨Nat.le_of_ble_eq_true rfl, Nat.le_of_ble_eq_true rfl⟩ rfl rfl rfl rfl (Nat.le_of_ble_eq_true rfl) dX4_copy_105 ⟨Nat.le_of_ble_eq_true rfl, Nat.le_of_ble_eq_true rfl⟩) (fun H locs h => ?_)
            refine lv_if_ne (tgt := 118) hx hb dX4_copy_108 (by decide) (fun c57 => ?_) (fun c57 => ?_)
            · have hf := it_f c57 hf
              refine lv_aload_n hx hb dX4_copy_118 rfl (lv_at hl 0 rfl) ?_
              refine q_get (v := .ref a_sheets) fx inX4 h 0 rfl rfl 5 (by decide) k_179 rfl dX4_copy_119 ?_
              refine lv_iload_n hx hb dX4_copy_122 rfl (lv_at hl 1 rfl) ?_
              refine q_aald (v := a_sheets1) fx h 1 rfl c8 (vinK (by decide)) rfl dX4_copy_123 ?_
              refine q_getN (v := .ref a_sheets1_numbers) fx inX1 h 4 rfl rfl 2 (by decide) nf_11 rfl dX4_copy_124 ?_
              refine lv_iload_n hx hb dX4_copy_127 rfl (lv_at hl 2 rfl) ?_
              refine lv_aload_n hx hb dX4_copy_128 rfl (lv_at hl 0 rfl) ?_
              refine q_get (v := .ref a_sheets) fx inX4 h 0 rfl rfl 5 (by decide) k_179 rfl dX4_copy_129 ?_
              refine lv_iload_n hx hb dX4_copy_132 rfl (lv_at hl 3 rfl) ?_
              refine q_aald (v := a_sheets0) fx h 1 rfl c50 (vinK (by decide)) rfl dX4_copy_133 ?_
              refine q_getN (v := .ref a_sheets0_numbers) fx inX1 h 2 rfl rfl 2 (by decide) nf_11 rfl dX4_copy_134 ?_
              refine lv_iload hx hb dX4_copy_137 (lv_at hl 4 rfl) ?_
              refine lv_iload hx hb dX4_copy_139 (lv_at hl 5 rfl) ?_
              obtain ⟨i58, hf⟩ := gCp_inv hf
              refine q_copyl (ws' := (wX4_copy cI cJ cZ cS a_t a_party a_kept a_tape a_telephone a_sheets a_sheets0 a_sheets0_numbers a_sheets1 a_sheets1_numbers a_sheets2 a_sheets2_numbers a_sheets3 a_sheets3_numbers a_findings v_isKept v_sheets0_bits v_sheets0_size (va_cpy v_sheets1_numbers v_sheets0_numbers x2.toNatClampNeg x4.toNatClampNeg x5.toNatClampNeg) v_sheets1_bits v_sheets1_size v_sheets1_numbers v_sheets2_bits v_sheets2_size v_sheets2_numbers v_sheets3_bits v_sheets3_size v_sheets3_numbers v_findings)) fx h hl.1 5 3 rfl rfl k_570 k_572 k_571 k_58 i58 (Nat.le_of_ble_eq_true rfl) (Nat.le_of_ble_eq_true rfl) rfl dX4_copy_141 (fun H locs h => ?_)
              refine lv_iload hx hb dX4_copy_144 (lv_at hl 5 rfl) ?_
              exact q_reti (fun k : (Nat → Int64) × (Nat → Int64) × (Nat → Int64) × (Nat → Int64) × (Nat → Int32) => (wX4_copy cI cJ cZ cS a_t a_party a_kept a_tape a_telephone a_sheets a_sheets0 a_sheets0_numbers a_sheets1 a_sheets1_numbers a_sheets2 a_sheets2_numbers a_sheets3 a_sheets3_numbers a_findings v_isKept v_sheets0_bits v_sheets0_size k.1 v_sheets1_bits v_sheets1_size k.2.1 v_sheets2_bits v_sheets2_size k.2.2.1 v_sheets3_bits v_sheets3_size k.2.2.2.1 k.2.2.2.2)) fx hf h dX4_copy_146
            have hf := it_t c57 hf
            exact LX4_copy_111 fx h (lv_sub hl [0] rfl) hf
          have hf := it_f c53 hf
          refine lv_aload_n hx hb dX4_copy_73 rfl (lv_at hl 0 rfl) ?_
          refine q_ldc fx k_269 dX4_copy_74 ?_
          obtain ⟨r59, k59, hg, hf⟩ := bR_inv hf
          refine q_ci (rest := []) (ws' := (wX4_copy cI cJ cZ cS a_t a_party a_kept a_tape a_telephone a_sheets a_sheets0 a_sheets0_numbers a_sheets1 a_sheets1_numbers a_sheets2 a_sheets2_numbers a_sheets3 a_sheets3_numbers a_findings v_isKept v_sheets0_bits v_sheets0_size v_sheets0_numbers v_sheets1_bits v_sheets1_size v_sheets1_numbers v_sheets2_bits v_sheets2_size v_sheets2_numbers v_sheets3_bits v_sheets3_size v_sheets3_numbers k59)) (w1 := (wX4_found cI cJ cZ cS a_t a_party a_kept a_tape a_telephone a_sheets a_findings v_isKept k59)) fx h [0, 10] rfl rfl rfl rfl (q_runV fx h hl.1 [0, 10] rfl rfl (tX4_found l D cI cJ cZ cS tb a_t a_party a_kept a_tape a_telephone a_sheets a_findings H.size v_isKept v_findings (-1000000003) r59 k59 hg) mvX4_found k_207 ⟨rfl, rfl⟩ ⟨Nat.le_of_ble_eq_true rfl, Nat.le_of_ble_eq_true rfl⟩ rfl rfl rfl rfl (Nat.le_of_ble_eq_true rfl) dX4_copy_76 ⟨Nat.le_of_ble_eq_true rfl, Nat.le_of_ble_eq_true rfl⟩) (fun H locs h => ?_)
          exact q_reti (fun k : (Nat → Int64) × (Nat → Int64) × (Nat → Int64) × (Nat → Int64) × (Nat → Int32) => (wX4_copy cI cJ cZ cS a_t a_party a_kept a_tape a_telephone a_sheets a_sheets0 a_sheets0_numbers a_sheets1 a_sheets1_numbers a_sheets2 a_sheets2_numbers a_sheets3 a_sheets3_numbers a_findings v_isKept v_sheets0_bits v_sheets0_size k.1 v_sheets1_bits v_sheets1_size k.2.1 v_sheets2_bits v_sheets2_size k.2.2.1 v_sheets3_bits v_sheets3_size k.2.2.2.1 k.2.2.2.2)) fx hf h dX4_copy_79
        have hf := it_f c52 hf
        exact LX4_copy_45 fx h (lv_sub hl [0] rfl) hf
      · refine q_aald (v := a_sheets1) fx h 1 rfl c50 (vinK (by decide)) rfl dX4_copy_38 ?_
        obtain ⟨r60, k60, hg, hf⟩ := bR_inv hf
        refine q_ci (rest := []) (ws' := (wX4_copy cI cJ cZ cS a_t a_party a_kept a_tape a_telephone a_sheets a_sheets0 a_sheets0_numbers a_sheets1 a_sheets1_numbers a_sheets2 a_sheets2_numbers a_sheets3 a_sheets3_numbers a_findings v_isKept v_sheets0_bits v_sheets0_size v_sheets0_numbers v_sheets1_bits v_sheets1_size v_sheets1_numbers v_sheets2_bits v_sheets2_size v_sheets2_numbers v_sheets3_bits v_sheets3_size v_sheets3_numbers v_findings)) (w1 := (wX1_isMissing cI cJ cZ cS a_sheets1 a_sheets1_numbers v_sheets1_bits v_sheets1_size)) fx h [4] rfl rfl rfl rfl (q_runV fx h hl.1 [4] rfl rfl (tX1_isMissing l D cI cJ cZ cS tb a_sheets1 a_sheets1_numbers H.size v_sheets1_bits v_sheets1_size r60 k60 hg) mvX1_isMissing k_553 ⟨rfl, rfl⟩ ⟨Nat.le_of_ble_eq_true rfl, Nat.le_of_ble_eq_true rfl⟩ rfl rfl rfl rfl (Nat.le_of_ble_eq_true rfl) dX4_copy_39 ⟨Nat.le_of_ble_eq_true rfl, Nat.le_of_ble_eq_true rfl⟩) (fun H locs h => ?_)
        refine lv_if_eq (tgt := 52) hx hb dX4_copy_42 (by decide) (fun c61 => ?_) (fun c61 => ?_)
        · have hf := it_t c61 hf
          refine lv_aload_n hx hb dX4_copy_52 rfl (lv_at hl 0 rfl) ?_
          refine q_get (v := .ref a_sheets) fx inX4 h 0 rfl rfl 5 (by decide) k_179 rfl dX4_copy_53 ?_
          refine lv_iload_n hx hb dX4_copy_56 rfl (lv_at hl 1 rfl) ?_
          refine q_aald (v := a_sheets1) fx h 1 rfl c8 (vinK (by decide)) rfl dX4_copy_57 ?_
          refine q_getN (v := .int v_sheets1_bits) fx inX1 h 4 rfl rfl 0 (by decide) nf_9 rfl dX4_copy_58 ?_
          refine lv_aload_n hx hb dX4_copy_61 rfl (lv_at hl 0 rfl) ?_
          refine q_get (v := .ref a_sheets) fx inX4 h 0 rfl rfl 5 (by decide) k_179 rfl dX4_copy_62 ?_
          refine lv_iload_n hx hb dX4_copy_65 rfl (lv_at hl 3 rfl) ?_
          refine q_aald (v := a_sheets1) fx h 1 rfl c50 (vinK (by decide)) rfl dX4_copy_66 ?_
          refine q_getN (v := .int v_sheets1_bits) fx inX1 h 4 rfl rfl 0 (by decide) nf_9 rfl dX4_copy_67 ?_
          refine lv_icmp_eq (tgt := 80) hx hb dX4_copy_70 (by decide) (fun c62 => ?_) (fun c62 => ?_)
          · have hf := it_t c62 hf
            refine lv_aload_n hx hb dX4_copy_80 rfl (lv_at hl 0 rfl) ?_
            refine q_get (v := .ref a_sheets) fx inX4 h 0 rfl rfl 5 (by decide) k_179 rfl dX4_copy_81 ?_
            refine lv_iload_n hx hb dX4_copy_84 rfl (lv_at hl 1 rfl) ?_
            refine q_aald (v := a_sheets1) fx h 1 rfl c8 (vinK (by decide)) rfl dX4_copy_85 ?_
            refine lv_iload_n hx hb dX4_copy_86 rfl (lv_at hl 2 rfl) ?_
            refine lv_iload hx hb dX4_copy_87 (lv_at hl 5 rfl) ?_
            obtain ⟨r63, k63, hg, hf⟩ := bR_inv hf
            refine q_ci (rest := []) (ws' := (wX4_copy cI cJ cZ cS a_t a_party a_kept a_tape a_telephone a_sheets a_sheets0 a_sheets0_numbers a_sheets1 a_sheets1_numbers a_sheets2 a_sheets2_numbers a_sheets3 a_sheets3_numbers a_findings v_isKept v_sheets0_bits v_sheets0_size v_sheets0_numbers v_sheets1_bits v_sheets1_size v_sheets1_numbers v_sheets2_bits v_sheets2_size v_sheets2_numbers v_sheets3_bits v_sheets3_size v_sheets3_numbers v_findings)) (w1 := (wX1_hasRun cI cJ cZ cS a_sheets1 a_sheets1_numbers v_sheets1_bits v_sheets1_size)) fx h [4] rfl rfl rfl rfl (q_runV fx h hl.1 [4] rfl rfl (tX1_hasRun l D cI cJ cZ cS tb a_sheets1 a_sheets1_numbers H.size v_sheets1_bits v_sheets1_size x2 x5 r63 k63 hg) mvX1_hasRun k_566 ⟨rfl, rfl⟩ ⟨Nat.le_of_ble_eq_true rfl, Nat.le_of_ble_eq_true rfl⟩ rfl rfl rfl rfl (Nat.le_of_ble_eq_true rfl) dX4_copy_89 ⟨Nat.le_of_ble_eq_true rfl, Nat.le_of_ble_eq_true rfl⟩) (fun H locs h => ?_)
            refine lv_if_eq (tgt := 111) hx hb dX4_copy_92 (by decide) (fun c64 => ?_) (fun c64 => ?_)
            · have hf := it_t c64 hf
              exact LX4_copy_111 fx h (lv_sub hl [0] rfl) hf
            have hf := it_f c64 hf
            refine lv_aload_n hx hb dX4_copy_95 rfl (lv_at hl 0 rfl) ?_
            refine q_get (v := .ref a_sheets) fx inX4 h 0 rfl rfl 5 (by decide) k_179 rfl dX4_copy_96 ?_
            refine lv_iload_n hx hb dX4_copy_99 rfl (lv_at hl 3 rfl) ?_
            refine q_aald (v := a_sheets1) fx h 1 rfl c50 (vinK (by decide)) rfl dX4_copy_100 ?_
            refine lv_iload hx hb dX4_copy_101 (lv_at hl 4 rfl) ?_
            refine lv_iload hx hb dX4_copy_103 (lv_at hl 5 rfl) ?_
            obtain ⟨r65, k65, hg, hf⟩ := bR_inv hf
            refine q_ci (rest := []) (ws' := (wX4_copy cI cJ cZ cS a_t a_party a_kept a_tape a_telephone a_sheets a_sheets0 a_sheets0_numbers a_sheets1 a_sheets1_numbers a_sheets2 a_sheets2_numbers a_sheets3 a_sheets3_numbers a_findings v_isKept v_sheets0_bits v_sheets0_size v_sheets0_numbers v_sheets1_bits v_sheets1_size v_sheets1_numbers v_sheets2_bits v_sheets2_size v_sheets2_numbers v_sheets3_bits v_sheets3_size v_sheets3_numbers v_findings)) (w1 := (wX1_hasRun cI cJ cZ cS a_sheets1 a_sheets1_numbers v_sheets1_bits v_sheets1_size)) fx h [4] rfl rfl rfl rfl (q_runV fx h hl.1 [4] rfl rfl (tX1_hasRun l D cI cJ cZ cS tb a_sheets1 a_sheets1_numbers H.size v_sheets1_bits v_sheets1_size x4 x5 r65 k65 hg) mvX1_hasRun k_566 ⟨rfl, rfl⟩ ⟨Nat.le_of_ble_eq_true rfl, Nat.le_of_ble_eq_true rfl⟩ rfl rfl rfl rfl (Nat.le_of_ble_eq_true rfl) dX4_copy_105 ⟨Nat.le_of_ble_eq_true rfl, Nat.le_of_ble_eq_true rfl⟩) (fun H locs h => ?_)
            refine lv_if_ne (tgt := 118) hx hb dX4_copy_108 (by decide) (fun c66 => ?_) (fun c66 => ?_)
            · have hf := it_f c66 hf
              refine lv_aload_n hx hb dX4_copy_118 rfl (lv_at hl 0 rfl) ?_
              refine q_get (v := .ref a_sheets) fx inX4 h 0 rfl rfl 5 (by decide) k_179 rfl dX4_copy_119 ?_
              refine lv_iload_n hx hb dX4_copy_122 rfl (lv_at hl 1 rfl) ?_
              refine q_aald (v := a_sheets1) fx h 1 rfl c8 (vinK (by decide)) rfl dX4_copy_123 ?_
              refine q_getN (v := .ref a_sheets1_numbers) fx inX1 h 4 rfl rfl 2 (by decide) nf_11 rfl dX4_copy_124 ?_
              refine lv_iload_n hx hb dX4_copy_127 rfl (lv_at hl 2 rfl) ?_
              refine lv_aload_n hx hb dX4_copy_128 rfl (lv_at hl 0 rfl) ?_
              refine q_get (v := .ref a_sheets) fx inX4 h 0 rfl rfl 5 (by decide) k_179 rfl dX4_copy_129 ?_
              refine lv_iload_n hx hb dX4_copy_132 rfl (lv_at hl 3 rfl) ?_
              refine q_aald (v := a_sheets1) fx h 1 rfl c50 (vinK (by decide)) rfl dX4_copy_133 ?_
              refine q_getN (v := .ref a_sheets1_numbers) fx inX1 h 4 rfl rfl 2 (by decide) nf_11 rfl dX4_copy_134 ?_
              refine lv_iload hx hb dX4_copy_137 (lv_at hl 4 rfl) ?_
              refine lv_iload hx hb dX4_copy_139 (lv_at hl 5 rfl) ?_
              obtain ⟨i67, hf⟩ := gCp_inv hf
              refine q_copyl (ws' := (wX4_copy cI cJ cZ cS a_t a_party a_kept a_tape a_telephone a_sheets a_sheets0 a_sheets0_numbers a_sheets1 a_sheets1_numbers a_sheets2 a_sheets2_numbers a_sheets3 a_sheets3_numbers a_findings v_isKept v_sheets0_bits v_sheets0_size v_sheets0_numbers v_sheets1_bits v_sheets1_size (va_cpy v_sheets1_numbers v_sheets1_numbers x2.toNatClampNeg x4.toNatClampNeg x5.toNatClampNeg) v_sheets2_bits v_sheets2_size v_sheets2_numbers v_sheets3_bits v_sheets3_size v_sheets3_numbers v_findings)) fx h hl.1 5 5 rfl rfl k_570 k_572 k_571 k_58 i67 (Nat.le_of_ble_eq_true rfl) (Nat.le_of_ble_eq_true rfl) rfl dX4_copy_141 (fun H locs h => ?_)
              refine lv_iload hx hb dX4_copy_144 (lv_at hl 5 rfl) ?_
              exact q_reti (fun k : (Nat → Int64) × (Nat → Int64) × (Nat → Int64) × (Nat → Int64) × (Nat → Int32) => (wX4_copy cI cJ cZ cS a_t a_party a_kept a_tape a_telephone a_sheets a_sheets0 a_sheets0_numbers a_sheets1 a_sheets1_numbers a_sheets2 a_sheets2_numbers a_sheets3 a_sheets3_numbers a_findings v_isKept v_sheets0_bits v_sheets0_size k.1 v_sheets1_bits v_sheets1_size k.2.1 v_sheets2_bits v_sheets2_size k.2.2.1 v_sheets3_bits v_sheets3_size k.2.2.2.1 k.2.2.2.2)) fx hf h dX4_copy_146
            have hf := it_t c66 hf
            exact LX4_copy_111 fx h (lv_sub hl [0] rfl) hf
          have hf := it_f c62 hf
          refine lv_aload_n hx hb dX4_copy_73 rfl (lv_at hl 0 rfl) ?_
          refine q_ldc fx k_269 dX4_copy_74 ?_
          obtain ⟨r68, k68, hg, hf⟩ := bR_inv hf
          refine q_ci (rest := []) (ws' := (wX4_copy cI cJ cZ cS a_t a_party a_kept a_tape a_telephone a_sheets a_sheets0 a_sheets0_numbers a_sheets1 a_sheets1_numbers a_sheets2 a_sheets2_numbers a_sheets3 a_sheets3_numbers a_findings v_isKept v_sheets0_bits v_sheets0_size v_sheets0_numbers v_sheets1_bits v_sheets1_size v_sheets1_numbers v_sheets2_bits v_sheets2_size v_sheets2_numbers v_sheets3_bits v_sheets3_size v_sheets3_numbers k68)) (w1 := (wX4_found cI cJ cZ cS a_t a_party a_kept a_tape a_telephone a_sheets a_findings v_isKept k68)) fx h [0, 10] rfl rfl rfl rfl (q_runV fx h hl.1 [0, 10] rfl rfl (tX4_found l D cI cJ cZ cS tb a_t a_party a_kept a_tape a_telephone a_sheets a_findings H.size v_isKept v_findings (-1000000003) r68 k68 hg) mvX4_found k_207 ⟨rfl, rfl⟩ ⟨Nat.le_of_ble_eq_true rfl, Nat.le_of_ble_eq_true rfl⟩ rfl rfl rfl rfl (Nat.le_of_ble_eq_true rfl) dX4_copy_76 ⟨Nat.le_of_ble_eq_true rfl, Nat.le_of_ble_eq_true rfl⟩) (fun H locs h => ?_)
          exact q_reti (fun k : (Nat → Int64) × (Nat → Int64) × (Nat → Int64) × (Nat → Int64) × (Nat → Int32) => (wX4_copy cI cJ cZ cS a_t a_party a_kept a_tape a_telephone a_sheets a_sheets0 a_sheets0_numbers a_sheets1 a_sheets1_numbers a_sheets2 a_sheets2_numbers a_sheets3 a_sheets3_numbers a_findings v_isKept v_sheets0_bits v_sheets0_size k.1 v_sheets1_bits v_sheets1_size k.2.1 v_sheets2_bits v_sheets2_size k.2.2.1 v_sheets3_bits v_sheets3_size k.2.2.2.1 k.2.2.2.2)) fx hf h dX4_copy_79
        have hf := it_f c61 hf
        exact LX4_copy_45 fx h (lv_sub hl [0] rfl) hf
      · refine q_aald (v := a_sheets2) fx h 1 rfl c50 (vinK (by decide)) rfl dX4_copy_38 ?_
        obtain ⟨r69, k69, hg, hf⟩ := bR_inv hf
        refine q_ci (rest := []) (ws' := (wX4_copy cI cJ cZ cS a_t a_party a_kept a_tape a_telephone a_sheets a_sheets0 a_sheets0_numbers a_sheets1 a_sheets1_numbers a_sheets2 a_sheets2_numbers a_sheets3 a_sheets3_numbers a_findings v_isKept v_sheets0_bits v_sheets0_size v_sheets0_numbers v_sheets1_bits v_sheets1_size v_sheets1_numbers v_sheets2_bits v_sheets2_size v_sheets2_numbers v_sheets3_bits v_sheets3_size v_sheets3_numbers v_findings)) (w1 := (wX1_isMissing cI cJ cZ cS a_sheets2 a_sheets2_numbers v_sheets2_bits v_sheets2_size)) fx h [6] rfl rfl rfl rfl (q_runV fx h hl.1 [6] rfl rfl (tX1_isMissing l D cI cJ cZ cS tb a_sheets2 a_sheets2_numbers H.size v_sheets2_bits v_sheets2_size r69 k69 hg) mvX1_isMissing k_553 ⟨rfl, rfl⟩ ⟨Nat.le_of_ble_eq_true rfl, Nat.le_of_ble_eq_true rfl⟩ rfl rfl rfl rfl (Nat.le_of_ble_eq_true rfl) dX4_copy_39 ⟨Nat.le_of_ble_eq_true rfl, Nat.le_of_ble_eq_true rfl⟩) (fun H locs h => ?_)
        refine lv_if_eq (tgt := 52) hx hb dX4_copy_42 (by decide) (fun c70 => ?_) (fun c70 => ?_)
        · have hf := it_t c70 hf
          refine lv_aload_n hx hb dX4_copy_52 rfl (lv_at hl 0 rfl) ?_
          refine q_get (v := .ref a_sheets) fx inX4 h 0 rfl rfl 5 (by decide) k_179 rfl dX4_copy_53 ?_
          refine lv_iload_n hx hb dX4_copy_56 rfl (lv_at hl 1 rfl) ?_
          refine q_aald (v := a_sheets1) fx h 1 rfl c8 (vinK (by decide)) rfl dX4_copy_57 ?_
          refine q_getN (v := .int v_sheets1_bits) fx inX1 h 4 rfl rfl 0 (by decide) nf_9 rfl dX4_copy_58 ?_
          refine lv_aload_n hx hb dX4_copy_61 rfl (lv_at hl 0 rfl) ?_
          refine q_get (v := .ref a_sheets) fx inX4 h 0 rfl rfl 5 (by decide) k_179 rfl dX4_copy_62 ?_
          refine lv_iload_n hx hb dX4_copy_65 rfl (lv_at hl 3 rfl) ?_
          refine q_aald (v := a_sheets2) fx h 1 rfl c50 (vinK (by decide)) rfl dX4_copy_66 ?_
          refine q_getN (v := .int v_sheets2_bits) fx inX1 h 6 rfl rfl 0 (by decide) nf_9 rfl dX4_copy_67 ?_
          refine lv_icmp_eq (tgt := 80) hx hb dX4_copy_70 (by decide) (fun c71 => ?_) (fun c71 => ?_)
          · have hf := it_t c71 hf
            refine lv_aload_n hx hb dX4_copy_80 rfl (lv_at hl 0 rfl) ?_
            refine q_get (v := .ref a_sheets) fx inX4 h 0 rfl rfl 5 (by decide) k_179 rfl dX4_copy_81 ?_
            refine lv_iload_n hx hb dX4_copy_84 rfl (lv_at hl 1 rfl) ?_
            refine q_aald (v := a_sheets1) fx h 1 rfl c8 (vinK (by decide)) rfl dX4_copy_85 ?_
            refine lv_iload_n hx hb dX4_copy_86 rfl (lv_at hl 2 rfl) ?_
            refine lv_iload hx hb dX4_copy_87 (lv_at hl 5 rfl) ?_
            obtain ⟨r72, k72, hg, hf⟩ := bR_inv hf
            refine q_ci (rest := []) (ws' := (wX4_copy cI cJ cZ cS a_t a_party a_kept a_tape a_telephone a_sheets a_sheets0 a_sheets0_numbers a_sheets1 a_sheets1_numbers a_sheets2 a_sheets2_numbers a_sheets3 a_sheets3_numbers a_findings v_isKept v_sheets0_bits v_sheets0_size v_sheets0_numbers v_sheets1_bits v_sheets1_size v_sheets1_numbers v_sheets2_bits v_sheets2_size v_sheets2_numbers v_sheets3_bits v_sheets3_size v_sheets3_numbers v_findings)) (w1 := (wX1_hasRun cI cJ cZ cS a_sheets1 a_sheets1_numbers v_sheets1_bits v_sheets1_size)) fx h [4] rfl rfl rfl rfl (q_runV fx h hl.1 [4] rfl rfl (tX1_hasRun l D cI cJ cZ cS tb a_sheets1 a_sheets1_numbers H.size v_sheets1_bits v_sheets1_size x2 x5 r72 k72 hg) mvX1_hasRun k_566 ⟨rfl, rfl⟩ ⟨Nat.le_of_ble_eq_true rfl, Nat.le_of_ble_eq_true rfl⟩ rfl rfl rfl rfl (Nat.le_of_ble_eq_true rfl) dX4_copy_89 ⟨Nat.le_of_ble_eq_true rfl, Nat.le_of_ble_eq_true rfl⟩) (fun H locs h => ?_)
            refine lv_if_eq (tgt := 111) hx hb dX4_copy_92 (by decide) (fun c73 => ?_) (fun c73 => ?_)
            · have hf := it_t c73 hf
              exact LX4_copy_111 fx h (lv_sub hl [0] rfl) hf
            have hf := it_f c73 hf
            refine lv_aload_n hx hb dX4_copy_95 rfl (lv_at hl 0 rfl) ?_
            refine q_get (v := .ref a_sheets) fx inX4 h 0 rfl rfl 5 (by decide) k_179 rfl dX4_copy_96 ?_
            refine lv_iload_n hx hb dX4_copy_99 rfl (lv_at hl 3 rfl) ?_
            refine q_aald (v := a_sheets2) fx h 1 rfl c50 (vinK (by decide)) rfl dX4_copy_100 ?_
            refine lv_iload hx hb dX4_copy_101 (lv_at hl 4 rfl) ?_
            refine lv_iload hx hb dX4_copy_103 (lv_at hl 5 rfl) ?_
            obtain ⟨r74, k74, hg, hf⟩ := bR_inv hf
            refine q_ci (rest := []) (ws' := (wX4_copy cI cJ cZ cS a_t a_party a_kept a_tape a_telephone a_sheets a_sheets0 a_sheets0_numbers a_sheets1 a_sheets1_numbers a_sheets2 a_sheets2_numbers a_sheets3 a_sheets3_numbers a_findings v_isKept v_sheets0_bits v_sheets0_size v_sheets0_numbers v_sheets1_bits v_sheets1_size v_sheets1_numbers v_sheets2_bits v_sheets2_size v_sheets2_numbers v_sheets3_bits v_sheets3_size v_sheets3_numbers v_findings)) (w1 := (wX1_hasRun cI cJ cZ cS a_sheets2 a_sheets2_numbers v_sheets2_bits v_sheets2_size)) fx h [6] rfl rfl rfl rfl (q_runV fx h hl.1 [6] rfl rfl (tX1_hasRun l D cI cJ cZ cS tb a_sheets2 a_sheets2_numbers H.size v_sheets2_bits v_sheets2_size x4 x5 r74 k74 hg) mvX1_hasRun k_566 ⟨rfl, rfl⟩ ⟨Nat.le_of_ble_eq_true rfl, Nat.le_of_ble_eq_true rfl⟩ rfl rfl rfl rfl (Nat.le_of_ble_eq_true rfl) dX4_copy_105 ⟨Nat.le_of_ble_eq_true rfl, Nat.le_of_ble_eq_true rfl⟩) (fun H locs h => ?_)
            refine lv_if_ne (tgt := 118) hx hb dX4_copy_108 (by decide) (fun c75 => ?_) (fun c75 => ?_)
            · have hf := it_f c75 hf
              refine lv_aload_n hx hb dX4_copy_118 rfl (lv_at hl 0 rfl) ?_
              refine q_get (v := .ref a_sheets) fx inX4 h 0 rfl rfl 5 (by decide) k_179 rfl dX4_copy_119 ?_
              refine lv_iload_n hx hb dX4_copy_122 rfl (lv_at hl 1 rfl) ?_
              refine q_aald (v := a_sheets1) fx h 1 rfl c8 (vinK (by decide)) rfl dX4_copy_123 ?_
              refine q_getN (v := .ref a_sheets1_numbers) fx inX1 h 4 rfl rfl 2 (by decide) nf_11 rfl dX4_copy_124 ?_
              refine lv_iload_n hx hb dX4_copy_127 rfl (lv_at hl 2 rfl) ?_
              refine lv_aload_n hx hb dX4_copy_128 rfl (lv_at hl 0 rfl) ?_
              refine q_get (v := .ref a_sheets) fx inX4 h 0 rfl rfl 5 (by decide) k_179 rfl dX4_copy_129 ?_
              refine lv_iload_n hx hb dX4_copy_132 rfl (lv_at hl 3 rfl) ?_
              refine q_aald (v := a_sheets2) fx h 1 rfl c50 (vinK (by decide)) rfl dX4_copy_133 ?_
              refine q_getN (v := .ref a_sheets2_numbers) fx inX1 h 6 rfl rfl 2 (by decide) nf_11 rfl dX4_copy_134 ?_
              refine lv_iload hx hb dX4_copy_137 (lv_at hl 4 rfl) ?_
              refine lv_iload hx hb dX4_copy_139 (lv_at hl 5 rfl) ?_
              obtain ⟨i76, hf⟩ := gCp_inv hf
              refine q_copyl (ws' := (wX4_copy cI cJ cZ cS a_t a_party a_kept a_tape a_telephone a_sheets a_sheets0 a_sheets0_numbers a_sheets1 a_sheets1_numbers a_sheets2 a_sheets2_numbers a_sheets3 a_sheets3_numbers a_findings v_isKept v_sheets0_bits v_sheets0_size v_sheets0_numbers v_sheets1_bits v_sheets1_size v_sheets1_numbers v_sheets2_bits v_sheets2_size (va_cpy v_sheets1_numbers v_sheets2_numbers x2.toNatClampNeg x4.toNatClampNeg x5.toNatClampNeg) v_sheets3_bits v_sheets3_size v_sheets3_numbers v_findings)) fx h hl.1 5 7 rfl rfl k_570 k_572 k_571 k_58 i76 (Nat.le_of_ble_eq_true rfl) (Nat.le_of_ble_eq_true rfl) rfl dX4_copy_141 (fun H locs h => ?_)
              refine lv_iload hx hb dX4_copy_144 (lv_at hl 5 rfl) ?_
              exact q_reti (fun k : (Nat → Int64) × (Nat → Int64) × (Nat → Int64) × (Nat → Int64) × (Nat → Int32) => (wX4_copy cI cJ cZ cS a_t a_party a_kept a_tape a_telephone a_sheets a_sheets0 a_sheets0_numbers a_sheets1 a_sheets1_numbers a_sheets2 a_sheets2_numbers a_sheets3 a_sheets3_numbers a_findings v_isKept v_sheets0_bits v_sheets0_size k.1 v_sheets1_bits v_sheets1_size k.2.1 v_sheets2_bits v_sheets2_size k.2.2.1 v_sheets3_bits v_sheets3_size k.2.2.2.1 k.2.2.2.2)) fx hf h dX4_copy_146
            have hf := it_t c75 hf
            exact LX4_copy_111 fx h (lv_sub hl [0] rfl) hf
          have hf := it_f c71 hf
          refine lv_aload_n hx hb dX4_copy_73 rfl (lv_at hl 0 rfl) ?_
          refine q_ldc fx k_269 dX4_copy_74 ?_
          obtain ⟨r77, k77, hg, hf⟩ := bR_inv hf
          refine q_ci (rest := []) (ws' := (wX4_copy cI cJ cZ cS a_t a_party a_kept a_tape a_telephone a_sheets a_sheets0 a_sheets0_numbers a_sheets1 a_sheets1_numbers a_sheets2 a_sheets2_numbers a_sheets3 a_sheets3_numbers a_findings v_isKept v_sheets0_bits v_sheets0_size v_sheets0_numbers v_sheets1_bits v_sheets1_size v_sheets1_numbers v_sheets2_bits v_sheets2_size v_sheets2_numbers v_sheets3_bits v_sheets3_size v_sheets3_numbers k77)) (w1 := (wX4_found cI cJ cZ cS a_t a_party a_kept a_tape a_telephone a_sheets a_findings v_isKept k77)) fx h [0, 10] rfl rfl rfl rfl (q_runV fx h hl.1 [0, 10] rfl rfl (tX4_found l D cI cJ cZ cS tb a_t a_party a_kept a_tape a_telephone a_sheets a_findings H.size v_isKept v_findings (-1000000003) r77 k77 hg) mvX4_found k_207 ⟨rfl, rfl⟩ ⟨Nat.le_of_ble_eq_true rfl, Nat.le_of_ble_eq_true rfl⟩ rfl rfl rfl rfl (Nat.le_of_ble_eq_true rfl) dX4_copy_76 ⟨Nat.le_of_ble_eq_true rfl, Nat.le_of_ble_eq_true rfl⟩) (fun H locs h => ?_)
          exact q_reti (fun k : (Nat → Int64) × (Nat → Int64) × (Nat → Int64) × (Nat → Int64) × (Nat → Int32) => (wX4_copy cI cJ cZ cS a_t a_party a_kept a_tape a_telephone a_sheets a_sheets0 a_sheets0_numbers a_sheets1 a_sheets1_numbers a_sheets2 a_sheets2_numbers a_sheets3 a_sheets3_numbers a_findings v_isKept v_sheets0_bits v_sheets0_size k.1 v_sheets1_bits v_sheets1_size k.2.1 v_sheets2_bits v_sheets2_size k.2.2.1 v_sheets3_bits v_sheets3_size k.2.2.2.1 k.2.2.2.2)) fx hf h dX4_copy_79
        have hf := it_f c70 hf
        exact LX4_copy_45 fx h (lv_sub hl [0] rfl) hf
      · refine q_aald (v := a_sheets3) fx h 1 rfl c50 (vinK (by decide)) rfl dX4_copy_38 ?_
        obtain ⟨r78, k78, hg, hf⟩ := bR_inv hf
        refine q_ci (rest := []) (ws' := (wX4_copy cI cJ cZ cS a_t a_party a_kept a_tape a_telephone a_sheets a_sheets0 a_sheets0_numbers a_sheets1 a_sheets1_numbers a_sheets2 a_sheets2_numbers a_sheets3 a_sheets3_numbers a_findings v_isKept v_sheets0_bits v_sheets0_size v_sheets0_numbers v_sheets1_bits v_sheets1_size v_sheets1_numbers v_sheets2_bits v_sheets2_size v_sheets2_numbers v_sheets3_bits v_sheets3_size v_sheets3_numbers v_findings)) (w1 := (wX1_isMissing cI cJ cZ cS a_sheets3 a_sheets3_numbers v_sheets3_bits v_sheets3_size)) fx h [8] rfl rfl rfl rfl (q_runV fx h hl.1 [8] rfl rfl (tX1_isMissing l D cI cJ cZ cS tb a_sheets3 a_sheets3_numbers H.size v_sheets3_bits v_sheets3_size r78 k78 hg) mvX1_isMissing k_553 ⟨rfl, rfl⟩ ⟨Nat.le_of_ble_eq_true rfl, Nat.le_of_ble_eq_true rfl⟩ rfl rfl rfl rfl (Nat.le_of_ble_eq_true rfl) dX4_copy_39 ⟨Nat.le_of_ble_eq_true rfl, Nat.le_of_ble_eq_true rfl⟩) (fun H locs h => ?_)
        refine lv_if_eq (tgt := 52) hx hb dX4_copy_42 (by decide) (fun c79 => ?_) (fun c79 => ?_)
        · have hf := it_t c79 hf
          refine lv_aload_n hx hb dX4_copy_52 rfl (lv_at hl 0 rfl) ?_
          refine q_get (v := .ref a_sheets) fx inX4 h 0 rfl rfl 5 (by decide) k_179 rfl dX4_copy_53 ?_
          refine lv_iload_n hx hb dX4_copy_56 rfl (lv_at hl 1 rfl) ?_
          refine q_aald (v := a_sheets1) fx h 1 rfl c8 (vinK (by decide)) rfl dX4_copy_57 ?_
          refine q_getN (v := .int v_sheets1_bits) fx inX1 h 4 rfl rfl 0 (by decide) nf_9 rfl dX4_copy_58 ?_
          refine lv_aload_n hx hb dX4_copy_61 rfl (lv_at hl 0 rfl) ?_
          refine q_get (v := .ref a_sheets) fx inX4 h 0 rfl rfl 5 (by decide) k_179 rfl dX4_copy_62 ?_
          refine lv_iload_n hx hb dX4_copy_65 rfl (lv_at hl 3 rfl) ?_
          refine q_aald (v := a_sheets3) fx h 1 rfl c50 (vinK (by decide)) rfl dX4_copy_66 ?_
          refine q_getN (v := .int v_sheets3_bits) fx inX1 h 8 rfl rfl 0 (by decide) nf_9 rfl dX4_copy_67 ?_
          refine lv_icmp_eq (tgt := 80) hx hb dX4_copy_70 (by decide) (fun c80 => ?_) (fun c80 => ?_)
          · have hf := it_t c80 hf
            refine lv_aload_n hx hb dX4_copy_80 rfl (lv_at hl 0 rfl) ?_
            refine q_get (v := .ref a_sheets) fx inX4 h 0 rfl rfl 5 (by decide) k_179 rfl dX4_copy_81 ?_
            refine lv_iload_n hx hb dX4_copy_84 rfl (lv_at hl 1 rfl) ?_
            refine q_aald (v := a_sheets1) fx h 1 rfl c8 (vinK (by decide)) rfl dX4_copy_85 ?_
            refine lv_iload_n hx hb dX4_copy_86 rfl (lv_at hl 2 rfl) ?_
            refine lv_iload hx hb dX4_copy_87 (lv_at hl 5 rfl) ?_
            obtain ⟨r81, k81, hg, hf⟩ := bR_inv hf
            refine q_ci (rest := []) (ws' := (wX4_copy cI cJ cZ cS a_t a_party a_kept a_tape a_telephone a_sheets a_sheets0 a_sheets0_numbers a_sheets1 a_sheets1_numbers a_sheets2 a_sheets2_numbers a_sheets3 a_sheets3_numbers a_findings v_isKept v_sheets0_bits v_sheets0_size v_sheets0_numbers v_sheets1_bits v_sheets1_size v_sheets1_numbers v_sheets2_bits v_sheets2_size v_sheets2_numbers v_sheets3_bits v_sheets3_size v_sheets3_numbers v_findings)) (w1 := (wX1_hasRun cI cJ cZ cS a_sheets1 a_sheets1_numbers v_sheets1_bits v_sheets1_size)) fx h [4] rfl rfl rfl rfl (q_runV fx h hl.1 [4] rfl rfl (tX1_hasRun l D cI cJ cZ cS tb a_sheets1 a_sheets1_numbers H.size v_sheets1_bits v_sheets1_size x2 x5 r81 k81 hg) mvX1_hasRun k_566 ⟨rfl, rfl⟩ ⟨Nat.le_of_ble_eq_true rfl, Nat.le_of_ble_eq_true rfl⟩ rfl rfl rfl rfl (Nat.le_of_ble_eq_true rfl) dX4_copy_89 ⟨Nat.le_of_ble_eq_true rfl, Nat.le_of_ble_eq_true rfl⟩) (fun H locs h => ?_)
            refine lv_if_eq (tgt := 111) hx hb dX4_copy_92 (by decide) (fun c82 => ?_) (fun c82 => ?_)
            · have hf := it_t c82 hf
              exact LX4_copy_111 fx h (lv_sub hl [0] rfl) hf
            have hf := it_f c82 hf
            refine lv_aload_n hx hb dX4_copy_95 rfl (lv_at hl 0 rfl) ?_
            refine q_get (v := .ref a_sheets) fx inX4 h 0 rfl rfl 5 (by decide) k_179 rfl dX4_copy_96 ?_
            refine lv_iload_n hx hb dX4_copy_99 rfl (lv_at hl 3 rfl) ?_
            refine q_aald (v := a_sheets3) fx h 1 rfl c50 (vinK (by decide)) rfl dX4_copy_100 ?_
            refine lv_iload hx hb dX4_copy_101 (lv_at hl 4 rfl) ?_
            refine lv_iload hx hb dX4_copy_103 (lv_at hl 5 rfl) ?_
            obtain ⟨r83, k83, hg, hf⟩ := bR_inv hf
            refine q_ci (rest := []) (ws' := (wX4_copy cI cJ cZ cS a_t a_party a_kept a_tape a_telephone a_sheets a_sheets0 a_sheets0_numbers a_sheets1 a_sheets1_numbers a_sheets2 a_sheets2_numbers a_sheets3 a_sheets3_numbers a_findings v_isKept v_sheets0_bits v_sheets0_size v_sheets0_numbers v_sheets1_bits v_sheets1_size v_sheets1_numbers v_sheets2_bits v_sheets2_size v_sheets2_numbers v_sheets3_bits v_sheets3_size v_sheets3_numbers v_findings)) (w1 := (wX1_hasRun cI cJ cZ cS a_sheets3 a_sheets3_numbers v_sheets3_bits v_sheets3_size)) fx h [8] rfl rfl rfl rfl (q_runV fx h hl.1 [8] rfl rfl (tX1_hasRun l D cI cJ cZ cS tb a_sheets3 a_sheets3_numbers H.size v_sheets3_bits v_sheets3_size x4 x5 r83 k83 hg) mvX1_hasRun k_566 ⟨rfl, rfl⟩ ⟨Nat.le_of_ble_eq_true rfl, Nat.le_of_ble_eq_true rfl⟩ rfl rfl rfl rfl (Nat.le_of_ble_eq_true rfl) dX4_copy_105 ⟨Nat.le_of_ble_eq_true rfl, Nat.le_of_ble_eq_true rfl⟩) (fun H locs h => ?_)
            refine lv_if_ne (tgt := 118) hx hb dX4_copy_108 (by decide) (fun c84 => ?_) (fun c84 => ?_)
            · have hf := it_f c84 hf
              refine lv_aload_n hx hb dX4_copy_118 rfl (lv_at hl 0 rfl) ?_
              refine q_get (v := .ref a_sheets) fx inX4 h 0 rfl rfl 5 (by decide) k_179 rfl dX4_copy_119 ?_
              refine lv_iload_n hx hb dX4_copy_122 rfl (lv_at hl 1 rfl) ?_
              refine q_aald (v := a_sheets1) fx h 1 rfl c8 (vinK (by decide)) rfl dX4_copy_123 ?_
              refine q_getN (v := .ref a_sheets1_numbers) fx inX1 h 4 rfl rfl 2 (by decide) nf_11 rfl dX4_copy_124 ?_
              refine lv_iload_n hx hb dX4_copy_127 rfl (lv_at hl 2 rfl) ?_
              refine lv_aload_n hx hb dX4_copy_128 rfl (lv_at hl 0 rfl) ?_
              refine q_get (v := .ref a_sheets) fx inX4 h 0 rfl rfl 5 (by decide) k_179 rfl dX4_copy_129 ?_
              refine lv_iload_n hx hb dX4_copy_132 rfl (lv_at hl 3 rfl) ?_
              refine q_aald (v := a_sheets3) fx h 1 rfl c50 (vinK (by decide)) rfl dX4_copy_133 ?_
              refine q_getN (v := .ref a_sheets3_numbers) fx inX1 h 8 rfl rfl 2 (by decide) nf_11 rfl dX4_copy_134 ?_
              refine lv_iload hx hb dX4_copy_137 (lv_at hl 4 rfl) ?_
              refine lv_iload hx hb dX4_copy_139 (lv_at hl 5 rfl) ?_
              obtain ⟨i85, hf⟩ := gCp_inv hf
              refine q_copyl (ws' := (wX4_copy cI cJ cZ cS a_t a_party a_kept a_tape a_telephone a_sheets a_sheets0 a_sheets0_numbers a_sheets1 a_sheets1_numbers a_sheets2 a_sheets2_numbers a_sheets3 a_sheets3_numbers a_findings v_isKept v_sheets0_bits v_sheets0_size v_sheets0_numbers v_sheets1_bits v_sheets1_size v_sheets1_numbers v_sheets2_bits v_sheets2_size v_sheets2_numbers v_sheets3_bits v_sheets3_size (va_cpy v_sheets1_numbers v_sheets3_numbers x2.toNatClampNeg x4.toNatClampNeg x5.toNatClampNeg) v_findings)) fx h hl.1 5 9 rfl rfl k_570 k_572 k_571 k_58 i85 (Nat.le_of_ble_eq_true rfl) (Nat.le_of_ble_eq_true rfl) rfl dX4_copy_141 (fun H locs h => ?_)
              refine lv_iload hx hb dX4_copy_144 (lv_at hl 5 rfl) ?_
              exact q_reti (fun k : (Nat → Int64) × (Nat → Int64) × (Nat → Int64) × (Nat → Int64) × (Nat → Int32) => (wX4_copy cI cJ cZ cS a_t a_party a_kept a_tape a_telephone a_sheets a_sheets0 a_sheets0_numbers a_sheets1 a_sheets1_numbers a_sheets2 a_sheets2_numbers a_sheets3 a_sheets3_numbers a_findings v_isKept v_sheets0_bits v_sheets0_size k.1 v_sheets1_bits v_sheets1_size k.2.1 v_sheets2_bits v_sheets2_size k.2.2.1 v_sheets3_bits v_sheets3_size k.2.2.2.1 k.2.2.2.2)) fx hf h dX4_copy_146
            have hf := it_t c84 hf
            exact LX4_copy_111 fx h (lv_sub hl [0] rfl) hf
          have hf := it_f c80 hf
          refine lv_aload_n hx hb dX4_copy_73 rfl (lv_at hl 0 rfl) ?_
          refine q_ldc fx k_269 dX4_copy_74 ?_
          obtain ⟨r86, k86, hg, hf⟩ := bR_inv hf
          refine q_ci (rest := []) (ws' := (wX4_copy cI cJ cZ cS a_t a_party a_kept a_tape a_telephone a_sheets a_sheets0 a_sheets0_numbers a_sheets1 a_sheets1_numbers a_sheets2 a_sheets2_numbers a_sheets3 a_sheets3_numbers a_findings v_isKept v_sheets0_bits v_sheets0_size v_sheets0_numbers v_sheets1_bits v_sheets1_size v_sheets1_numbers v_sheets2_bits v_sheets2_size v_sheets2_numbers v_sheets3_bits v_sheets3_size v_sheets3_numbers k86)) (w1 := (wX4_found cI cJ cZ cS a_t a_party a_kept a_tape a_telephone a_sheets a_findings v_isKept k86)) fx h [0, 10] rfl rfl rfl rfl (q_runV fx h hl.1 [0, 10] rfl rfl (tX4_found l D cI cJ cZ cS tb a_t a_party a_kept a_tape a_telephone a_sheets a_findings H.size v_isKept v_findings (-1000000003) r86 k86 hg) mvX4_found k_207 ⟨rfl, rfl⟩ ⟨Nat.le_of_ble_eq_true rfl, Nat.le_of_ble_eq_true rfl⟩ rfl rfl rfl rfl (Nat.le_of_ble_eq_true rfl) dX4_copy_76 ⟨Nat.le_of_ble_eq_true rfl, Nat.le_of_ble_eq_true rfl⟩) (fun H locs h => ?_)
          exact q_reti (fun k : (Nat → Int64) × (Nat → Int64) × (Nat → Int64) × (Nat → Int64) × (Nat → Int32) => (wX4_copy cI cJ cZ cS a_t a_party a_kept a_tape a_telephone a_sheets a_sheets0 a_sheets0_numbers a_sheets1 a_sheets1_numbers a_sheets2 a_sheets2_numbers a_sheets3 a_sheets3_numbers a_findings v_isKept v_sheets0_bits v_sheets0_size k.1 v_sheets1_bits v_sheets1_size k.2.1 v_sheets2_bits v_sheets2_size k.2.2.1 v_sheets3_bits v_sheets3_size k.2.2.2.1 k.2.2.2.2)) fx hf h dX4_copy_79
        have hf := it_f c79 hf
        exact LX4_copy_45 fx h (lv_sub hl [0] rfl) hf
    · refine q_aald (v := a_sheets2) fx h 1 rfl c8 (vinK (by decide)) rfl dX4_copy_26 ?_
      obtain ⟨r87, k87, hg, hf⟩ := bR_inv hf
      refine q_ci (rest := []) (ws' := (wX4_copy cI cJ cZ cS a_t a_party a_kept a_tape a_telephone a_sheets a_sheets0 a_sheets0_numbers a_sheets1 a_sheets1_numbers a_sheets2 a_sheets2_numbers a_sheets3 a_sheets3_numbers a_findings v_isKept v_sheets0_bits v_sheets0_size v_sheets0_numbers v_sheets1_bits v_sheets1_size v_sheets1_numbers v_sheets2_bits v_sheets2_size v_sheets2_numbers v_sheets3_bits v_sheets3_size v_sheets3_numbers v_findings)) (w1 := (wX1_isMissing cI cJ cZ cS a_sheets2 a_sheets2_numbers v_sheets2_bits v_sheets2_size)) fx h [6] rfl rfl rfl rfl (q_runV fx h hl.1 [6] rfl rfl (tX1_isMissing l D cI cJ cZ cS tb a_sheets2 a_sheets2_numbers H.size v_sheets2_bits v_sheets2_size r87 k87 hg) mvX1_isMissing k_553 ⟨rfl, rfl⟩ ⟨Nat.le_of_ble_eq_true rfl, Nat.le_of_ble_eq_true rfl⟩ rfl rfl rfl rfl (Nat.le_of_ble_eq_true rfl) dX4_copy_27 ⟨Nat.le_of_ble_eq_true rfl, Nat.le_of_ble_eq_true rfl⟩) (fun H locs h => ?_)
      refine lv_if_ne (tgt := 45) hx hb dX4_copy_30 (by decide) (fun c88 => ?_) (fun c88 => ?_)
      · have hf := it_f c88 hf
        exact LX4_copy_45 fx h (lv_sub hl [0] rfl) hf
      have hf := it_t c88 hf
      refine lv_aload_n hx hb dX4_copy_33 rfl (lv_at hl 0 rfl) ?_
      refine q_get (v := .ref a_sheets) fx inX4 h 0 rfl rfl 5 (by decide) k_179 rfl dX4_copy_34 ?_
      refine lv_iload_n hx hb dX4_copy_37 rfl (lv_at hl 3 rfl) ?_
      rcases sel4_inv hf with ⟨c89, hf⟩ | ⟨c89, hf⟩ | ⟨c89, hf⟩ | ⟨c89, hf⟩
      · refine q_aald (v := a_sheets0) fx h 1 rfl c89 (vinK (by decide)) rfl dX4_copy_38 ?_
        obtain ⟨r90, k90, hg, hf⟩ := bR_inv hf
        refine q_ci (rest := []) (ws' := (wX4_copy cI cJ cZ cS a_t a_party a_kept a_tape a_telephone a_sheets a_sheets0 a_sheets0_numbers a_sheets1 a_sheets1_numbers a_sheets2 a_sheets2_numbers a_sheets3 a_sheets3_numbers a_findings v_isKept v_sheets0_bits v_sheets0_size v_sheets0_numbers v_sheets1_bits v_sheets1_size v_sheets1_numbers v_sheets2_bits v_sheets2_size v_sheets2_numbers v_sheets3_bits v_sheets3_size v_sheets3_numbers v_findings)) (w1 := (wX1_isMissing cI cJ cZ cS a_sheets0 a_sheets0_numbers v_sheets0_bits v_sheets0_size)) fx h [2] rfl rfl rfl rfl (q_runV fx h hl.1 [2] rfl rfl (tX1_isMissing l D cI cJ cZ cS tb a_sheets0 a_sheets0_numbers H.size v_sheets0_bits v_sheets0_size r90 k90 hg) mvX1_isMissing k_553 ⟨rfl, rfl⟩ ⟨Nat.le_of_ble_eq_true rfl, Nat.le_of_ble_eq_true rfl⟩ rfl rfl rfl rfl (Nat.le_of_ble_eq_true rfl) dX4_copy_39 ⟨Nat.le_of_ble_eq_true rfl, Nat.le_of_ble_eq_true rfl⟩) (fun H locs h => ?_)
        refine lv_if_eq (tgt := 52) hx hb dX4_copy_42 (by decide) (fun c91 => ?_) (fun c91 => ?_)
        · have hf := it_t c91 hf
          refine lv_aload_n hx hb dX4_copy_52 rfl (lv_at hl 0 rfl) ?_
          refine q_get (v := .ref a_sheets) fx inX4 h 0 rfl rfl 5 (by decide) k_179 rfl dX4_copy_53 ?_
          refine lv_iload_n hx hb dX4_copy_56 rfl (lv_at hl 1 rfl) ?_
          refine q_aald (v := a_sheets2) fx h 1 rfl c8 (vinK (by decide)) rfl dX4_copy_57 ?_
          refine q_getN (v := .int v_sheets2_bits) fx inX1 h 6 rfl rfl 0 (by decide) nf_9 rfl dX4_copy_58 ?_
          refine lv_aload_n hx hb dX4_copy_61 rfl (lv_at hl 0 rfl) ?_
          refine q_get (v := .ref a_sheets) fx inX4 h 0 rfl rfl 5 (by decide) k_179 rfl dX4_copy_62 ?_
          refine lv_iload_n hx hb dX4_copy_65 rfl (lv_at hl 3 rfl) ?_
          refine q_aald (v := a_sheets0) fx h 1 rfl c89 (vinK (by decide)) rfl dX4_copy_66 ?_
          refine q_getN (v := .int v_sheets0_bits) fx inX1 h 2 rfl rfl 0 (by decide) nf_9 rfl dX4_copy_67 ?_
          refine lv_icmp_eq (tgt := 80) hx hb dX4_copy_70 (by decide) (fun c92 => ?_) (fun c92 => ?_)
          · have hf := it_t c92 hf
            refine lv_aload_n hx hb dX4_copy_80 rfl (lv_at hl 0 rfl) ?_
            refine q_get (v := .ref a_sheets) fx inX4 h 0 rfl rfl 5 (by decide) k_179 rfl dX4_copy_81 ?_
            refine lv_iload_n hx hb dX4_copy_84 rfl (lv_at hl 1 rfl) ?_
            refine q_aald (v := a_sheets2) fx h 1 rfl c8 (vinK (by decide)) rfl dX4_copy_85 ?_
            refine lv_iload_n hx hb dX4_copy_86 rfl (lv_at hl 2 rfl) ?_
            refine lv_iload hx hb dX4_copy_87 (lv_at hl 5 rfl) ?_
            obtain ⟨r93, k93, hg, hf⟩ := bR_inv hf
            refine q_ci (rest := []) (ws' := (wX4_copy cI cJ cZ cS a_t a_party a_kept a_tape a_telephone a_sheets a_sheets0 a_sheets0_numbers a_sheets1 a_sheets1_numbers a_sheets2 a_sheets2_numbers a_sheets3 a_sheets3_numbers a_findings v_isKept v_sheets0_bits v_sheets0_size v_sheets0_numbers v_sheets1_bits v_sheets1_size v_sheets1_numbers v_sheets2_bits v_sheets2_size v_sheets2_numbers v_sheets3_bits v_sheets3_size v_sheets3_numbers v_findings)) (w1 := (wX1_hasRun cI cJ cZ cS a_sheets2 a_sheets2_numbers v_sheets2_bits v_sheets2_size)) fx h [6] rfl rfl rfl rfl (q_runV fx h hl.1 [6] rfl rfl (tX1_hasRun l D cI cJ cZ cS tb a_sheets2 a_sheets2_numbers H.size v_sheets2_bits v_sheets2_size x2 x5 r93 k93 hg) mvX1_hasRun k_566 ⟨rfl, rfl⟩ ⟨Nat.le_of_ble_eq_true rfl, Nat.le_of_ble_eq_true rfl⟩ rfl rfl rfl rfl (Nat.le_of_ble_eq_true rfl) dX4_copy_89 ⟨Nat.le_of_ble_eq_true rfl, Nat.le_of_ble_eq_true rfl⟩) (fun H locs h => ?_)
            refine lv_if_eq (tgt := 111) hx hb dX4_copy_92 (by decide) (fun c94 => ?_) (fun c94 => ?_)
            · have hf := it_t c94 hf
              exact LX4_copy_111 fx h (lv_sub hl [0] rfl) hf
            have hf := it_f c94 hf
            refine lv_aload_n hx hb dX4_copy_95 rfl (lv_at hl 0 rfl) ?_
            refine q_get (v := .ref a_sheets) fx inX4 h 0 rfl rfl 5 (by decide) k_179 rfl dX4_copy_96 ?_
            refine lv_iload_n hx hb dX4_copy_99 rfl (lv_at hl 3 rfl) ?_
            refine q_aald (v := a_sheets0) fx h 1 rfl c89 (vinK (by decide)) rfl dX4_copy_100 ?_
            refine lv_iload hx hb dX4_copy_101 (lv_at hl 4 rfl) ?_
            refine lv_iload hx hb dX4_copy_103 (lv_at hl 5 rfl) ?_
            obtain ⟨r95, k95, hg, hf⟩ := bR_inv hf
            refine q_ci (rest := []) (ws' := (wX4_copy cI cJ cZ cS a_t a_party a_kept a_tape a_telephone a_sheets a_sheets0 a_sheets0_numbers a_sheets1 a_sheets1_numbers a_sheets2 a_sheets2_numbers a_sheets3 a_sheets3_numbers a_findings v_isKept v_sheets0_bits v_sheets0_size v_sheets0_numbers v_sheets1_bits v_sheets1_size v_sheets1_numbers v_sheets2_bits v_sheets2_size v_sheets2_numbers v_sheets3_bits v_sheets3_size v_sheets3_numbers v_findings)) (w1 := (wX1_hasRun cI cJ cZ cS a_sheets0 a_sheets0_numbers v_sheets0_bits v_sheets0_size)) fx h [2] rfl rfl rfl rfl (q_runV fx h hl.1 [2] rfl rfl (tX1_hasRun l D cI cJ cZ cS tb a_sheets0 a_sheets0_numbers H.size v_sheets0_bits v_sheets0_size x4 x5 r95 k95 hg) mvX1_hasRun k_566 ⟨rfl, rfl⟩ ⟨Nat.le_of_ble_eq_true rfl, Nat.le_of_ble_eq_true rfl⟩ rfl rfl rfl rfl (Nat.le_of_ble_eq_true rfl) dX4_copy_105 ⟨Nat.le_of_ble_eq_true rfl, Nat.le_of_ble_eq_true rfl⟩) (fun H locs h => ?_)
            refine lv_if_ne (tgt := 118) hx hb dX4_copy_108 (by decide) (fun c96 => ?_) (fun c96 => ?_)
            · have hf := it_f c96 hf
              refine lv_aload_n hx hb dX4_copy_118 rfl (lv_at hl 0 rfl) ?_
              refine q_get (v := .ref a_sheets) fx inX4 h 0 rfl rfl 5 (by decide) k_179 rfl dX4_copy_119 ?_
              refine lv_iload_n hx hb dX4_copy_122 rfl (lv_at hl 1 rfl) ?_
              refine q_aald (v := a_sheets2) fx h 1 rfl c8 (vinK (by decide)) rfl dX4_copy_123 ?_
              refine q_getN (v := .ref a_sheets2_numbers) fx inX1 h 6 rfl rfl 2 (by decide) nf_11 rfl dX4_copy_124 ?_
              refine lv_iload_n hx hb dX4_copy_127 rfl (lv_at hl 2 rfl) ?_
              refine lv_aload_n hx hb dX4_copy_128 rfl (lv_at hl 0 rfl) ?_
              refine q_get (v := .ref a_sheets) fx inX4 h 0 rfl rfl 5 (by decide) k_179 rfl dX4_copy_129 ?_
              refine lv_iload_n hx hb dX4_copy_132 rfl (lv_at hl 3 rfl) ?_
              refine q_aald (v := a_sheets0) fx h 1 rfl c89 (vinK (by decide)) rfl dX4_copy_133 ?_
              refine q_getN (v := .ref a_sheets0_numbers) fx inX1 h 2 rfl rfl 2 (by decide) nf_11 rfl dX4_copy_134 ?_
              refine lv_iload hx hb dX4_copy_137 (lv_at hl 4 rfl) ?_
              refine lv_iload hx hb dX4_copy_139 (lv_at hl 5 rfl) ?_
              obtain ⟨i97, hf⟩ := gCp_inv hf
              refine q_copyl (ws' := (wX4_copy cI cJ cZ cS a_t a_party a_kept a_tape a_telephone a_sheets a_sheets0 a_sheets0_numbers a_sheets1 a_sheets1_numbers a_sheets2 a_sheets2_numbers a_sheets3 a_sheets3_numbers a_findings v_isKept v_sheets0_bits v_sheets0_size (va_cpy v_sheets2_numbers v_sheets0_numbers x2.toNatClampNeg x4.toNatClampNeg x5.toNatClampNeg) v_sheets1_bits v_sheets1_size v_sheets1_numbers v_sheets2_bits v_sheets2_size v_sheets2_numbers v_sheets3_bits v_sheets3_size v_sheets3_numbers v_findings)) fx h hl.1 7 3 rfl rfl k_570 k_572 k_571 k_58 i97 (Nat.le_of_ble_eq_true rfl) (Nat.le_of_ble_eq_true rfl) rfl dX4_copy_141 (fun H locs h => ?_)
              refine lv_iload hx hb dX4_copy_144 (lv_at hl 5 rfl) ?_
              exact q_reti (fun k : (Nat → Int64) × (Nat → Int64) × (Nat → Int64) × (Nat → Int64) × (Nat → Int32) => (wX4_copy cI cJ cZ cS a_t a_party a_kept a_tape a_telephone a_sheets a_sheets0 a_sheets0_numbers a_sheets1 a_sheets1_numbers a_sheets2 a_sheets2_numbers a_sheets3 a_sheets3_numbers a_findings v_isKept v_sheets0_bits v_sheets0_size k.1 v_sheets1_bits v_sheets1_size k.2.1 v_sheets2_bits v_sheets2_size k.2.2.1 v_sheets3_bits v_sheets3_size k.2.2.2.1 k.2.2.2.2)) fx hf h dX4_copy_146
            have hf := it_t c96 hf
            exact LX4_copy_111 fx h (lv_sub hl [0] rfl) hf
          have hf := it_f c92 hf
          refine lv_aload_n hx hb dX4_copy_73 rfl (lv_at hl 0 rfl) ?_
          refine q_ldc fx k_269 dX4_copy_74 ?_
          obtain ⟨r98, k98, hg, hf⟩ := bR_inv hf
          refine q_ci (rest := []) (ws' := (wX4_copy cI cJ cZ cS a_t a_party a_kept a_tape a_telephone a_sheets a_sheets0 a_sheets0_numbers a_sheets1 a_sheets1_numbers a_sheets2 a_sheets2_numbers a_sheets3 a_sheets3_numbers a_findings v_isKept v_sheets0_bits v_sheets0_size v_sheets0_numbers v_sheets1_bits v_sheets1_size v_sheets1_numbers v_sheets2_bits v_sheets2_size v_sheets2_numbers v_sheets3_bits v_sheets3_size v_sheets3_numbers k98)) (w1 := (wX4_found cI cJ cZ cS a_t a_party a_kept a_tape a_telephone a_sheets a_findings v_isKept k98)) fx h [0, 10] rfl rfl rfl rfl (q_runV fx h hl.1 [0, 10] rfl rfl (tX4_found l D cI cJ cZ cS tb a_t a_party a_kept a_tape a_telephone a_sheets a_findings H.size v_isKept v_findings (-1000000003) r98 k98 hg) mvX4_found k_207 ⟨rfl, rfl⟩ ⟨Nat.le_of_ble_eq_true rfl, Nat.le_of_ble_eq_true rfl⟩ rfl rfl rfl rfl (Nat.le_of_ble_eq_true rfl) dX4_copy_76 ⟨Nat.le_of_ble_eq_true rfl, Nat.le_of_ble_eq_true rfl⟩) (fun H locs h => ?_)
          exact q_reti (fun k : (Nat → Int64) × (Nat → Int64) × (Nat → Int64) × (Nat → Int64) × (Nat → Int32) => (wX4_copy cI cJ cZ cS a_t a_party a_kept a_tape a_telephone a_sheets a_sheets0 a_sheets0_numbers a_sheets1 a_sheets1_numbers a_sheets2 a_sheets2_numbers a_sheets3 a_sheets3_numbers a_findings v_isKept v_sheets0_bits v_sheets0_size k.1 v_sheets1_bits v_sheets1_size k.2.1 v_sheets2_bits v_sheets2_size k.2.2.1 v_sheets3_bits v_sheets3_size k.2.2.2.1 k.2.2.2.2)) fx hf h dX4_copy_79
        have hf := it_f c91 hf
        exact LX4_copy_45 fx h (lv_sub hl [0] rfl) hf
      · refine q_aald (v := a_sheets1) fx h 1 rfl c89 (vinK (by decide)) rfl dX4_copy_38 ?_
        obtain ⟨r99, k99, hg, hf⟩ := bR_inv hf
        refine q_ci (rest := []) (ws' := (wX4_copy cI cJ cZ cS a_t a_party a_kept a_tape a_telephone a_sheets a_sheets0 a_sheets0_numbers a_sheets1 a_sheets1_numbers a_sheets2 a_sheets2_numbers a_sheets3 a_sheets3_numbers a_findings v_isKept v_sheets0_bits v_sheets0_size v_sheets0_numbers v_sheets1_bits v_sheets1_size v_sheets1_numbers v_sheets2_bits v_sheets2_size v_sheets2_numbers v_sheets3_bits v_sheets3_size v_sheets3_numbers v_findings)) (w1 := (wX1_isMissing cI cJ cZ cS a_sheets1 a_sheets1_numbers v_sheets1_bits v_sheets1_size)) fx h [4] rfl rfl rfl rfl (q_runV fx h hl.1 [4] rfl rfl (tX1_isMissing l D cI cJ cZ cS tb a_sheets1 a_sheets1_numbers H.size v_sheets1_bits v_sheets1_size r99 k99 hg) mvX1_isMissing k_553 ⟨rfl, rfl⟩ ⟨Nat.le_of_ble_eq_true rfl, Nat.le_of_ble_eq_true rfl⟩ rfl rfl rfl rfl (Nat.le_of_ble_eq_true rfl) dX4_copy_39 ⟨Nat.le_of_ble_eq_true rfl, Nat.le_of_ble_eq_true rfl⟩) (fun H locs h => ?_)
        refine lv_if_eq (tgt := 52) hx hb dX4_copy_42 (by decide) (fun c100 => ?_) (fun c100 => ?_)
        · have hf := it_t c100 hf
          refine lv_aload_n hx hb dX4_copy_52 rfl (lv_at hl 0 rfl) ?_
          refine q_get (v := .ref a_sheets) fx inX4 h 0 rfl rfl 5 (by decide) k_179 rfl dX4_copy_53 ?_
          refine lv_iload_n hx hb dX4_copy_56 rfl (lv_at hl 1 rfl) ?_
          refine q_aald (v := a_sheets2) fx h 1 rfl c8 (vinK (by decide)) rfl dX4_copy_57 ?_
          refine q_getN (v := .int v_sheets2_bits) fx inX1 h 6 rfl rfl 0 (by decide) nf_9 rfl dX4_copy_58 ?_
          refine lv_aload_n hx hb dX4_copy_61 rfl (lv_at hl 0 rfl) ?_
          refine q_get (v := .ref a_sheets) fx inX4 h 0 rfl rfl 5 (by decide) k_179 rfl dX4_copy_62 ?_
          refine lv_iload_n hx hb dX4_copy_65 rfl (lv_at hl 3 rfl) ?_
          refine q_aald (v := a_sheets1) fx h 1 rfl c89 (vinK (by decide)) rfl dX4_copy_66 ?_
          refine q_getN (v := .int v_sheets1_bits) fx inX1 h 4 rfl rfl 0 (by decide) nf_9 rfl dX4_copy_67 ?_
          refine lv_icmp_eq (tgt := 80) hx hb dX4_copy_70 (by decide) (fun c101 => ?_) (fun c101 => ?_)
          · have hf := it_t c101 hf
            refine lv_aload_n hx hb dX4_copy_80 rfl (lv_at hl 0 rfl) ?_
            refine q_get (v := .ref a_sheets) fx inX4 h 0 rfl rfl 5 (by decide) k_179 rfl dX4_copy_81 ?_
            refine lv_iload_n hx hb dX4_copy_84 rfl (lv_at hl 1 rfl) ?_
            refine q_aald (v := a_sheets2) fx h 1 rfl c8 (vinK (by decide)) rfl dX4_copy_85 ?_
            refine lv_iload_n hx hb dX4_copy_86 rfl (lv_at hl 2 rfl) ?_
            refine lv_iload hx hb dX4_copy_87 (lv_at hl 5 rfl) ?_
            obtain ⟨r102, k102, hg, hf⟩ := bR_inv hf
            refine q_ci (rest := []) (ws' := (wX4_copy cI cJ cZ cS a_t a_party a_kept a_tape a_telephone a_sheets a_sheets0 a_sheets0_numbers a_sheets1 a_sheets1_numbers a_sheets2 a_sheets2_numbers a_sheets3 a_sheets3_numbers a_findings v_isKept v_sheets0_bits v_sheets0_size v_sheets0_numbers v_sheets1_bits v_sheets1_size v_sheets1_numbers v_sheets2_bits v_sheets2_size v_sheets2_numbers v_sheets3_bits v_sheets3_size v_sheets3_numbers v_findings)) (w1 := (wX1_hasRun cI cJ cZ cS a_sheets2 a_sheets2_numbers v_sheets2_bits v_sheets2_size)) fx h [6] rfl rfl rfl rfl (q_runV fx h hl.1 [6] rfl rfl (tX1_hasRun l D cI cJ cZ cS tb a_sheets2 a_sheets2_numbers H.size v_sheets2_bits v_sheets2_size x2 x5 r102 k102 hg) mvX1_hasRun k_566 ⟨rfl, rfl⟩ ⟨Nat.le_of_ble_eq_true rfl, Nat.le_of_ble_eq_true rfl⟩ rfl rfl rfl rfl (Nat.le_of_ble_eq_true rfl) dX4_copy_89 ⟨Nat.le_of_ble_eq_true rfl, Nat.le_of_ble_eq_true rfl⟩) (fun H locs h => ?_)
            refine lv_if_eq (tgt := 111) hx hb dX4_copy_92 (by decide) (fun c103 => ?_) (fun c103 => ?_)
            · have hf := it_t c103 hf
              exact LX4_copy_111 fx h (lv_sub hl [0] rfl) hf
            have hf := it_f c103 hf
            refine lv_aload_n hx hb dX4_copy_95 rfl (lv_at hl 0 rfl) ?_
            refine q_get (v := .ref a_sheets) fx inX4 h 0 rfl rfl 5 (by decide) k_179 rfl dX4_copy_96 ?_
            refine lv_iload_n hx hb dX4_copy_99 rfl (lv_at hl 3 rfl) ?_
            refine q_aald (v := a_sheets1) fx h 1 rfl c89 (vinK (by decide)) rfl dX4_copy_100 ?_
            refine lv_iload hx hb dX4_copy_101 (lv_at hl 4 rfl) ?_
            refine lv_iload hx hb dX4_copy_103 (lv_at hl 5 rfl) ?_
            obtain ⟨r104, k104, hg, hf⟩ := bR_inv hf
            refine q_ci (rest := []) (ws' := (wX4_copy cI cJ cZ cS a_t a_party a_kept a_tape a_telephone a_sheets a_sheets0 a_sheets0_numbers a_sheets1 a_sheets1_numbers a_sheets2 a_sheets2_numbers a_sheets3 a_sheets3_numbers a_findings v_isKept v_sheets0_bits v_sheets0_size v_sheets0_numbers v_sheets1_bits v_sheets1_size v_sheets1_numbers v_sheets2_bits v_sheets2_size v_sheets2_numbers v_sheets3_bits v_sheets3_size v_sheets3_numbers v_findings)) (w1 := (wX1_hasRun cI cJ cZ cS a_sheets1 a_sheets1_numbers v_sheets1_bits v_sheets1_size)) fx h [4] rfl rfl rfl rfl (q_runV fx h hl.1 [4] rfl rfl (tX1_hasRun l D cI cJ cZ cS tb a_sheets1 a_sheets1_numbers H.size v_sheets1_bits v_sheets1_size x4 x5 r104 k104 hg) mvX1_hasRun k_566 ⟨rfl, rfl⟩ ⟨Nat.le_of_ble_eq_true rfl, Nat.le_of_ble_eq_true rfl⟩ rfl rfl rfl rfl (Nat.le_of_ble_eq_true rfl) dX4_copy_105 ⟨Nat.le_of_ble_eq_true rfl, Nat.le_of_ble_eq_true rfl⟩) (fun H locs h => ?_)
            refine lv_if_ne (tgt := 118) hx hb dX4_copy_108 (by decide) (fun c105 => ?_) (fun c105 => ?_)
            · have hf := it_f c105 hf
              refine lv_aload_n hx hb dX4_copy_118 rfl (lv_at hl 0 rfl) ?_
              refine q_get (v := .ref a_sheets) fx inX4 h 0 rfl rfl 5 (by decide) k_179 rfl dX4_copy_119 ?_
              refine lv_iload_n hx hb dX4_copy_122 rfl (lv_at hl 1 rfl) ?_
              refine q_aald (v := a_sheets2) fx h 1 rfl c8 (vinK (by decide)) rfl dX4_copy_123 ?_
              refine q_getN (v := .ref a_sheets2_numbers) fx inX1 h 6 rfl rfl 2 (by decide) nf_11 rfl dX4_copy_124 ?_
              refine lv_iload_n hx hb dX4_copy_127 rfl (lv_at hl 2 rfl) ?_
              refine lv_aload_n hx hb dX4_copy_128 rfl (lv_at hl 0 rfl) ?_
              refine q_get (v := .ref a_sheets) fx inX4 h 0 rfl rfl 5 (by decide) k_179 rfl dX4_copy_129 ?_
              refine lv_iload_n hx hb dX4_copy_132 rfl (lv_at hl 3 rfl) ?_
              refine q_aald (v := a_sheets1) fx h 1 rfl c89 (vinK (by decide)) rfl dX4_copy_133 ?_
              refine q_getN (v := .ref a_sheets1_numbers) fx inX1 h 4 rfl rfl 2 (by decide) nf_11 rfl dX4_copy_134 ?_
              refine lv_iload hx hb dX4_copy_137 (lv_at hl 4 rfl) ?_
              refine lv_iload hx hb dX4_copy_139 (lv_at hl 5 rfl) ?_
              obtain ⟨i106, hf⟩ := gCp_inv hf
              refine q_copyl (ws' := (wX4_copy cI cJ cZ cS a_t a_party a_kept a_tape a_telephone a_sheets a_sheets0 a_sheets0_numbers a_sheets1 a_sheets1_numbers a_sheets2 a_sheets2_numbers a_sheets3 a_sheets3_numbers a_findings v_isKept v_sheets0_bits v_sheets0_size v_sheets0_numbers v_sheets1_bits v_sheets1_size (va_cpy v_sheets2_numbers v_sheets1_numbers x2.toNatClampNeg x4.toNatClampNeg x5.toNatClampNeg) v_sheets2_bits v_sheets2_size v_sheets2_numbers v_sheets3_bits v_sheets3_size v_sheets3_numbers v_findings)) fx h hl.1 7 5 rfl rfl k_570 k_572 k_571 k_58 i106 (Nat.le_of_ble_eq_true rfl) (Nat.le_of_ble_eq_true rfl) rfl dX4_copy_141 (fun H locs h => ?_)
              refine lv_iload hx hb dX4_copy_144 (lv_at hl 5 rfl) ?_
              exact q_reti (fun k : (Nat → Int64) × (Nat → Int64) × (Nat → Int64) × (Nat → Int64) × (Nat → Int32) => (wX4_copy cI cJ cZ cS a_t a_party a_kept a_tape a_telephone a_sheets a_sheets0 a_sheets0_numbers a_sheets1 a_sheets1_numbers a_sheets2 a_sheets2_numbers a_sheets3 a_sheets3_numbers a_findings v_isKept v_sheets0_bits v_sheets0_size k.1 v_sheets1_bits v_sheets1_size k.2.1 v_sheets2_bits v_sheets2_size k.2.2.1 v_sheets3_bits v_sheets3_size k.2.2.2.1 k.2.2.2.2)) fx hf h dX4_copy_146
            have hf := it_t c105 hf
            exact LX4_copy_111 fx h (lv_sub hl [0] rfl) hf
          have hf := it_f c101 hf
          refine lv_aload_n hx hb dX4_copy_73 rfl (lv_at hl 0 rfl) ?_
          refine q_ldc fx k_269 dX4_copy_74 ?_
          obtain ⟨r107, k107, hg, hf⟩ := bR_inv hf
          refine q_ci (rest := []) (ws' := (wX4_copy cI cJ cZ cS a_t a_party a_kept a_tape a_telephone a_sheets a_sheets0 a_sheets0_numbers a_sheets1 a_sheets1_numbers a_sheets2 a_sheets2_numbers a_sheets3 a_sheets3_numbers a_findings v_isKept v_sheets0_bits v_sheets0_size v_sheets0_numbers v_sheets1_bits v_sheets1_size v_sheets1_numbers v_sheets2_bits v_sheets2_size v_sheets2_numbers v_sheets3_bits v_sheets3_size v_sheets3_numbers k107)) (w1 := (wX4_found cI cJ cZ cS a_t a_party a_kept a_tape a_telephone a_sheets a_findings v_isKept k107)) fx h [0, 10] rfl rfl rfl rfl (q_runV fx h hl.1 [0, 10] rfl rfl (tX4_found l D cI cJ cZ cS tb a_t a_party a_kept a_tape a_telephone a_sheets a_findings H.size v_isKept v_findings (-1000000003) r107 k107 hg) mvX4_found k_207 ⟨rfl, rfl⟩ ⟨Nat.le_of_ble_eq_true rfl, Nat.le_of_ble_eq_true rfl⟩ rfl rfl rfl rfl (Nat.le_of_ble_eq_true rfl) dX4_copy_76 ⟨Nat.le_of_ble_eq_true rfl, Nat.le_of_ble_eq_true rfl⟩) (fun H locs h => ?_)
          exact q_reti (fun k : (Nat → Int64) × (Nat → Int64) × (Nat → Int64) × (Nat → Int64) × (Nat → Int32) => (wX4_copy cI cJ cZ cS a_t a_party a_kept a_tape a_telephone a_sheets a_sheets0 a_sheets0_numbers a_sheets1 a_sheets1_numbers a_sheets2 a_sheets2_numbers a_sheets3 a_sheets3_numbers a_findings v_isKept v_sheets0_bits v_sheets0_size k.1 v_sheets1_bits v_sheets1_size k.2.1 v_sheets2_bits v_sheets2_size k.2.2.1 v_sheets3_bits v_sheets3_size k.2.2.2.1 k.2.2.2.2)) fx hf h dX4_copy_79
        have hf := it_f c100 hf
        exact LX4_copy_45 fx h (lv_sub hl [0] rfl) hf
      · refine q_aald (v := a_sheets2) fx h 1 rfl c89 (vinK (by decide)) rfl dX4_copy_38 ?_
        obtain ⟨r108, k108, hg, hf⟩ := bR_inv hf
        refine q_ci (rest := []) (ws' := (wX4_copy cI cJ cZ cS a_t a_party a_kept a_tape a_telephone a_sheets a_sheets0 a_sheets0_numbers a_sheets1 a_sheets1_numbers a_sheets2 a_sheets2_numbers a_sheets3 a_sheets3_numbers a_findings v_isKept v_sheets0_bits v_sheets0_size v_sheets0_numbers v_sheets1_bits v_sheets1_size v_sheets1_numbers v_sheets2_bits v_sheets2_size v_sheets2_numbers v_sheets3_bits v_sheets3_size v_sheets3_numbers v_findings)) (w1 := (wX1_isMissing cI cJ cZ cS a_sheets2 a_sheets2_numbers v_sheets2_bits v_sheets2_size)) fx h [6] rfl rfl rfl rfl (q_runV fx h hl.1 [6] rfl rfl (tX1_isMissing l D cI cJ cZ cS tb a_sheets2 a_sheets2_numbers H.size v_sheets2_bits v_sheets2_size r108 k108 hg) mvX1_isMissing k_553 ⟨rfl, rfl⟩ ⟨Nat.le_of_ble_eq_true rfl, Nat.le_of_ble_eq_true rfl⟩ rfl rfl rfl rfl (Nat.le_of_ble_eq_true rfl) dX4_copy_39 ⟨Nat.le_of_ble_eq_true rfl, Nat.le_of_ble_eq_true rfl⟩) (fun H locs h => ?_)
        refine lv_if_eq (tgt := 52) hx hb dX4_copy_42 (by decide) (fun c109 => ?_) (fun c109 => ?_)
        · have hf := it_t c109 hf
          refine lv_aload_n hx hb dX4_copy_52 rfl (lv_at hl 0 rfl) ?_
          refine q_get (v := .ref a_sheets) fx inX4 h 0 rfl rfl 5 (by decide) k_179 rfl dX4_copy_53 ?_
          refine lv_iload_n hx hb dX4_copy_56 rfl (lv_at hl 1 rfl) ?_
          refine q_aald (v := a_sheets2) fx h 1 rfl c8 (vinK (by decide)) rfl dX4_copy_57 ?_
          refine q_getN (v := .int v_sheets2_bits) fx inX1 h 6 rfl rfl 0 (by decide) nf_9 rfl dX4_copy_58 ?_
          refine lv_aload_n hx hb dX4_copy_61 rfl (lv_at hl 0 rfl) ?_
          refine q_get (v := .ref a_sheets) fx inX4 h 0 rfl rfl 5 (by decide) k_179 rfl dX4_copy_62 ?_
          refine lv_iload_n hx hb dX4_copy_65 rfl (lv_at hl 3 rfl) ?_
          refine q_aald (v := a_sheets2) fx h 1 rfl c89 (vinK (by decide)) rfl dX4_copy_66 ?_
          refine q_getN (v := .int v_sheets2_bits) fx inX1 h 6 rfl rfl 0 (by decide) nf_9 rfl dX4_copy_67 ?_
          refine lv_icmp_eq (tgt := 80) hx hb dX4_copy_70 (by decide) (fun c110 => ?_) (fun c110 => ?_)
          · have hf := it_t c110 hf
            refine lv_aload_n hx hb dX4_copy_80 rfl (lv_at hl 0 rfl) ?_
            refine q_get (v := .ref a_sheets) fx inX4 h 0 rfl rfl 5 (by decide) k_179 rfl dX4_copy_81 ?_
            refine lv_iload_n hx hb dX4_copy_84 rfl (lv_at hl 1 rfl) ?_
            refine q_aald (v := a_sheets2) fx h 1 rfl c8 (vinK (by decide)) rfl dX4_copy_85 ?_
            refine lv_iload_n hx hb dX4_copy_86 rfl (lv_at hl 2 rfl) ?_
            refine lv_iload hx hb dX4_copy_87 (lv_at hl 5 rfl) ?_
            obtain ⟨r111, k111, hg, hf⟩ := bR_inv hf
            refine q_ci (rest := []) (ws' := (wX4_copy cI cJ cZ cS a_t a_party a_kept a_tape a_telephone a_sheets a_sheets0 a_sheets0_numbers a_sheets1 a_sheets1_numbers a_sheets2 a_sheets2_numbers a_sheets3 a_sheets3_numbers a_findings v_isKept v_sheets0_bits v_sheets0_size v_sheets0_numbers v_sheets1_bits v_sheets1_size v_sheets1_numbers v_sheets2_bits v_sheets2_size v_sheets2_numbers v_sheets3_bits v_sheets3_size v_sheets3_numbers v_findings)) (w1 := (wX1_hasRun cI cJ cZ cS a_sheets2 a_sheets2_numbers v_sheets2_bits v_sheets2_size)) fx h [6] rfl rfl rfl rfl (q_runV fx h hl.1 [6] rfl rfl (tX1_hasRun l D cI cJ cZ cS tb a_sheets2 a_sheets2_numbers H.size v_sheets2_bits v_sheets2_size x2 x5 r111 k111 hg) mvX1_hasRun k_566 ⟨rfl, rfl⟩ ⟨Nat.le_of_ble_eq_true rfl, Nat.le_of_ble_eq_true rfl⟩ rfl rfl rfl rfl (Nat.le_of_ble_eq_true rfl) dX4_copy_89 ⟨Nat.le_of_ble_eq_true rfl, Nat.le_of_ble_eq_true rfl⟩) (fun H locs h => ?_)
            refine lv_if_eq (tgt := 111) hx hb dX4_copy_92 (by decide) (fun c112 => ?_) (fun c112 => ?_)
            · have hf := it_t c112 hf
              exact LX4_copy_111 fx h (lv_sub hl [0] rfl) hf
            have hf := it_f c112 hf
            refine lv_aload_n hx hb dX4_copy_95 rfl (lv_at hl 0 rfl) ?_
            refine q_get (v := .ref a_sheets) fx inX4 h 0 rfl rfl 5 (by decide) k_179 rfl dX4_copy_96 ?_
            refine lv_iload_n hx hb dX4_copy_99 rfl (lv_at hl 3 rfl) ?_
            refine q_aald (v := a_sheets2) fx h 1 rfl c89 (vinK (by decide)) rfl dX4_copy_100 ?_
            refine lv_iload hx hb dX4_copy_101 (lv_at hl 4 rfl) ?_
            refine lv_iload hx hb dX4_copy_103 (lv_at hl 5 rfl) ?_
            obtain ⟨r113, k113, hg, hf⟩ := bR_inv hf
            refine q_ci (rest := []) (ws' := (wX4_copy cI cJ cZ cS a_t a_party a_kept a_tape a_telephone a_sheets a_sheets0 a_sheets0_numbers a_sheets1 a_sheets1_numbers a_sheets2 a_sheets2_numbers a_sheets3 a_sheets3_numbers a_findings v_isKept v_sheets0_bits v_sheets0_size v_sheets0_numbers v_sheets1_bits v_sheets1_size v_sheets1_numbers v_sheets2_bits v_sheets2_size v_sheets2_numbers v_sheets3_bits v_sheets3_size v_sheets3_numbers v_findings)) (w1 := (wX1_hasRun cI cJ cZ cS a_sheets2 a_sheets2_numbers v_sheets2_bits v_sheets2_size)) fx h [6] rfl rfl rfl rfl (q_runV fx h hl.1 [6] rfl rfl (tX1_hasRun l D cI cJ cZ cS tb a_sheets2 a_sheets2_numbers H.size v_sheets2_bits v_sheets2_size x4 x5 r113 k113 hg) mvX1_hasRun k_566 ⟨rfl, rfl⟩ ⟨Nat.le_of_ble_eq_true rfl, Nat.le_of_ble_eq_true rfl⟩ rfl rfl rfl rfl (Nat.le_of_ble_eq_true rfl) dX4_copy_105 ⟨Nat.le_of_ble_eq_true rfl, Nat.le_of_ble_eq_true rfl⟩) (fun H locs h => ?_)
            refine lv_if_ne (tgt := 118) hx hb dX4_copy_108 (by decide) (fun c114 => ?_) (fun c114 => ?_)
            · have hf := it_f c114 hf
              refine lv_aload_n hx hb dX4_copy_118 rfl (lv_at hl 0 rfl) ?_
              refine q_get (v := .ref a_sheets) fx inX4 h 0 rfl rfl 5 (by decide) k_179 rfl dX4_copy_119 ?_
              refine lv_iload_n hx hb dX4_copy_122 rfl (lv_at hl 1 rfl) ?_
              refine q_aald (v := a_sheets2) fx h 1 rfl c8 (vinK (by decide)) rfl dX4_copy_123 ?_
              refine q_getN (v := .ref a_sheets2_numbers) fx inX1 h 6 rfl rfl 2 (by decide) nf_11 rfl dX4_copy_124 ?_
              refine lv_iload_n hx hb dX4_copy_127 rfl (lv_at hl 2 rfl) ?_
              refine lv_aload_n hx hb dX4_copy_128 rfl (lv_at hl 0 rfl) ?_
              refine q_get (v := .ref a_sheets) fx inX4 h 0 rfl rfl 5 (by decide) k_179 rfl dX4_copy_129 ?_
              refine lv_iload_n hx hb dX4_copy_132 rfl (lv_at hl 3 rfl) ?_
              refine q_aald (v := a_sheets2) fx h 1 rfl c89 (vinK (by decide)) rfl dX4_copy_133 ?_
              refine q_getN (v := .ref a_sheets2_numbers) fx inX1 h 6 rfl rfl 2 (by decide) nf_11 rfl dX4_copy_134 ?_
              refine lv_iload hx hb dX4_copy_137 (lv_at hl 4 rfl) ?_
              refine lv_iload hx hb dX4_copy_139 (lv_at hl 5 rfl) ?_
              obtain ⟨i115, hf⟩ := gCp_inv hf
              refine q_copyl (ws' := (wX4_copy cI cJ cZ cS a_t a_party a_kept a_tape a_telephone a_sheets a_sheets0 a_sheets0_numbers a_sheets1 a_sheets1_numbers a_sheets2 a_sheets2_numbers a_sheets3 a_sheets3_numbers a_findings v_isKept v_sheets0_bits v_sheets0_size v_sheets0_numbers v_sheets1_bits v_sheets1_size v_sheets1_numbers v_sheets2_bits v_sheets2_size (va_cpy v_sheets2_numbers v_sheets2_numbers x2.toNatClampNeg x4.toNatClampNeg x5.toNatClampNeg) v_sheets3_bits v_sheets3_size v_sheets3_numbers v_findings)) fx h hl.1 7 7 rfl rfl k_570 k_572 k_571 k_58 i115 (Nat.le_of_ble_eq_true rfl) (Nat.le_of_ble_eq_true rfl) rfl dX4_copy_141 (fun H locs h => ?_)
              refine lv_iload hx hb dX4_copy_144 (lv_at hl 5 rfl) ?_
              exact q_reti (fun k : (Nat → Int64) × (Nat → Int64) × (Nat → Int64) × (Nat → Int64) × (Nat → Int32) => (wX4_copy cI cJ cZ cS a_t a_party a_kept a_tape a_telephone a_sheets a_sheets0 a_sheets0_numbers a_sheets1 a_sheets1_numbers a_sheets2 a_sheets2_numbers a_sheets3 a_sheets3_numbers a_findings v_isKept v_sheets0_bits v_sheets0_size k.1 v_sheets1_bits v_sheets1_size k.2.1 v_sheets2_bits v_sheets2_size k.2.2.1 v_sheets3_bits v_sheets3_size k.2.2.2.1 k.2.2.2.2)) fx hf h dX4_copy_146
            have hf := it_t c114 hf
            exact LX4_copy_111 fx h (lv_sub hl [0] rfl) hf
          have hf := it_f c110 hf
          refine lv_aload_n hx hb dX4_copy_73 rfl (lv_at hl 0 rfl) ?_
          refine q_ldc fx k_269 dX4_copy_74 ?_
          obtain ⟨r116, k116, hg, hf⟩ := bR_inv hf
          refine q_ci (rest := []) (ws' := (wX4_copy cI cJ cZ cS a_t a_party a_kept a_tape a_telephone a_sheets a_sheets0 a_sheets0_numbers a_sheets1 a_sheets1_numbers a_sheets2 a_sheets2_numbers a_sheets3 a_sheets3_numbers a_findings v_isKept v_sheets0_bits v_sheets0_size v_sheets0_numbers v_sheets1_bits v_sheets1_size v_sheets1_numbers v_sheets2_bits v_sheets2_size v_sheets2_numbers v_sheets3_bits v_sheets3_size v_sheets3_numbers k116)) (w1 := (wX4_found cI cJ cZ cS a_t a_party a_kept a_tape a_telephone a_sheets a_findings v_isKept k116)) fx h [0, 10] rfl rfl rfl rfl (q_runV fx h hl.1 [0, 10] rfl rfl (tX4_found l D cI cJ cZ cS tb a_t a_party a_kept a_tape a_telephone a_sheets a_findings H.size v_isKept v_findings (-1000000003) r116 k116 hg) mvX4_found k_207 ⟨rfl, rfl⟩ ⟨Nat.le_of_ble_eq_true rfl, Nat.le_of_ble_eq_true rfl⟩ rfl rfl rfl rfl (Nat.le_of_ble_eq_true rfl) dX4_copy_76 ⟨Nat.le_of_ble_eq_true rfl, Nat.le_of_ble_eq_true rfl⟩) (fun H locs h => ?_)
          exact q_reti (fun k : (Nat → Int64) × (Nat → Int64) × (Nat → Int64) × (Nat → Int64) × (Nat → Int32) => (wX4_copy cI cJ cZ cS a_t a_party a_kept a_tape a_telephone a_sheets a_sheets0 a_sheets0_numbers a_sheets1 a_sheets1_numbers a_sheets2 a_sheets2_numbers a_sheets3 a_sheets3_numbers a_findings v_isKept v_sheets0_bits v_sheets0_size k.1 v_sheets1_bits v_sheets1_size k.2.1 v_sheets2_bits v_sheets2_size k.2.2.1 v_sheets3_bits v_sheets3_size k.2.2.2.1 k.2.2.2.2)) fx hf h dX4_copy_79
        have hf := it_f c109 hf
        exact LX4_copy_45 fx h (lv_sub hl [0] rfl) hf
      · refine q_aald (v := a_sheets3) fx h 1 rfl c89 (vinK (by decide)) rfl dX4_copy_38 ?_
        obtain ⟨r117, k117, hg, hf⟩ := bR_inv hf
        refine q_ci (rest := []) (ws' := (wX4_copy cI cJ cZ cS a_t a_party a_kept a_tape a_telephone a_sheets a_sheets0 a_sheets0_numbers a_sheets1 a_sheets1_numbers a_sheets2 a_sheets2_numbers a_sheets3 a_sheets3_numbers a_findings v_isKept v_sheets0_bits v_sheets0_size v_sheets0_numbers v_sheets1_bits v_sheets1_size v_sheets1_numbers v_sheets2_bits v_sheets2_size v_sheets2_numbers v_sheets3_bits v_sheets3_size v_sheets3_numbers v_findings)) (w1 := (wX1_isMissing cI cJ cZ cS a_sheets3 a_sheets3_numbers v_sheets3_bits v_sheets3_size)) fx h [8] rfl rfl rfl rfl (q_runV fx h hl.1 [8] rfl rfl (tX1_isMissing l D cI cJ cZ cS tb a_sheets3 a_sheets3_numbers H.size v_sheets3_bits v_sheets3_size r117 k117 hg) mvX1_isMissing k_553 ⟨rfl, rfl⟩ ⟨Nat.le_of_ble_eq_true rfl, Nat.le_of_ble_eq_true rfl⟩ rfl rfl rfl rfl (Nat.le_of_ble_eq_true rfl) dX4_copy_39 ⟨Nat.le_of_ble_eq_true rfl, Nat.le_of_ble_eq_true rfl⟩) (fun H locs h => ?_)
        refine lv_if_eq (tgt := 52) hx hb dX4_copy_42 (by decide) (fun c118 => ?_) (fun c118 => ?_)
        · have hf := it_t c118 hf
          refine lv_aload_n hx hb dX4_copy_52 rfl (lv_at hl 0 rfl) ?_
          refine q_get (v := .ref a_sheets) fx inX4 h 0 rfl rfl 5 (by decide) k_179 rfl dX4_copy_53 ?_
          refine lv_iload_n hx hb dX4_copy_56 rfl (lv_at hl 1 rfl) ?_
          refine q_aald (v := a_sheets2) fx h 1 rfl c8 (vinK (by decide)) rfl dX4_copy_57 ?_
          refine q_getN (v := .int v_sheets2_bits) fx inX1 h 6 rfl rfl 0 (by decide) nf_9 rfl dX4_copy_58 ?_
          refine lv_aload_n hx hb dX4_copy_61 rfl (lv_at hl 0 rfl) ?_
          refine q_get (v := .ref a_sheets) fx inX4 h 0 rfl rfl 5 (by decide) k_179 rfl dX4_copy_62 ?_
          refine lv_iload_n hx hb dX4_copy_65 rfl (lv_at hl 3 rfl) ?_
          refine q_aald (v := a_sheets3) fx h 1 rfl c89 (vinK (by decide)) rfl dX4_copy_66 ?_
          refine q_getN (v := .int v_sheets3_bits) fx inX1 h 8 rfl rfl 0 (by decide) nf_9 rfl dX4_copy_67 ?_
          refine lv_icmp_eq (tgt := 80) hx hb dX4_copy_70 (by decide) (fun c119 => ?_) (fun c119 => ?_)
          · have hf := it_t c119 hf
            refine lv_aload_n hx hb dX4_copy_80 rfl (lv_at hl 0 rfl) ?_
            refine q_get (v := .ref a_sheets) fx inX4 h 0 rfl rfl 5 (by decide) k_179 rfl dX4_copy_81 ?_
            refine lv_iload_n hx hb dX4_copy_84 rfl (lv_at hl 1 rfl) ?_
            refine q_aald (v := a_sheets2) fx h 1 rfl c8 (vinK (by decide)) rfl dX4_copy_85 ?_
            refine lv_iload_n hx hb dX4_copy_86 rfl (lv_at hl 2 rfl) ?_
            refine lv_iload hx hb dX4_copy_87 (lv_at hl 5 rfl) ?_
            obtain ⟨r120, k120, hg, hf⟩ := bR_inv hf
            refine q_ci (rest := []) (ws' := (wX4_copy cI cJ cZ cS a_t a_party a_kept a_tape a_telephone a_sheets a_sheets0 a_sheets0_numbers a_sheets1 a_sheets1_numbers a_sheets2 a_sheets2_numbers a_sheets3 a_sheets3_numbers a_findings v_isKept v_sheets0_bits v_sheets0_size v_sheets0_numbers v_sheets1_bits v_sheets1_size v_sheets1_numbers v_sheets2_bits v_sheets2_size v_sheets2_numbers v_sheets3_bits v_sheets3_size v_sheets3_numbers v_findings)) (w1 := (wX1_hasRun cI cJ cZ cS a_sheets2 a_sheets2_numbers v_sheets2_bits v_sheets2_size)) fx h [6] rfl rfl rfl rfl (q_runV fx h hl.1 [6] rfl rfl (tX1_hasRun l D cI cJ cZ cS tb a_sheets2 a_sheets2_numbers H.size v_sheets2_bits v_sheets2_size x2 x5 r120 k120 hg) mvX1_hasRun k_566 ⟨rfl, rfl⟩ ⟨Nat.le_of_ble_eq_true rfl, Nat.le_of_ble_eq_true rfl⟩ rfl rfl rfl rfl (Nat.le_of_ble_eq_true rfl) dX4_copy_89 ⟨Nat.le_of_ble_eq_true rfl, Nat.le_of_ble_eq_true rfl⟩) (fun H locs h => ?_)
            refine lv_if_eq (tgt := 111) hx hb dX4_copy_92 (by decide) (fun c121 => ?_) (fun c121 => ?_)
            · have hf := it_t c121 hf
              exact LX4_copy_111 fx h (lv_sub hl [0] rfl) hf
            have hf := it_f c121 hf
            refine lv_aload_n hx hb dX4_copy_95 rfl (lv_at hl 0 rfl) ?_
            refine q_get (v := .ref a_sheets) fx inX4 h 0 rfl rfl 5 (by decide) k_179 rfl dX4_copy_96 ?_
            refine lv_iload_n hx hb dX4_copy_99 rfl (lv_at hl 3 rfl) ?_
            refine q_aald (v := a_sheets3) fx h 1 rfl c89 (vinK (by decide)) rfl dX4_copy_100 ?_
            refine lv_iload hx hb dX4_copy_101 (lv_at hl 4 rfl) ?_
            refine lv_iload hx hb dX4_copy_103 (lv_at hl 5 rfl) ?_
            obtain ⟨r122, k122, hg, hf⟩ := bR_inv hf
            refine q_ci (rest := []) (ws' := (wX4_copy cI cJ cZ cS a_t a_party a_kept a_tape a_telephone a_sheets a_sheets0 a_sheets0_numbers a_sheets1 a_sheets1_numbers a_sheets2 a_sheets2_numbers a_sheets3 a_sheets3_numbers a_findings v_isKept v_sheets0_bits v_sheets0_size v_sheets0_numbers v_sheets1_bits v_sheets1_size v_sheets1_numbers v_sheets2_bits v_sheets2_size v_sheets2_numbers v_sheets3_bits v_sheets3_size v_sheets3_numbers v_findings)) (w1 := (wX1_hasRun cI cJ cZ cS a_sheets3 a_sheets3_numbers v_sheets3_bits v_sheets3_size)) fx h [8] rfl rfl rfl rfl (q_runV fx h hl.1 [8] rfl rfl (tX1_hasRun l D cI cJ cZ cS tb a_sheets3 a_sheets3_numbers H.size v_sheets3_bits v_sheets3_size x4 x5 r122 k122 hg) mvX1_hasRun k_566 ⟨rfl, rfl⟩ ⟨Nat.le_of_ble_eq_true rfl, Nat.le_of_ble_eq_true rfl⟩ rfl rfl rfl rfl (Nat.le_of_ble_eq_true rfl) dX4_copy_105 ⟨Nat.le_of_ble_eq_true rfl, Nat.le_of_ble_eq_true rfl⟩) (fun H locs h => ?_)
            refine lv_if_ne (tgt := 118) hx hb dX4_copy_108 (by decide) (fun c123 => ?_) (fun c123 => ?_)
            · have hf := it_f c123 hf
              refine lv_aload_n hx hb dX4_copy_118 rfl (lv_at hl 0 rfl) ?_
              refine q_get (v := .ref a_sheets) fx inX4 h 0 rfl rfl 5 (by decide) k_179 rfl dX4_copy_119 ?_
              refine lv_iload_n hx hb dX4_copy_122 rfl (lv_at hl 1 rfl) ?_
              refine q_aald (v := a_sheets2) fx h 1 rfl c8 (vinK (by decide)) rfl dX4_copy_123 ?_
              refine q_getN (v := .ref a_sheets2_numbers) fx inX1 h 6 rfl rfl 2 (by decide) nf_11 rfl dX4_copy_124 ?_
              refine lv_iload_n hx hb dX4_copy_127 rfl (lv_at hl 2 rfl) ?_
              refine lv_aload_n hx hb dX4_copy_128 rfl (lv_at hl 0 rfl) ?_
              refine q_get (v := .ref a_sheets) fx inX4 h 0 rfl rfl 5 (by decide) k_179 rfl dX4_copy_129 ?_
              refine lv_iload_n hx hb dX4_copy_132 rfl (lv_at hl 3 rfl) ?_
              refine q_aald (v := a_sheets3) fx h 1 rfl c89 (vinK (by decide)) rfl dX4_copy_133 ?_
              refine q_getN (v := .ref a_sheets3_numbers) fx inX1 h 8 rfl rfl 2 (by decide) nf_11 rfl dX4_copy_134 ?_
              refine lv_iload hx hb dX4_copy_137 (lv_at hl 4 rfl) ?_
              refine lv_iload hx hb dX4_copy_139 (lv_at hl 5 rfl) ?_
              obtain ⟨i124, hf⟩ := gCp_inv hf
              refine q_copyl (ws' := (wX4_copy cI cJ cZ cS a_t a_party a_kept a_tape a_telephone a_sheets a_sheets0 a_sheets0_numbers a_sheets1 a_sheets1_numbers a_sheets2 a_sheets2_numbers a_sheets3 a_sheets3_numbers a_findings v_isKept v_sheets0_bits v_sheets0_size v_sheets0_numbers v_sheets1_bits v_sheets1_size v_sheets1_numbers v_sheets2_bits v_sheets2_size v_sheets2_numbers v_sheets3_bits v_sheets3_size (va_cpy v_sheets2_numbers v_sheets3_numbers x2.toNatClampNeg x4.toNatClampNeg x5.toNatClampNeg) v_findings)) fx h hl.1 7 9 rfl rfl k_570 k_572 k_571 k_58 i124 (Nat.le_of_ble_eq_true rfl) (Nat.le_of_ble_eq_true rfl) rfl dX4_copy_141 (fun H locs h => ?_)
              refine lv_iload hx hb dX4_copy_144 (lv_at hl 5 rfl) ?_
              exact q_reti (fun k : (Nat → Int64) × (Nat → Int64) × (Nat → Int64) × (Nat → Int64) × (Nat → Int32) => (wX4_copy cI cJ cZ cS a_t a_party a_kept a_tape a_telephone a_sheets a_sheets0 a_sheets0_numbers a_sheets1 a_sheets1_numbers a_sheets2 a_sheets2_numbers a_sheets3 a_sheets3_numbers a_findings v_isKept v_sheets0_bits v_sheets0_size k.1 v_sheets1_bits v_sheets1_size k.2.1 v_sheets2_bits v_sheets2_size k.2.2.1 v_sheets3_bits v_sheets3_size k.2.2.2.1 k.2.2.2.2)) fx hf h dX4_copy_146
            have hf := it_t c123 hf
            exact LX4_copy_111 fx h (lv_sub hl [0] rfl) hf
          have hf := it_f c119 hf
          refine lv_aload_n hx hb dX4_copy_73 rfl (lv_at hl 0 rfl) ?_
          refine q_ldc fx k_269 dX4_copy_74 ?_
          obtain ⟨r125, k125, hg, hf⟩ := bR_inv hf
          refine q_ci (rest := []) (ws' := (wX4_copy cI cJ cZ cS a_t a_party a_kept a_tape a_telephone a_sheets a_sheets0 a_sheets0_numbers a_sheets1 a_sheets1_numbers a_sheets2 a_sheets2_numbers a_sheets3 a_sheets3_numbers a_findings v_isKept v_sheets0_bits v_sheets0_size v_sheets0_numbers v_sheets1_bits v_sheets1_size v_sheets1_numbers v_sheets2_bits v_sheets2_size v_sheets2_numbers v_sheets3_bits v_sheets3_size v_sheets3_numbers k125)) (w1 := (wX4_found cI cJ cZ cS a_t a_party a_kept a_tape a_telephone a_sheets a_findings v_isKept k125)) fx h [0, 10] rfl rfl rfl rfl (q_runV fx h hl.1 [0, 10] rfl rfl (tX4_found l D cI cJ cZ cS tb a_t a_party a_kept a_tape a_telephone a_sheets a_findings H.size v_isKept v_findings (-1000000003) r125 k125 hg) mvX4_found k_207 ⟨rfl, rfl⟩ ⟨Nat.le_of_ble_eq_true rfl, Nat.le_of_ble_eq_true rfl⟩ rfl rfl rfl rfl (Nat.le_of_ble_eq_true rfl) dX4_copy_76 ⟨Nat.le_of_ble_eq_true rfl, Nat.le_of_ble_eq_true rfl⟩) (fun H locs h => ?_)
          exact q_reti (fun k : (Nat → Int64) × (Nat → Int64) × (Nat → Int64) × (Nat → Int64) × (Nat → Int32) => (wX4_copy cI cJ cZ cS a_t a_party a_kept a_tape a_telephone a_sheets a_sheets0 a_sheets0_numbers a_sheets1 a_sheets1_numbers a_sheets2 a_sheets2_numbers a_sheets3 a_sheets3_numbers a_findings v_isKept v_sheets0_bits v_sheets0_size k.1 v_sheets1_bits v_sheets1_size k.2.1 v_sheets2_bits v_sheets2_size k.2.2.1 v_sheets3_bits v_sheets3_size k.2.2.2.1 k.2.2.2.2)) fx hf h dX4_copy_79
        have hf := it_f c118 hf
        exact LX4_copy_45 fx h (lv_sub hl [0] rfl) hf
    · refine q_aald (v := a_sheets3) fx h 1 rfl c8 (vinK (by decide)) rfl dX4_copy_26 ?_
      obtain ⟨r126, k126, hg, hf⟩ := bR_inv hf
      refine q_ci (rest := []) (ws' := (wX4_copy cI cJ cZ cS a_t a_party a_kept a_tape a_telephone a_sheets a_sheets0 a_sheets0_numbers a_sheets1 a_sheets1_numbers a_sheets2 a_sheets2_numbers a_sheets3 a_sheets3_numbers a_findings v_isKept v_sheets0_bits v_sheets0_size v_sheets0_numbers v_sheets1_bits v_sheets1_size v_sheets1_numbers v_sheets2_bits v_sheets2_size v_sheets2_numbers v_sheets3_bits v_sheets3_size v_sheets3_numbers v_findings)) (w1 := (wX1_isMissing cI cJ cZ cS a_sheets3 a_sheets3_numbers v_sheets3_bits v_sheets3_size)) fx h [8] rfl rfl rfl rfl (q_runV fx h hl.1 [8] rfl rfl (tX1_isMissing l D cI cJ cZ cS tb a_sheets3 a_sheets3_numbers H.size v_sheets3_bits v_sheets3_size r126 k126 hg) mvX1_isMissing k_553 ⟨rfl, rfl⟩ ⟨Nat.le_of_ble_eq_true rfl, Nat.le_of_ble_eq_true rfl⟩ rfl rfl rfl rfl (Nat.le_of_ble_eq_true rfl) dX4_copy_27 ⟨Nat.le_of_ble_eq_true rfl, Nat.le_of_ble_eq_true rfl⟩) (fun H locs h => ?_)
      refine lv_if_ne (tgt := 45) hx hb dX4_copy_30 (by decide) (fun c127 => ?_) (fun c127 => ?_)
      · have hf := it_f c127 hf
        exact LX4_copy_45 fx h (lv_sub hl [0] rfl) hf
      have hf := it_t c127 hf
      refine lv_aload_n hx hb dX4_copy_33 rfl (lv_at hl 0 rfl) ?_
      refine q_get (v := .ref a_sheets) fx inX4 h 0 rfl rfl 5 (by decide) k_179 rfl dX4_copy_34 ?_
      refine lv_iload_n hx hb dX4_copy_37 rfl (lv_at hl 3 rfl) ?_
      rcases sel4_inv hf with ⟨c128, hf⟩ | ⟨c128, hf⟩ | ⟨c128, hf⟩ | ⟨c128, hf⟩
      · refine q_aald (v := a_sheets0) fx h 1 rfl c128 (vinK (by decide)) rfl dX4_copy_38 ?_
        obtain ⟨r129, k129, hg, hf⟩ := bR_inv hf
        refine q_ci (rest := []) (ws' := (wX4_copy cI cJ cZ cS a_t a_party a_kept a_tape a_telephone a_sheets a_sheets0 a_sheets0_numbers a_sheets1 a_sheets1_numbers a_sheets2 a_sheets2_numbers a_sheets3 a_sheets3_numbers a_findings v_isKept v_sheets0_bits v_sheets0_size v_sheets0_numbers v_sheets1_bits v_sheets1_size v_sheets1_numbers v_sheets2_bits v_sheets2_size v_sheets2_numbers v_sheets3_bits v_sheets3_size v_sheets3_numbers v_findings)) (w1 := (wX1_isMissing cI cJ cZ cS a_sheets0 a_sheets0_numbers v_sheets0_bits v_sheets0_size)) fx h [2] rfl rfl rfl rfl (q_runV fx h hl.1 [2] rfl rfl (tX1_isMissing l D cI cJ cZ cS tb a_sheets0 a_sheets0_numbers H.size v_sheets0_bits v_sheets0_size r129 k129 hg) mvX1_isMissing k_553 ⟨rfl, rfl⟩ ⟨Nat.le_of_ble_eq_true rfl, Nat.le_of_ble_eq_true rfl⟩ rfl rfl rfl rfl (Nat.le_of_ble_eq_true rfl) dX4_copy_39 ⟨Nat.le_of_ble_eq_true rfl, Nat.le_of_ble_eq_true rfl⟩) (fun H locs h => ?_)
        refine lv_if_eq (tgt := 52) hx hb dX4_copy_42 (by decide) (fun c130 => ?_) (fun c130 => ?_)
        · have hf := it_t c130 hf
          refine lv_aload_n hx hb dX4_copy_52 rfl (lv_at hl 0 rfl) ?_
          refine q_get (v := .ref a_sheets) fx inX4 h 0 rfl rfl 5 (by decide) k_179 rfl dX4_copy_53 ?_
          refine lv_iload_n hx hb dX4_copy_56 rfl (lv_at hl 1 rfl) ?_
          refine q_aald (v := a_sheets3) fx h 1 rfl c8 (vinK (by decide)) rfl dX4_copy_57 ?_
          refine q_getN (v := .int v_sheets3_bits) fx inX1 h 8 rfl rfl 0 (by decide) nf_9 rfl dX4_copy_58 ?_
          refine lv_aload_n hx hb dX4_copy_61 rfl (lv_at hl 0 rfl) ?_
          refine q_get (v := .ref a_sheets) fx inX4 h 0 rfl rfl 5 (by decide) k_179 rfl dX4_copy_62 ?_
          refine lv_iload_n hx hb dX4_copy_65 rfl (lv_at hl 3 rfl) ?_
          refine q_aald (v := a_sheets0) fx h 1 rfl c128 (vinK (by decide)) rfl dX4_copy_66 ?_
          refine q_getN (v := .int v_sheets0_bits) fx inX1 h 2 rfl rfl 0 (by decide) nf_9 rfl dX4_copy_67 ?_
          refine lv_icmp_eq (tgt := 80) hx hb dX4_copy_70 (by decide) (fun c131 => ?_) (fun c131 => ?_)
          · have hf := it_t c131 hf
            refine lv_aload_n hx hb dX4_copy_80 rfl (lv_at hl 0 rfl) ?_
            refine q_get (v := .ref a_sheets) fx inX4 h 0 rfl rfl 5 (by decide) k_179 rfl dX4_copy_81 ?_
            refine lv_iload_n hx hb dX4_copy_84 rfl (lv_at hl 1 rfl) ?_
            refine q_aald (v := a_sheets3) fx h 1 rfl c8 (vinK (by decide)) rfl dX4_copy_85 ?_
            refine lv_iload_n hx hb dX4_copy_86 rfl (lv_at hl 2 rfl) ?_
            refine lv_iload hx hb dX4_copy_87 (lv_at hl 5 rfl) ?_
            obtain ⟨r132, k132, hg, hf⟩ := bR_inv hf
            refine q_ci (rest := []) (ws' := (wX4_copy cI cJ cZ cS a_t a_party a_kept a_tape a_telephone a_sheets a_sheets0 a_sheets0_numbers a_sheets1 a_sheets1_numbers a_sheets2 a_sheets2_numbers a_sheets3 a_sheets3_numbers a_findings v_isKept v_sheets0_bits v_sheets0_size v_sheets0_numbers v_sheets1_bits v_sheets1_size v_sheets1_numbers v_sheets2_bits v_sheets2_size v_sheets2_numbers v_sheets3_bits v_sheets3_size v_sheets3_numbers v_findings)) (w1 := (wX1_hasRun cI cJ cZ cS a_sheets3 a_sheets3_numbers v_sheets3_bits v_sheets3_size)) fx h [8] rfl rfl rfl rfl (q_runV fx h hl.1 [8] rfl rfl (tX1_hasRun l D cI cJ cZ cS tb a_sheets3 a_sheets3_numbers H.size v_sheets3_bits v_sheets3_size x2 x5 r132 k132 hg) mvX1_hasRun k_566 ⟨rfl, rfl⟩ ⟨Nat.le_of_ble_eq_true rfl, Nat.le_of_ble_eq_true rfl⟩ rfl rfl rfl rfl (Nat.le_of_ble_eq_true rfl) dX4_copy_89 ⟨Nat.le_of_ble_eq_true rfl, Nat.le_of_ble_eq_true rfl⟩) (fun H locs h => ?_)
            refine lv_if_eq (tgt := 111) hx hb dX4_copy_92 (by decide) (fun c133 => ?_) (fun c133 => ?_)
            · have hf := it_t c133 hf
              exact LX4_copy_111 fx h (lv_sub hl [0] rfl) hf
            have hf := it_f c133 hf
            refine lv_aload_n hx hb dX4_copy_95 rfl (lv_at hl 0 rfl) ?_
            refine q_get (v := .ref a_sheets) fx inX4 h 0 rfl rfl 5 (by decide) k_179 rfl dX4_copy_96 ?_
            refine lv_iload_n hx hb dX4_copy_99 rfl (lv_at hl 3 rfl) ?_
            refine q_aald (v := a_sheets0) fx h 1 rfl c128 (vinK (by decide)) rfl dX4_copy_100 ?_
            refine lv_iload hx hb dX4_copy_101 (lv_at hl 4 rfl) ?_
            refine lv_iload hx hb dX4_copy_103 (lv_at hl 5 rfl) ?_
            obtain ⟨r134, k134, hg, hf⟩ := bR_inv hf
            refine q_ci (rest := []) (ws' := (wX4_copy cI cJ cZ cS a_t a_party a_kept a_tape a_telephone a_sheets a_sheets0 a_sheets0_numbers a_sheets1 a_sheets1_numbers a_sheets2 a_sheets2_numbers a_sheets3 a_sheets3_numbers a_findings v_isKept v_sheets0_bits v_sheets0_size v_sheets0_numbers v_sheets1_bits v_sheets1_size v_sheets1_numbers v_sheets2_bits v_sheets2_size v_sheets2_numbers v_sheets3_bits v_sheets3_size v_sheets3_numbers v_findings)) (w1 := (wX1_hasRun cI cJ cZ cS a_sheets0 a_sheets0_numbers v_sheets0_bits v_sheets0_size)) fx h [2] rfl rfl rfl rfl (q_runV fx h hl.1 [2] rfl rfl (tX1_hasRun l D cI cJ cZ cS tb a_sheets0 a_sheets0_numbers H.size v_sheets0_bits v_sheets0_size x4 x5 r134 k134 hg) mvX1_hasRun k_566 ⟨rfl, rfl⟩ ⟨Nat.le_of_ble_eq_true rfl, Nat.le_of_ble_eq_true rfl⟩ rfl rfl rfl rfl (Nat.le_of_ble_eq_true rfl) dX4_copy_105 ⟨Nat.le_of_ble_eq_true rfl, Nat.le_of_ble_eq_true rfl⟩) (fun H locs h => ?_)
            refine lv_if_ne (tgt := 118) hx hb dX4_copy_108 (by decide) (fun c135 => ?_) (fun c135 => ?_)
            · have hf := it_f c135 hf
              refine lv_aload_n hx hb dX4_copy_118 rfl (lv_at hl 0 rfl) ?_
              refine q_get (v := .ref a_sheets) fx inX4 h 0 rfl rfl 5 (by decide) k_179 rfl dX4_copy_119 ?_
              refine lv_iload_n hx hb dX4_copy_122 rfl (lv_at hl 1 rfl) ?_
              refine q_aald (v := a_sheets3) fx h 1 rfl c8 (vinK (by decide)) rfl dX4_copy_123 ?_
              refine q_getN (v := .ref a_sheets3_numbers) fx inX1 h 8 rfl rfl 2 (by decide) nf_11 rfl dX4_copy_124 ?_
              refine lv_iload_n hx hb dX4_copy_127 rfl (lv_at hl 2 rfl) ?_
              refine lv_aload_n hx hb dX4_copy_128 rfl (lv_at hl 0 rfl) ?_
              refine q_get (v := .ref a_sheets) fx inX4 h 0 rfl rfl 5 (by decide) k_179 rfl dX4_copy_129 ?_
              refine lv_iload_n hx hb dX4_copy_132 rfl (lv_at hl 3 rfl) ?_
              refine q_aald (v := a_sheets0) fx h 1 rfl c128 (vinK (by decide)) rfl dX4_copy_133 ?_
              refine q_getN (v := .ref a_sheets0_numbers) fx inX1 h 2 rfl rfl 2 (by decide) nf_11 rfl dX4_copy_134 ?_
              refine lv_iload hx hb dX4_copy_137 (lv_at hl 4 rfl) ?_
              refine lv_iload hx hb dX4_copy_139 (lv_at hl 5 rfl) ?_
              obtain ⟨i136, hf⟩ := gCp_inv hf
              refine q_copyl (ws' := (wX4_copy cI cJ cZ cS a_t a_party a_kept a_tape a_telephone a_sheets a_sheets0 a_sheets0_numbers a_sheets1 a_sheets1_numbers a_sheets2 a_sheets2_numbers a_sheets3 a_sheets3_numbers a_findings v_isKept v_sheets0_bits v_sheets0_size (va_cpy v_sheets3_numbers v_sheets0_numbers x2.toNatClampNeg x4.toNatClampNeg x5.toNatClampNeg) v_sheets1_bits v_sheets1_size v_sheets1_numbers v_sheets2_bits v_sheets2_size v_sheets2_numbers v_sheets3_bits v_sheets3_size v_sheets3_numbers v_findings)) fx h hl.1 9 3 rfl rfl k_570 k_572 k_571 k_58 i136 (Nat.le_of_ble_eq_true rfl) (Nat.le_of_ble_eq_true rfl) rfl dX4_copy_141 (fun H locs h => ?_)
              refine lv_iload hx hb dX4_copy_144 (lv_at hl 5 rfl) ?_
              exact q_reti (fun k : (Nat → Int64) × (Nat → Int64) × (Nat → Int64) × (Nat → Int64) × (Nat → Int32) => (wX4_copy cI cJ cZ cS a_t a_party a_kept a_tape a_telephone a_sheets a_sheets0 a_sheets0_numbers a_sheets1 a_sheets1_numbers a_sheets2 a_sheets2_numbers a_sheets3 a_sheets3_numbers a_findings v_isKept v_sheets0_bits v_sheets0_size k.1 v_sheets1_bits v_sheets1_size k.2.1 v_sheets2_bits v_sheets2_size k.2.2.1 v_sheets3_bits v_sheets3_size k.2.2.2.1 k.2.2.2.2)) fx hf h dX4_copy_146
            have hf := it_t c135 hf
            exact LX4_copy_111 fx h (lv_sub hl [0] rfl) hf
          have hf := it_f c131 hf
          refine lv_aload_n hx hb dX4_copy_73 rfl (lv_at hl 0 rfl) ?_
          refine q_ldc fx k_269 dX4_copy_74 ?_
          obtain ⟨r137, k137, hg, hf⟩ := bR_inv hf
          refine q_ci (rest := []) (ws' := (wX4_copy cI cJ cZ cS a_t a_party a_kept a_tape a_telephone a_sheets a_sheets0 a_sheets0_numbers a_sheets1 a_sheets1_numbers a_sheets2 a_sheets2_numbers a_sheets3 a_sheets3_numbers a_findings v_isKept v_sheets0_bits v_sheets0_size v_sheets0_numbers v_sheets1_bits v_sheets1_size v_sheets1_numbers v_sheets2_bits v_sheets2_size v_sheets2_numbers v_sheets3_bits v_sheets3_size v_sheets3_numbers k137)) (w1 := (wX4_found cI cJ cZ cS a_t a_party a_kept a_tape a_telephone a_sheets a_findings v_isKept k137)) fx h [0, 10] rfl rfl rfl rfl (q_runV fx h hl.1 [0, 10] rfl rfl (tX4_found l D cI cJ cZ cS tb a_t a_party a_kept a_tape a_telephone a_sheets a_findings H.size v_isKept v_findings (-1000000003) r137 k137 hg) mvX4_found k_207 ⟨rfl, rfl⟩ ⟨Nat.le_of_ble_eq_true rfl, Nat.le_of_ble_eq_true rfl⟩ rfl rfl rfl rfl (Nat.le_of_ble_eq_true rfl) dX4_copy_76 ⟨Nat.le_of_ble_eq_true rfl, Nat.le_of_ble_eq_true rfl⟩) (fun H locs h => ?_)
          exact q_reti (fun k : (Nat → Int64) × (Nat → Int64) × (Nat → Int64) × (Nat → Int64) × (Nat → Int32) => (wX4_copy cI cJ cZ cS a_t a_party a_kept a_tape a_telephone a_sheets a_sheets0 a_sheets0_numbers a_sheets1 a_sheets1_numbers a_sheets2 a_sheets2_numbers a_sheets3 a_sheets3_numbers a_findings v_isKept v_sheets0_bits v_sheets0_size k.1 v_sheets1_bits v_sheets1_size k.2.1 v_sheets2_bits v_sheets2_size k.2.2.1 v_sheets3_bits v_sheets3_size k.2.2.2.1 k.2.2.2.2)) fx hf h dX4_copy_79
        have hf := it_f c130 hf
        exact LX4_copy_45 fx h (lv_sub hl [0] rfl) hf
      · refine q_aald (v := a_sheets1) fx h 1 rfl c128 (vinK (by decide)) rfl dX4_copy_38 ?_
        obtain ⟨r138, k138, hg, hf⟩ := bR_inv hf
        refine q_ci (rest := []) (ws' := (wX4_copy cI cJ cZ cS a_t a_party a_kept a_tape a_telephone a_sheets a_sheets0 a_sheets0_numbers a_sheets1 a_sheets1_numbers a_sheets2 a_sheets2_numbers a_sheets3 a_sheets3_numbers a_findings v_isKept v_sheets0_bits v_sheets0_size v_sheets0_numbers v_sheets1_bits v_sheets1_size v_sheets1_numbers v_sheets2_bits v_sheets2_size v_sheets2_numbers v_sheets3_bits v_sheets3_size v_sheets3_numbers v_findings)) (w1 := (wX1_isMissing cI cJ cZ cS a_sheets1 a_sheets1_numbers v_sheets1_bits v_sheets1_size)) fx h [4] rfl rfl rfl rfl (q_runV fx h hl.1 [4] rfl rfl (tX1_isMissing l D cI cJ cZ cS tb a_sheets1 a_sheets1_numbers H.size v_sheets1_bits v_sheets1_size r138 k138 hg) mvX1_isMissing k_553 ⟨rfl, rfl⟩ ⟨Nat.le_of_ble_eq_true rfl, Nat.le_of_ble_eq_true rfl⟩ rfl rfl rfl rfl (Nat.le_of_ble_eq_true rfl) dX4_copy_39 ⟨Nat.le_of_ble_eq_true rfl, Nat.le_of_ble_eq_true rfl⟩) (fun H locs h => ?_)
        refine lv_if_eq (tgt := 52) hx hb dX4_copy_42 (by decide) (fun c139 => ?_) (fun c139 => ?_)
        · have hf := it_t c139 hf
          refine lv_aload_n hx hb dX4_copy_52 rfl (lv_at hl 0 rfl) ?_
          refine q_get (v := .ref a_sheets) fx inX4 h 0 rfl rfl 5 (by decide) k_179 rfl dX4_copy_53 ?_
          refine lv_iload_n hx hb dX4_copy_56 rfl (lv_at hl 1 rfl) ?_
          refine q_aald (v := a_sheets3) fx h 1 rfl c8 (vinK (by decide)) rfl dX4_copy_57 ?_
          refine q_getN (v := .int v_sheets3_bits) fx inX1 h 8 rfl rfl 0 (by decide) nf_9 rfl dX4_copy_58 ?_
          refine lv_aload_n hx hb dX4_copy_61 rfl (lv_at hl 0 rfl) ?_
          refine q_get (v := .ref a_sheets) fx inX4 h 0 rfl rfl 5 (by decide) k_179 rfl dX4_copy_62 ?_
          refine lv_iload_n hx hb dX4_copy_65 rfl (lv_at hl 3 rfl) ?_
          refine q_aald (v := a_sheets1) fx h 1 rfl c128 (vinK (by decide)) rfl dX4_copy_66 ?_
          refine q_getN (v := .int v_sheets1_bits) fx inX1 h 4 rfl rfl 0 (by decide) nf_9 rfl dX4_copy_67 ?_
          refine lv_icmp_eq (tgt := 80) hx hb dX4_copy_70 (by decide) (fun c140 => ?_) (fun c140 => ?_)
          · have hf := it_t c140 hf
            refine lv_aload_n hx hb dX4_copy_80 rfl (lv_at hl 0 rfl) ?_
            refine q_get (v := .ref a_sheets) fx inX4 h 0 rfl rfl 5 (by decide) k_179 rfl dX4_copy_81 ?_
            refine lv_iload_n hx hb dX4_copy_84 rfl (lv_at hl 1 rfl) ?_
            refine q_aald (v := a_sheets3) fx h 1 rfl c8 (vinK (by decide)) rfl dX4_copy_85 ?_
            refine lv_iload_n hx hb dX4_copy_86 rfl (lv_at hl 2 rfl) ?_
            refine lv_iload hx hb dX4_copy_87 (lv_at hl 5 rfl) ?_
            obtain ⟨r141, k141, hg, hf⟩ := bR_inv hf
            refine q_ci (rest := []) (ws' := (wX4_copy cI cJ cZ cS a_t a_party a_kept a_tape a_telephone a_sheets a_sheets0 a_sheets0_numbers a_sheets1 a_sheets1_numbers a_sheets2 a_sheets2_numbers a_sheets3 a_sheets3_numbers a_findings v_isKept v_sheets0_bits v_sheets0_size v_sheets0_numbers v_sheets1_bits v_sheets1_size v_sheets1_numbers v_sheets2_bits v_sheets2_size v_sheets2_numbers v_sheets3_bits v_sheets3_size v_sheets3_numbers v_findings)) (w1 := (wX1_hasRun cI cJ cZ cS a_sheets3 a_sheets3_numbers v_sheets3_bits v_sheets3_size)) fx h [8] rfl rfl rfl rfl (q_runV fx h hl.1 [8] rfl rfl (tX1_hasRun l D cI cJ cZ cS tb a_sheets3 a_sheets3_numbers H.size v_sheets3_bits v_sheets3_size x2 x5 r141 k141 hg) mvX1_hasRun k_566 ⟨rfl, rfl⟩ ⟨Nat.le_of_ble_eq_true rfl, Nat.le_of_ble_eq_true rfl⟩ rfl rfl rfl rfl (Nat.le_of_ble_eq_true rfl) dX4_copy_89 ⟨Nat.le_of_ble_eq_true rfl, Nat.le_of_ble_eq_true rfl⟩) (fun H locs h => ?_)
            refine lv_if_eq (tgt := 111) hx hb dX4_copy_92 (by decide) (fun c142 => ?_) (fun c142 => ?_)
            · have hf := it_t c142 hf
              exact LX4_copy_111 fx h (lv_sub hl [0] rfl) hf
            have hf := it_f c142 hf
            refine lv_aload_n hx hb dX4_copy_95 rfl (lv_at hl 0 rfl) ?_
            refine q_get (v := .ref a_sheets) fx inX4 h 0 rfl rfl 5 (by decide) k_179 rfl dX4_copy_96 ?_
            refine lv_iload_n hx hb dX4_copy_99 rfl (lv_at hl 3 rfl) ?_
            refine q_aald (v := a_sheets1) fx h 1 rfl c128 (vinK (by decide)) rfl dX4_copy_100 ?_
            refine lv_iload hx hb dX4_copy_101 (lv_at hl 4 rfl) ?_
            refine lv_iload hx hb dX4_copy_103 (lv_at hl 5 rfl) ?_
            obtain ⟨r143, k143, hg, hf⟩ := bR_inv hf
            refine q_ci (rest := []) (ws' := (wX4_copy cI cJ cZ cS a_t a_party a_kept a_tape a_telephone a_sheets a_sheets0 a_sheets0_numbers a_sheets1 a_sheets1_numbers a_sheets2 a_sheets2_numbers a_sheets3 a_sheets3_numbers a_findings v_isKept v_sheets0_bits v_sheets0_size v_sheets0_numbers v_sheets1_bits v_sheets1_size v_sheets1_numbers v_sheets2_bits v_sheets2_size v_sheets2_numbers v_sheets3_bits v_sheets3_size v_sheets3_numbers v_findings)) (w1 := (wX1_hasRun cI cJ cZ cS a_sheets1 a_sheets1_numbers v_sheets1_bits v_sheets1_size)) fx h [4] rfl rfl rfl rfl (q_runV fx h hl.1 [4] rfl rfl (tX1_hasRun l D cI cJ cZ cS tb a_sheets1 a_sheets1_numbers H.size v_sheets1_bits v_sheets1_size x4 x5 r143 k143 hg) mvX1_hasRun k_566 ⟨rfl, rfl⟩ ⟨Nat.le_of_ble_eq_true rfl, Nat.le_of_ble_eq_true rfl⟩ rfl rfl rfl rfl (Nat.le_of_ble_eq_true rfl) dX4_copy_105 ⟨Nat.le_of_ble_eq_true rfl, Nat.le_of_ble_eq_true rfl⟩) (fun H locs h => ?_)
            refine lv_if_ne (tgt := 118) hx hb dX4_copy_108 (by decide) (fun c144 => ?_) (fun c144 => ?_)
            · have hf := it_f c144 hf
              refine lv_aload_n hx hb dX4_copy_118 rfl (lv_at hl 0 rfl) ?_
              refine q_get (v := .ref a_sheets) fx inX4 h 0 rfl rfl 5 (by decide) k_179 rfl dX4_copy_119 ?_
              refine lv_iload_n hx hb dX4_copy_122 rfl (lv_at hl 1 rfl) ?_
              refine q_aald (v := a_sheets3) fx h 1 rfl c8 (vinK (by decide)) rfl dX4_copy_123 ?_
              refine q_getN (v := .ref a_sheets3_numbers) fx inX1 h 8 rfl rfl 2 (by decide) nf_11 rfl dX4_copy_124 ?_
              refine lv_iload_n hx hb dX4_copy_127 rfl (lv_at hl 2 rfl) ?_
              refine lv_aload_n hx hb dX4_copy_128 rfl (lv_at hl 0 rfl) ?_
              refine q_get (v := .ref a_sheets) fx inX4 h 0 rfl rfl 5 (by decide) k_179 rfl dX4_copy_129 ?_
              refine lv_iload_n hx hb dX4_copy_132 rfl (lv_at hl 3 rfl) ?_
              refine q_aald (v := a_sheets1) fx h 1 rfl c128 (vinK (by decide)) rfl dX4_copy_133 ?_
              refine q_getN (v := .ref a_sheets1_numbers) fx inX1 h 4 rfl rfl 2 (by decide) nf_11 rfl dX4_copy_134 ?_
              refine lv_iload hx hb dX4_copy_137 (lv_at hl 4 rfl) ?_
              refine lv_iload hx hb dX4_copy_139 (lv_at hl 5 rfl) ?_
              obtain ⟨i145, hf⟩ := gCp_inv hf
              refine q_copyl (ws' := (wX4_copy cI cJ cZ cS a_t a_party a_kept a_tape a_telephone a_sheets a_sheets0 a_sheets0_numbers a_sheets1 a_sheets1_numbers a_sheets2 a_sheets2_numbers a_sheets3 a_sheets3_numbers a_findings v_isKept v_sheets0_bits v_sheets0_size v_sheets0_numbers v_sheets1_bits v_sheets1_size (va_cpy v_sheets3_numbers v_sheets1_numbers x2.toNatClampNeg x4.toNatClampNeg x5.toNatClampNeg) v_sheets2_bits v_sheets2_size v_sheets2_numbers v_sheets3_bits v_sheets3_size v_sheets3_numbers v_findings)) fx h hl.1 9 5 rfl rfl k_570 k_572 k_571 k_58 i145 (Nat.le_of_ble_eq_true rfl) (Nat.le_of_ble_eq_true rfl) rfl dX4_copy_141 (fun H locs h => ?_)
              refine lv_iload hx hb dX4_copy_144 (lv_at hl 5 rfl) ?_
              exact q_reti (fun k : (Nat → Int64) × (Nat → Int64) × (Nat → Int64) × (Nat → Int64) × (Nat → Int32) => (wX4_copy cI cJ cZ cS a_t a_party a_kept a_tape a_telephone a_sheets a_sheets0 a_sheets0_numbers a_sheets1 a_sheets1_numbers a_sheets2 a_sheets2_numbers a_sheets3 a_sheets3_numbers a_findings v_isKept v_sheets0_bits v_sheets0_size k.1 v_sheets1_bits v_sheets1_size k.2.1 v_sheets2_bits v_sheets2_size k.2.2.1 v_sheets3_bits v_sheets3_size k.2.2.2.1 k.2.2.2.2)) fx hf h dX4_copy_146
            have hf := it_t c144 hf
            exact LX4_copy_111 fx h (lv_sub hl [0] rfl) hf
          have hf := it_f c140 hf
          refine lv_aload_n hx hb dX4_copy_73 rfl (lv_at hl 0 rfl) ?_
          refine q_ldc fx k_269 dX4_copy_74 ?_
          obtain ⟨r146, k146, hg, hf⟩ := bR_inv hf
          refine q_ci (rest := []) (ws' := (wX4_copy cI cJ cZ cS a_t a_party a_kept a_tape a_telephone a_sheets a_sheets0 a_sheets0_numbers a_sheets1 a_sheets1_numbers a_sheets2 a_sheets2_numbers a_sheets3 a_sheets3_numbers a_findings v_isKept v_sheets0_bits v_sheets0_size v_sheets0_numbers v_sheets1_bits v_sheets1_size v_sheets1_numbers v_sheets2_bits v_sheets2_size v_sheets2_numbers v_sheets3_bits v_sheets3_size v_sheets3_numbers k146)) (w1 := (wX4_found cI cJ cZ cS a_t a_party a_kept a_tape a_telephone a_sheets a_findings v_isKept k146)) fx h [0, 10] rfl rfl rfl rfl (q_runV fx h hl.1 [0, 10] rfl rfl (tX4_found l D cI cJ cZ cS tb a_t a_party a_kept a_tape a_telephone a_sheets a_findings H.size v_isKept v_findings (-1000000003) r146 k146 hg) mvX4_found k_207 ⟨rfl, rfl⟩ ⟨Nat.le_of_ble_eq_true rfl, Nat.le_of_ble_eq_true rfl⟩ rfl rfl rfl rfl (Nat.le_of_ble_eq_true rfl) dX4_copy_76 ⟨Nat.le_of_ble_eq_true rfl, Nat.le_of_ble_eq_true rfl⟩) (fun H locs h => ?_)
          exact q_reti (fun k : (Nat → Int64) × (Nat → Int64) × (Nat → Int64) × (Nat → Int64) × (Nat → Int32) => (wX4_copy cI cJ cZ cS a_t a_party a_kept a_tape a_telephone a_sheets a_sheets0 a_sheets0_numbers a_sheets1 a_sheets1_numbers a_sheets2 a_sheets2_numbers a_sheets3 a_sheets3_numbers a_findings v_isKept v_sheets0_bits v_sheets0_size k.1 v_sheets1_bits v_sheets1_size k.2.1 v_sheets2_bits v_sheets2_size k.2.2.1 v_sheets3_bits v_sheets3_size k.2.2.2.1 k.2.2.2.2)) fx hf h dX4_copy_79
        have hf := it_f c139 hf
        exact LX4_copy_45 fx h (lv_sub hl [0] rfl) hf
      · refine q_aald (v := a_sheets2) fx h 1 rfl c128 (vinK (by decide)) rfl dX4_copy_38 ?_
        obtain ⟨r147, k147, hg, hf⟩ := bR_inv hf
        refine q_ci (rest := []) (ws' := (wX4_copy cI cJ cZ cS a_t a_party a_kept a_tape a_telephone a_sheets a_sheets0 a_sheets0_numbers a_sheets1 a_sheets1_numbers a_sheets2 a_sheets2_numbers a_sheets3 a_sheets3_numbers a_findings v_isKept v_sheets0_bits v_sheets0_size v_sheets0_numbers v_sheets1_bits v_sheets1_size v_sheets1_numbers v_sheets2_bits v_sheets2_size v_sheets2_numbers v_sheets3_bits v_sheets3_size v_sheets3_numbers v_findings)) (w1 := (wX1_isMissing cI cJ cZ cS a_sheets2 a_sheets2_numbers v_sheets2_bits v_sheets2_size)) fx h [6] rfl rfl rfl rfl (q_runV fx h hl.1 [6] rfl rfl (tX1_isMissing l D cI cJ cZ cS tb a_sheets2 a_sheets2_numbers H.size v_sheets2_bits v_sheets2_size r147 k147 hg) mvX1_isMissing k_553 ⟨rfl, rfl⟩ ⟨Nat.le_of_ble_eq_true rfl, Nat.le_of_ble_eq_true rfl⟩ rfl rfl rfl rfl (Nat.le_of_ble_eq_true rfl) dX4_copy_39 ⟨Nat.le_of_ble_eq_true rfl, Nat.le_of_ble_eq_true rfl⟩) (fun H locs h => ?_)
        refine lv_if_eq (tgt := 52) hx hb dX4_copy_42 (by decide) (fun c148 => ?_) (fun c148 => ?_)
        · have hf := it_t c148 hf
          refine lv_aload_n hx hb dX4_copy_52 rfl (lv_at hl 0 rfl) ?_
          refine q_get (v := .ref a_sheets) fx inX4 h 0 rfl rfl 5 (by decide) k_179 rfl dX4_copy_53 ?_
          refine lv_iload_n hx hb dX4_copy_56 rfl (lv_at hl 1 rfl) ?_
          refine q_aald (v := a_sheets3) fx h 1 rfl c8 (vinK (by decide)) rfl dX4_copy_57 ?_
          refine q_getN (v := .int v_sheets3_bits) fx inX1 h 8 rfl rfl 0 (by decide) nf_9 rfl dX4_copy_58 ?_
          refine lv_aload_n hx hb dX4_copy_61 rfl (lv_at hl 0 rfl) ?_
          refine q_get (v := .ref a_sheets) fx inX4 h 0 rfl rfl 5 (by decide) k_179 rfl dX4_copy_62 ?_
          refine lv_iload_n hx hb dX4_copy_65 rfl (lv_at hl 3 rfl) ?_
          refine q_aald (v := a_sheets2) fx h 1 rfl c128 (vinK (by decide)) rfl dX4_copy_66 ?_
          refine q_getN (v := .int v_sheets2_bits) fx inX1 h 6 rfl rfl 0 (by decide) nf_9 rfl dX4_copy_67 ?_
          refine lv_icmp_eq (tgt := 80) hx hb dX4_copy_70 (by decide) (fun c149 => ?_) (fun c149 => ?_)
          · have hf := it_t c149 hf
            refine lv_aload_n hx hb dX4_copy_80 rfl (lv_at hl 0 rfl) ?_
            refine q_get (v := .ref a_sheets) fx inX4 h 0 rfl rfl 5 (by decide) k_179 rfl dX4_copy_81 ?_
            refine lv_iload_n hx hb dX4_copy_84 rfl (lv_at hl 1 rfl) ?_
            refine q_aald (v := a_sheets3) fx h 1 rfl c8 (vinK (by decide)) rfl dX4_copy_85 ?_
            refine lv_iload_n hx hb dX4_copy_86 rfl (lv_at hl 2 rfl) ?_
            refine lv_iload hx hb dX4_copy_87 (lv_at hl 5 rfl) ?_
            obtain ⟨r150, k150, hg, hf⟩ := bR_inv hf
            refine q_ci (rest := []) (ws' := (wX4_copy cI cJ cZ cS a_t a_party a_kept a_tape a_telephone a_sheets a_sheets0 a_sheets0_numbers a_sheets1 a_sheets1_numbers a_sheets2 a_sheets2_numbers a_sheets3 a_sheets3_numbers a_findings v_isKept v_sheets0_bits v_sheets0_size v_sheets0_numbers v_sheets1_bits v_sheets1_size v_sheets1_numbers v_sheets2_bits v_sheets2_size v_sheets2_numbers v_sheets3_bits v_sheets3_size v_sheets3_numbers v_findings)) (w1 := (wX1_hasRun cI cJ cZ cS a_sheets3 a_sheets3_numbers v_sheets3_bits v_sheets3_size)) fx h [8] rfl rfl rfl rfl (q_runV fx h hl.1 [8] rfl rfl (tX1_hasRun l D cI cJ cZ cS tb a_sheets3 a_sheets3_numbers H.size v_sheets3_bits v_sheets3_size x2 x5 r150 k150 hg) mvX1_hasRun k_566 ⟨rfl, rfl⟩ ⟨Nat.le_of_ble_eq_true rfl, Nat.le_of_ble_eq_true rfl⟩ rfl rfl rfl rfl (Nat.le_of_ble_eq_true rfl) dX4_copy_89 ⟨Nat.le_of_ble_eq_true rfl, Nat.le_of_ble_eq_true rfl⟩) (fun H locs h => ?_)
            refine lv_if_eq (tgt := 111) hx hb dX4_copy_92 (by decide) (fun c151 => ?_) (fun c151 => ?_)
            · have hf := it_t c151 hf
              exact LX4_copy_111 fx h (lv_sub hl [0] rfl) hf
            have hf := it_f c151 hf
            refine lv_aload_n hx hb dX4_copy_95 rfl (lv_at hl 0 rfl) ?_
            refine q_get (v := .ref a_sheets) fx inX4 h 0 rfl rfl 5 (by decide) k_179 rfl dX4_copy_96 ?_
            refine lv_iload_n hx hb dX4_copy_99 rfl (lv_at hl 3 rfl) ?_
            refine q_aald (v := a_sheets2) fx h 1 rfl c128 (vinK (by decide)) rfl dX4_copy_100 ?_
            refine lv_iload hx hb dX4_copy_101 (lv_at hl 4 rfl) ?_
            refine lv_iload hx hb dX4_copy_103 (lv_at hl 5 rfl) ?_
            obtain ⟨r152, k152, hg, hf⟩ := bR_inv hf
            refine q_ci (rest := []) (ws' := (wX4_copy cI cJ cZ cS a_t a_party a_kept a_tape a_telephone a_sheets a_sheets0 a_sheets0_numbers a_sheets1 a_sheets1_numbers a_sheets2 a_sheets2_numbers a_sheets3 a_sheets3_numbers a_findings v_isKept v_sheets0_bits v_sheets0_size v_sheets0_numbers v_sheets1_bits v_sheets1_size v_sheets1_numbers v_sheets2_bits v_sheets2_size v_sheets2_numbers v_sheets3_bits v_sheets3_size v_sheets3_numbers v_findings)) (w1 := (wX1_hasRun cI cJ cZ cS a_sheets2 a_sheets2_numbers v_sheets2_bits v_sheets2_size)) fx h [6] rfl rfl rfl rfl (q_runV fx h hl.1 [6] rfl rfl (tX1_hasRun l D cI cJ cZ cS tb a_sheets2 a_sheets2_numbers H.size v_sheets2_bits v_sheets2_size x4 x5 r152 k152 hg) mvX1_hasRun k_566 ⟨rfl, rfl⟩ ⟨Nat.le_of_ble_eq_true rfl, Nat.le_of_ble_eq_true rfl⟩ rfl rfl rfl rfl (Nat.le_of_ble_eq_true rfl) dX4_copy_105 ⟨Nat.le_of_ble_eq_true rfl, Nat.le_of_ble_eq_true rfl⟩) (fun H locs h => ?_)
            refine lv_if_ne (tgt := 118) hx hb dX4_copy_108 (by decide) (fun c153 => ?_) (fun c153 => ?_)
            · have hf := it_f c153 hf
              refine lv_aload_n hx hb dX4_copy_118 rfl (lv_at hl 0 rfl) ?_
              refine q_get (v := .ref a_sheets) fx inX4 h 0 rfl rfl 5 (by decide) k_179 rfl dX4_copy_119 ?_
              refine lv_iload_n hx hb dX4_copy_122 rfl (lv_at hl 1 rfl) ?_
              refine q_aald (v := a_sheets3) fx h 1 rfl c8 (vinK (by decide)) rfl dX4_copy_123 ?_
              refine q_getN (v := .ref a_sheets3_numbers) fx inX1 h 8 rfl rfl 2 (by decide) nf_11 rfl dX4_copy_124 ?_
              refine lv_iload_n hx hb dX4_copy_127 rfl (lv_at hl 2 rfl) ?_
              refine lv_aload_n hx hb dX4_copy_128 rfl (lv_at hl 0 rfl) ?_
              refine q_get (v := .ref a_sheets) fx inX4 h 0 rfl rfl 5 (by decide) k_179 rfl dX4_copy_129 ?_
              refine lv_iload_n hx hb dX4_copy_132 rfl (lv_at hl 3 rfl) ?_
              refine q_aald (v := a_sheets2) fx h 1 rfl c128 (vinK (by decide)) rfl dX4_copy_133 ?_
              refine q_getN (v := .ref a_sheets2_numbers) fx inX1 h 6 rfl rfl 2 (by decide) nf_11 rfl dX4_copy_134 ?_
              refine lv_iload hx hb dX4_copy_137 (lv_at hl 4 rfl) ?_
              refine lv_iload hx hb dX4_copy_139 (lv_at hl 5 rfl) ?_
              obtain ⟨i154, hf⟩ := gCp_inv hf
              refine q_copyl (ws' := (wX4_copy cI cJ cZ cS a_t a_party a_kept a_tape a_telephone a_sheets a_sheets0 a_sheets0_numbers a_sheets1 a_sheets1_numbers a_sheets2 a_sheets2_numbers a_sheets3 a_sheets3_numbers a_findings v_isKept v_sheets0_bits v_sheets0_size v_sheets0_numbers v_sheets1_bits v_sheets1_size v_sheets1_numbers v_sheets2_bits v_sheets2_size (va_cpy v_sheets3_numbers v_sheets2_numbers x2.toNatClampNeg x4.toNatClampNeg x5.toNatClampNeg) v_sheets3_bits v_sheets3_size v_sheets3_numbers v_findings)) fx h hl.1 9 7 rfl rfl k_570 k_572 k_571 k_58 i154 (Nat.le_of_ble_eq_true rfl) (Nat.le_of_ble_eq_true rfl) rfl dX4_copy_141 (fun H locs h => ?_)
              refine lv_iload hx hb dX4_copy_144 (lv_at hl 5 rfl) ?_
              exact q_reti (fun k : (Nat → Int64) × (Nat → Int64) × (Nat → Int64) × (Nat → Int64) × (Nat → Int32) => (wX4_copy cI cJ cZ cS a_t a_party a_kept a_tape a_telephone a_sheets a_sheets0 a_sheets0_numbers a_sheets1 a_sheets1_numbers a_sheets2 a_sheets2_numbers a_sheets3 a_sheets3_numbers a_findings v_isKept v_sheets0_bits v_sheets0_size k.1 v_sheets1_bits v_sheets1_size k.2.1 v_sheets2_bits v_sheets2_size k.2.2.1 v_sheets3_bits v_sheets3_size k.2.2.2.1 k.2.2.2.2)) fx hf h dX4_copy_146
            have hf := it_t c153 hf
            exact LX4_copy_111 fx h (lv_sub hl [0] rfl) hf
          have hf := it_f c149 hf
          refine lv_aload_n hx hb dX4_copy_73 rfl (lv_at hl 0 rfl) ?_
          refine q_ldc fx k_269 dX4_copy_74 ?_
          obtain ⟨r155, k155, hg, hf⟩ := bR_inv hf
          refine q_ci (rest := []) (ws' := (wX4_copy cI cJ cZ cS a_t a_party a_kept a_tape a_telephone a_sheets a_sheets0 a_sheets0_numbers a_sheets1 a_sheets1_numbers a_sheets2 a_sheets2_numbers a_sheets3 a_sheets3_numbers a_findings v_isKept v_sheets0_bits v_sheets0_size v_sheets0_numbers v_sheets1_bits v_sheets1_size v_sheets1_numbers v_sheets2_bits v_sheets2_size v_sheets2_numbers v_sheets3_bits v_sheets3_size v_sheets3_numbers k155)) (w1 := (wX4_found cI cJ cZ cS a_t a_party a_kept a_tape a_telephone a_sheets a_findings v_isKept k155)) fx h [0, 10] rfl rfl rfl rfl (q_runV fx h hl.1 [0, 10] rfl rfl (tX4_found l D cI cJ cZ cS tb a_t a_party a_kept a_tape a_telephone a_sheets a_findings H.size v_isKept v_findings (-1000000003) r155 k155 hg) mvX4_found k_207 ⟨rfl, rfl⟩ ⟨Nat.le_of_ble_eq_true rfl, Nat.le_of_ble_eq_true rfl⟩ rfl rfl rfl rfl (Nat.le_of_ble_eq_true rfl) dX4_copy_76 ⟨Nat.le_of_ble_eq_true rfl, Nat.le_of_ble_eq_true rfl⟩) (fun H locs h => ?_)
          exact q_reti (fun k : (Nat → Int64) × (Nat → Int64) × (Nat → Int64) × (Nat → Int64) × (Nat → Int32) => (wX4_copy cI cJ cZ cS a_t a_party a_kept a_tape a_telephone a_sheets a_sheets0 a_sheets0_numbers a_sheets1 a_sheets1_numbers a_sheets2 a_sheets2_numbers a_sheets3 a_sheets3_numbers a_findings v_isKept v_sheets0_bits v_sheets0_size k.1 v_sheets1_bits v_sheets1_size k.2.1 v_sheets2_bits v_sheets2_size k.2.2.1 v_sheets3_bits v_sheets3_size k.2.2.2.1 k.2.2.2.2)) fx hf h dX4_copy_79
        have hf := it_f c148 hf
        exact LX4_copy_45 fx h (lv_sub hl [0] rfl) hf
      · refine q_aald (v := a_sheets3) fx h 1 rfl c128 (vinK (by decide)) rfl dX4_copy_38 ?_
        obtain ⟨r156, k156, hg, hf⟩ := bR_inv hf
        refine q_ci (rest := []) (ws' := (wX4_copy cI cJ cZ cS a_t a_party a_kept a_tape a_telephone a_sheets a_sheets0 a_sheets0_numbers a_sheets1 a_sheets1_numbers a_sheets2 a_sheets2_numbers a_sheets3 a_sheets3_numbers a_findings v_isKept v_sheets0_bits v_sheets0_size v_sheets0_numbers v_sheets1_bits v_sheets1_size v_sheets1_numbers v_sheets2_bits v_sheets2_size v_sheets2_numbers v_sheets3_bits v_sheets3_size v_sheets3_numbers v_findings)) (w1 := (wX1_isMissing cI cJ cZ cS a_sheets3 a_sheets3_numbers v_sheets3_bits v_sheets3_size)) fx h [8] rfl rfl rfl rfl (q_runV fx h hl.1 [8] rfl rfl (tX1_isMissing l D cI cJ cZ cS tb a_sheets3 a_sheets3_numbers H.size v_sheets3_bits v_sheets3_size r156 k156 hg) mvX1_isMissing k_553 ⟨rfl, rfl⟩ ⟨Nat.le_of_ble_eq_true rfl, Nat.le_of_ble_eq_true rfl⟩ rfl rfl rfl rfl (Nat.le_of_ble_eq_true rfl) dX4_copy_39 ⟨Nat.le_of_ble_eq_true rfl, Nat.le_of_ble_eq_true rfl⟩) (fun H locs h => ?_)
        refine lv_if_eq (tgt := 52) hx hb dX4_copy_42 (by decide) (fun c157 => ?_) (fun c157 => ?_)
        · have hf := it_t c157 hf
          refine lv_aload_n hx hb dX4_copy_52 rfl (lv_at hl 0 rfl) ?_
          refine q_get (v := .ref a_sheets) fx inX4 h 0 rfl rfl 5 (by decide) k_179 rfl dX4_copy_53 ?_
          refine lv_iload_n hx hb dX4_copy_56 rfl (lv_at hl 1 rfl) ?_
          refine q_aald (v := a_sheets3) fx h 1 rfl c8 (vinK (by decide)) rfl dX4_copy_57 ?_
          refine q_getN (v := .int v_sheets3_bits) fx inX1 h 8 rfl rfl 0 (by decide) nf_9 rfl dX4_copy_58 ?_
          refine lv_aload_n hx hb dX4_copy_61 rfl (lv_at hl 0 rfl) ?_
          refine q_get (v := .ref a_sheets) fx inX4 h 0 rfl rfl 5 (by decide) k_179 rfl dX4_copy_62 ?_
          refine lv_iload_n hx hb dX4_copy_65 rfl (lv_at hl 3 rfl) ?_
          refine q_aald (v := a_sheets3) fx h 1 rfl c128 (vinK (by decide)) rfl dX4_copy_66 ?_
          refine q_getN (v := .int v_sheets3_bits) fx inX1 h 8 rfl rfl 0 (by decide) nf_9 rfl dX4_copy_67 ?_
          refine lv_icmp_eq (tgt := 80) hx hb dX4_copy_70 (by decide) (fun c158 => ?_) (fun c158 => ?_)
          · have hf := it_t c158 hf
            refine lv_aload_n hx hb dX4_copy_80 rfl (lv_at hl 0 rfl) ?_
            refine q_get (v := .ref a_sheets) fx inX4 h 0 rfl rfl 5 (by decide) k_179 rfl dX4_copy_81 ?_
            refine lv_iload_n hx hb dX4_copy_84 rfl (lv_at hl 1 rfl) ?_
            refine q_aald (v := a_sheets3) fx h 1 rfl c8 (vinK (by decide)) rfl dX4_copy_85 ?_
            refine lv_iload_n hx hb dX4_copy_86 rfl (lv_at hl 2 rfl) ?_
            refine lv_iload hx hb dX4_copy_87 (lv_at hl 5 rfl) ?_
            obtain ⟨r159, k159, hg, hf⟩ := bR_inv hf
            refine q_ci (rest := []) (ws' := (wX4_copy cI cJ cZ cS a_t a_party a_kept a_tape a_telephone a_sheets a_sheets0 a_sheets0_numbers a_sheets1 a_sheets1_numbers a_sheets2 a_sheets2_numbers a_sheets3 a_sheets3_numbers a_findings v_isKept v_sheets0_bits v_sheets0_size v_sheets0_numbers v_sheets1_bits v_sheets1_size v_sheets1_numbers v_sheets2_bits v_sheets2_size v_sheets2_numbers v_sheets3_bits v_sheets3_size v_sheets3_numbers v_findings)) (w1 := (wX1_hasRun cI cJ cZ cS a_sheets3 a_sheets3_numbers v_sheets3_bits v_sheets3_size)) fx h [8] rfl rfl rfl rfl (q_runV fx h hl.1 [8] rfl rfl (tX1_hasRun l D cI cJ cZ cS tb a_sheets3 a_sheets3_numbers H.size v_sheets3_bits v_sheets3_size x2 x5 r159 k159 hg) mvX1_hasRun k_566 ⟨rfl, rfl⟩ ⟨Nat.le_of_ble_eq_true rfl, Nat.le_of_ble_eq_true rfl⟩ rfl rfl rfl rfl (Nat.le_of_ble_eq_true rfl) dX4_copy_89 ⟨Nat.le_of_ble_eq_true rfl, Nat.le_of_ble_eq_true rfl⟩) (fun H locs h => ?_)
            refine lv_if_eq (tgt := 111) hx hb dX4_copy_92 (by decide) (fun c160 => ?_) (fun c160 => ?_)
            · have hf := it_t c160 hf
              exact LX4_copy_111 fx h (lv_sub hl [0] rfl) hf
            have hf := it_f c160 hf
            refine lv_aload_n hx hb dX4_copy_95 rfl (lv_at hl 0 rfl) ?_
            refine q_get (v := .ref a_sheets) fx inX4 h 0 rfl rfl 5 (by decide) k_179 rfl dX4_copy_96 ?_
            refine lv_iload_n hx hb dX4_copy_99 rfl (lv_at hl 3 rfl) ?_
            refine q_aald (v := a_sheets3) fx h 1 rfl c128 (vinK (by decide)) rfl dX4_copy_100 ?_
            refine lv_iload hx hb dX4_copy_101 (lv_at hl 4 rfl) ?_
            refine lv_iload hx hb dX4_copy_103 (lv_at hl 5 rfl) ?_
            obtain ⟨r161, k161, hg, hf⟩ := bR_inv hf
            refine q_ci (rest := []) (ws' := (wX4_copy cI cJ cZ cS a_t a_party a_kept a_tape a_telephone a_sheets a_sheets0 a_sheets0_numbers a_sheets1 a_sheets1_numbers a_sheets2 a_sheets2_numbers a_sheets3 a_sheets3_numbers a_findings v_isKept v_sheets0_bits v_sheets0_size v_sheets0_numbers v_sheets1_bits v_sheets1_size v_sheets1_numbers v_sheets2_bits v_sheets2_size v_sheets2_numbers v_sheets3_bits v_sheets3_size v_sheets3_numbers v_findings)) (w1 := (wX1_hasRun cI cJ cZ cS a_sheets3 a_sheets3_numbers v_sheets3_bits v_sheets3_size)) fx h [8] rfl rfl rfl rfl (q_runV fx h hl.1 [8] rfl rfl (tX1_hasRun l D cI cJ cZ cS tb a_sheets3 a_sheets3_numbers H.size v_sheets3_bits v_sheets3_size x4 x5 r161 k161 hg) mvX1_hasRun k_566 ⟨rfl, rfl⟩ ⟨Nat.le_of_ble_eq_true rfl, Nat.le_of_ble_eq_true rfl⟩ rfl rfl rfl rfl (Nat.le_of_ble_eq_true rfl) dX4_copy_105 ⟨Nat.le_of_ble_eq_true rfl, Nat.le_of_ble_eq_true rfl⟩) (fun H locs h => ?_)
            refine lv_if_ne (tgt := 118) hx hb dX4_copy_108 (by decide) (fun c162 => ?_) (fun c162 => ?_)
            · have hf := it_f c162 hf
              refine lv_aload_n hx hb dX4_copy_118 rfl (lv_at hl 0 rfl) ?_
              refine q_get (v := .ref a_sheets) fx inX4 h 0 rfl rfl 5 (by decide) k_179 rfl dX4_copy_119 ?_
              refine lv_iload_n hx hb dX4_copy_122 rfl (lv_at hl 1 rfl) ?_
              refine q_aald (v := a_sheets3) fx h 1 rfl c8 (vinK (by decide)) rfl dX4_copy_123 ?_
              refine q_getN (v := .ref a_sheets3_numbers) fx inX1 h 8 rfl rfl 2 (by decide) nf_11 rfl dX4_copy_124 ?_
              refine lv_iload_n hx hb dX4_copy_127 rfl (lv_at hl 2 rfl) ?_
              refine lv_aload_n hx hb dX4_copy_128 rfl (lv_at hl 0 rfl) ?_
              refine q_get (v := .ref a_sheets) fx inX4 h 0 rfl rfl 5 (by decide) k_179 rfl dX4_copy_129 ?_
              refine lv_iload_n hx hb dX4_copy_132 rfl (lv_at hl 3 rfl) ?_
              refine q_aald (v := a_sheets3) fx h 1 rfl c128 (vinK (by decide)) rfl dX4_copy_133 ?_
              refine q_getN (v := .ref a_sheets3_numbers) fx inX1 h 8 rfl rfl 2 (by decide) nf_11 rfl dX4_copy_134 ?_
              refine lv_iload hx hb dX4_copy_137 (lv_at hl 4 rfl) ?_
              refine lv_iload hx hb dX4_copy_139 (lv_at hl 5 rfl) ?_
              obtain ⟨i163, hf⟩ := gCp_inv hf
              refine q_copyl (ws' := (wX4_copy cI cJ cZ cS a_t a_party a_kept a_tape a_telephone a_sheets a_sheets0 a_sheets0_numbers a_sheets1 a_sheets1_numbers a_sheets2 a_sheets2_numbers a_sheets3 a_sheets3_numbers a_findings v_isKept v_sheets0_bits v_sheets0_size v_sheets0_numbers v_sheets1_bits v_sheets1_size v_sheets1_numbers v_sheets2_bits v_sheets2_size v_sheets2_numbers v_sheets3_bits v_sheets3_size (va_cpy v_sheets3_numbers v_sheets3_numbers x2.toNatClampNeg x4.toNatClampNeg x5.toNatClampNeg) v_findings)) fx h hl.1 9 9 rfl rfl k_570 k_572 k_571 k_58 i163 (Nat.le_of_ble_eq_true rfl) (Nat.le_of_ble_eq_true rfl) rfl dX4_copy_141 (fun H locs h => ?_)
              refine lv_iload hx hb dX4_copy_144 (lv_at hl 5 rfl) ?_
              exact q_reti (fun k : (Nat → Int64) × (Nat → Int64) × (Nat → Int64) × (Nat → Int64) × (Nat → Int32) => (wX4_copy cI cJ cZ cS a_t a_party a_kept a_tape a_telephone a_sheets a_sheets0 a_sheets0_numbers a_sheets1 a_sheets1_numbers a_sheets2 a_sheets2_numbers a_sheets3 a_sheets3_numbers a_findings v_isKept v_sheets0_bits v_sheets0_size k.1 v_sheets1_bits v_sheets1_size k.2.1 v_sheets2_bits v_sheets2_size k.2.2.1 v_sheets3_bits v_sheets3_size k.2.2.2.1 k.2.2.2.2)) fx hf h dX4_copy_146
            have hf := it_t c162 hf
            exact LX4_copy_111 fx h (lv_sub hl [0] rfl) hf
          have hf := it_f c158 hf
          refine lv_aload_n hx hb dX4_copy_73 rfl (lv_at hl 0 rfl) ?_
          refine q_ldc fx k_269 dX4_copy_74 ?_
          obtain ⟨r164, k164, hg, hf⟩ := bR_inv hf
          refine q_ci (rest := []) (ws' := (wX4_copy cI cJ cZ cS a_t a_party a_kept a_tape a_telephone a_sheets a_sheets0 a_sheets0_numbers a_sheets1 a_sheets1_numbers a_sheets2 a_sheets2_numbers a_sheets3 a_sheets3_numbers a_findings v_isKept v_sheets0_bits v_sheets0_size v_sheets0_numbers v_sheets1_bits v_sheets1_size v_sheets1_numbers v_sheets2_bits v_sheets2_size v_sheets2_numbers v_sheets3_bits v_sheets3_size v_sheets3_numbers k164)) (w1 := (wX4_found cI cJ cZ cS a_t a_party a_kept a_tape a_telephone a_sheets a_findings v_isKept k164)) fx h [0, 10] rfl rfl rfl rfl (q_runV fx h hl.1 [0, 10] rfl rfl (tX4_found l D cI cJ cZ cS tb a_t a_party a_kept a_tape a_telephone a_sheets a_findings H.size v_isKept v_findings (-1000000003) r164 k164 hg) mvX4_found k_207 ⟨rfl, rfl⟩ ⟨Nat.le_of_ble_eq_true rfl, Nat.le_of_ble_eq_true rfl⟩ rfl rfl rfl rfl (Nat.le_of_ble_eq_true rfl) dX4_copy_76 ⟨Nat.le_of_ble_eq_true rfl, Nat.le_of_ble_eq_true rfl⟩) (fun H locs h => ?_)
          exact q_reti (fun k : (Nat → Int64) × (Nat → Int64) × (Nat → Int64) × (Nat → Int64) × (Nat → Int32) => (wX4_copy cI cJ cZ cS a_t a_party a_kept a_tape a_telephone a_sheets a_sheets0 a_sheets0_numbers a_sheets1 a_sheets1_numbers a_sheets2 a_sheets2_numbers a_sheets3 a_sheets3_numbers a_findings v_isKept v_sheets0_bits v_sheets0_size k.1 v_sheets1_bits v_sheets1_size k.2.1 v_sheets2_bits v_sheets2_size k.2.2.1 v_sheets3_bits v_sheets3_size k.2.2.2.1 k.2.2.2.2)) fx hf h dX4_copy_79
        have hf := it_f c157 hf
        exact LX4_copy_45 fx h (lv_sub hl [0] rfl) hf
  have hf := it_t c7 hf
  exact LX4_copy_14 fx h (lv_sub hl [0] rfl) hf
