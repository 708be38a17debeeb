/-! X4_against -/
abbrev wX4_against (cI cJ cZ cS : ClassId) (a_t a_party a_party_kinds a_party_costs a_party_terms a_party_known a_kept a_tape a_telephone a_sheets a_findings : Nat) (v_isKept : Int32) (v_party_size : Int32) (v_party_list : Int32) (v_party_told : Int32) (v_party_kinds : Nat → Int32) (v_party_terms : Nat → Int64) (v_party_known : Nat → Int32) (v_findings : Nat → Int32) : va_W := [(a_t, .inr (4, [.ref a_party, .ref a_kept, .int v_isKept, .ref a_tape, .ref a_telephone, .ref a_sheets, .ref a_findings])), (a_party, .inr (0, [.int v_party_size, .int v_party_list, .int v_party_told, .ref a_party_kinds, .ref a_party_costs, .ref a_party_terms, .ref a_party_known])), (a_party_kinds, .inl (cI, 8, .inl v_party_kinds)), (a_party_terms, .inl (cJ, 32, .inr (.inl v_party_terms))), (a_party_known, .inl (cI, 256, .inl v_party_known)), (a_findings, .inl (cI, 7, .inl v_findings))]
abbrev rX4_against : Room := { frames := 5, cells := 0, slots := 0, locals := 111 }
def fX4_against_142 (v_party_size : Int32) (v_party_kinds : Nat → Int32) (v_party_terms : Nat → Int64) (v_party_known : Nat → Int32) (v_findings : Nat → Int32) (s0 : Int32) : Option (Int32 × (Nat → Int32) × (Nat → Int32)) :=
  bR (fX4_oneIf s0) (fun r1 k1 =>
  some (r1, (v_party_known, v_findings)))
set_option maxRecDepth 100000 in
set_option maxHeartbeats 4000000 in
theorem LX4_against_142 {p : Program} {l : Launch} {e : Env} {s : State} {m : MethodId} {args : Array Value} {below : List Frame} {meth : Method} {c : Code} {D : va_G} {cI cJ cZ cS : ClassId} {tb : Nat} {A : Nat → Prop} {a_t a_party a_party_kinds a_party_costs a_party_terms a_party_known a_kept a_tape a_telephone a_sheets a_findings : Nat} {v_isKept : Int32} {v_party_size : Int32} {v_party_list : Int32} {v_party_told : Int32} {v_party_kinds : Nat → Int32} {v_party_terms : Nat → Int64} {rr : Int32} {kk' : (Nat → Int32) × (Nat → Int32)} (fx : q_Fx p s m args meth c cX4_against 9 RX4 (some .int) D cI cJ cZ cS tb A) : ∀ {v_party_known : Nat → Int32} {v_findings : Nat → Int32} {s0 : Int32} {H : Heap} {locs : List Loc} {ls : Array Slot}, q_H D A s (wX4_against cI cJ cZ cS a_t a_party a_party_kinds a_party_costs a_party_terms a_party_known a_kept a_tape a_telephone a_sheets a_findings v_isKept v_party_size v_party_list v_party_told v_party_kinds v_party_terms v_party_known v_findings) H locs → lv_has ls 9 [] → fX4_against_142 v_party_size v_party_kinds v_party_terms v_party_known v_findings s0 = some (rr, kk') → W p l e rX4_against s m args below meth c H locs 0 0 (MQ below (q_Ri D rr A ((fun k : (Nat → Int32) × (Nat → Int32) => (wX4_against cI cJ cZ cS a_t a_party a_party_kinds a_party_costs a_party_terms a_party_known a_kept a_tape a_telephone a_sheets a_findings v_isKept v_party_size v_party_list v_party_told v_party_kinds v_party_terms k.1 k.2)) kk')) args s 0 0 A) (F0 m 142 ls [.int s0]) := by
  intro v_party_known v_findings s0 H locs ls h hl hf
  have hx := fx.1
  have hb := fx.2.1
  unfold fX4_against_142 at hf
  obtain ⟨r1, k1, hg, hf⟩ := bR_inv hf
  refine q_ci (rest := []) (ws' := (wX4_against cI cJ cZ cS a_t a_party a_party_kinds a_party_costs a_party_terms a_party_known a_kept a_tape a_telephone a_sheets a_findings v_isKept v_party_size v_party_list v_party_told v_party_kinds v_party_terms v_party_known v_findings)) (w1 := (wX4_oneIf cI cJ cZ cS)) fx h [] rfl rfl rfl rfl (q_runS fx h hl.1 [] rfl rfl (tX4_oneIf l D cI cJ cZ cS tb H.size s0 r1 k1 hg) msX4_oneIf k_246 ⟨rfl, rfl⟩ ⟨Nat.le_of_ble_eq_true rfl, Nat.le_of_ble_eq_true rfl⟩ rfl rfl (Nat.le_of_ble_eq_true rfl) dX4_against_142 ⟨Nat.le_of_ble_eq_true rfl, Nat.le_of_ble_eq_true rfl⟩) (fun H locs h => ?_)
  exact q_reti (fun k : (Nat → Int32) × (Nat → Int32) => (wX4_against cI cJ cZ cS a_t a_party a_party_kinds a_party_costs a_party_terms a_party_known a_kept a_tape a_telephone a_sheets a_findings v_isKept v_party_size v_party_list v_party_told v_party_kinds v_party_terms k.1 k.2)) fx hf h dX4_against_145
def fX4_against_141 (v_party_size : Int32) (v_party_kinds : Nat → Int32) (v_party_terms : Nat → Int64) (v_party_known : Nat → Int32) (v_findings : Nat → Int32) : Option (Int32 × (Nat → Int32) × (Nat → Int32)) :=
  fX4_against_142 v_party_size v_party_kinds v_party_terms v_party_known v_findings 0
set_option maxRecDepth 100000 in
set_option maxHeartbeats 4000000 in
theorem LX4_against_141 {p : Program} {l : Launch} {e : Env} {s : State} {m : MethodId} {args : Array Value} {below : List Frame} {meth : Method} {c : Code} {D : va_G} {cI cJ cZ cS : ClassId} {tb : Nat} {A : Nat → Prop} {a_t a_party a_party_kinds a_party_costs a_party_terms a_party_known a_kept a_tape a_telephone a_sheets a_findings : Nat} {v_isKept : Int32} {v_party_size : Int32} {v_party_list : Int32} {v_party_told : Int32} {v_party_kinds : Nat → Int32} {v_party_terms : Nat → Int64} {rr : Int32} {kk' : (Nat → Int32) × (Nat → Int32)} (fx : q_Fx p s m args meth c cX4_against 9 RX4 (some .int) D cI cJ cZ cS tb A) : ∀ {v_party_known : Nat → Int32} {v_findings : Nat → Int32} {H : Heap} {locs : List Loc} {ls : Array Slot}, q_H D A s (wX4_against cI cJ cZ cS a_t a_party a_party_kinds a_party_costs a_party_terms a_party_known a_kept a_tape a_telephone a_sheets a_findings v_isKept v_party_size v_party_list v_party_told v_party_kinds v_party_terms v_party_known v_findings) H locs → lv_has ls 9 [] → fX4_against_141 v_party_size v_party_kinds v_party_terms v_party_known v_findings = some (rr, kk') → W p l e rX4_against s m args below meth c H locs 0 0 (MQ below (q_Ri D rr A ((fun k : (Nat → Int32) × (Nat → Int32) => (wX4_against cI cJ cZ cS a_t a_party a_party_kinds a_party_costs a_party_terms a_party_known a_kept a_tape a_telephone a_sheets a_findings v_isKept v_party_size v_party_list v_party_told v_party_kinds v_party_terms k.1 k.2)) kk')) args s 0 0 A) (F0 m 141 ls []) := by
  intro v_party_known v_findings H locs ls h hl hf
  have hx := fx.1
  have hb := fx.2.1
  unfold fX4_against_141 at hf
  refine lv_iconst (v := 0) hx hb dX4_against_141 (by decide) ?_
  exact LX4_against_142 fx h (lv_sub hl [] rfl) hf
def fX4_against_117 (v_party_size : Int32) (v_party_kinds : Nat → Int32) (v_party_terms : Nat → Int64) (ag45 : (Nat → Int32) → (Nat → Int32) → Int32 → Int32 → Int32 → Int32 → Int32 → Int32 → Option (Int32 × (Nat → Int32) × (Nat → Int32))) (v_party_known : Nat → Int32) (v_findings : Nat → Int32) (y1 : Int32) (y2 : Int32) (y3 : Int32) (y4 : Int32) (y5 : Int32) (y6 : Int32) : Option (Int32 × (Nat → Int32) × (Nat → Int32)) :=
  nm (y6 + 1) (fun u2 =>
  ag45 v_party_known v_findings y1 y2 y3 y4 y5 u2)
set_option maxRecDepth 100000 in
set_option maxHeartbeats 4000000 in
theorem LX4_against_117 {p : Program} {l : Launch} {e : Env} {s : State} {m : MethodId} {args : Array Value} {below : List Frame} {meth : Method} {c : Code} {D : va_G} {cI cJ cZ cS : ClassId} {tb : Nat} {A : Nat → Prop} {a_t a_party a_party_kinds a_party_costs a_party_terms a_party_known a_kept a_tape a_telephone a_sheets a_findings : Nat} {v_isKept : Int32} {v_party_size : Int32} {v_party_list : Int32} {v_party_told : Int32} {v_party_kinds : Nat → Int32} {v_party_terms : Nat → Int64} {rr : Int32} {kk' : (Nat → Int32) × (Nat → Int32)} (fx : q_Fx p s m args meth c cX4_against 9 RX4 (some .int) D cI cJ cZ cS tb A) {ag45 : (Nat → Int32) → (Nat → Int32) → Int32 → Int32 → Int32 → Int32 → Int32 → Int32 → Option (Int32 × (Nat → Int32) × (Nat → Int32))} (hag45 : ∀ {v_party_known : Nat → Int32} {v_findings : Nat → Int32} {y1 : Int32} {y2 : Int32} {y3 : Int32} {y4 : Int32} {y5 : Int32} {y6 : Int32} {H : Heap} {locs : List Loc} {ls : Array Slot}, q_H D A s (wX4_against cI cJ cZ cS a_t a_party a_party_kinds a_party_costs a_party_terms a_party_known a_kept a_tape a_telephone a_sheets a_findings v_isKept v_party_size v_party_list v_party_told v_party_kinds v_party_terms v_party_known v_findings) H locs → lv_has ls 9 [(0, .ref a_t), (1, .int y1), (2, .int y2), (3, .int y3), (4, .int y4), (5, .int y5), (6, .int y6)] → ag45 v_party_known v_findings y1 y2 y3 y4 y5 y6 = some (rr, kk') → W p l e rX4_against s m args below meth c H locs 0 0 (MQ below (q_Ri D rr A ((fun k : (Nat → Int32) × (Nat → Int32) => (wX4_against cI cJ cZ cS a_t a_party a_party_kinds a_party_costs a_party_terms a_party_known a_kept a_tape a_telephone a_sheets a_findings v_isKept v_party_size v_party_list v_party_told v_party_kinds v_party_terms k.1 k.2)) kk')) args s 0 0 A) (F0 m 45 ls [])) : ∀ {v_party_known : Nat → Int32} {v_findings : Nat → Int32} {y1 : Int32} {y2 : Int32} {y3 : Int32} {y4 : Int32} {y5 : Int32} {y6 : Int32} {H : Heap} {locs : List Loc} {ls : Array Slot}, q_H D A s (wX4_against cI cJ cZ cS a_t a_party a_party_kinds a_party_costs a_party_terms a_party_known a_kept a_tape a_telephone a_sheets a_findings v_isKept v_party_size v_party_list v_party_told v_party_kinds v_party_terms v_party_known v_findings) H locs → lv_has ls 9 [(0, .ref a_t), (1, .int y1), (2, .int y2), (3, .int y3), (4, .int y4), (5, .int y5), (6, .int y6)] → fX4_against_117 v_party_size v_party_kinds v_party_terms ag45 v_party_known v_findings y1 y2 y3 y4 y5 y6 = some (rr, kk') → W p l e rX4_against s m args below meth c H locs 0 0 (MQ below (q_Ri D rr A ((fun k : (Nat → Int32) × (Nat → Int32) => (wX4_against cI cJ cZ cS a_t a_party a_party_kinds a_party_costs a_party_terms a_party_known a_kept a_tape a_telephone a_sheets a_findings v_isKept v_party_size v_party_list v_party_told v_party_kinds v_party_terms k.1 k.2)) kk')) args s 0 0 A) (F0 m 117 ls []) := by
  intro v_party_known v_findings y1 y2 y3 y4 y5 y6 H locs ls h hl hf
  have hx := fx.1
  have hb := fx.2.1
  unfold fX4_against_117 at hf
  obtain ⟨u2, eu2, hf⟩ := nm_inv hf
  refine lv_iinc (v := u2) (lv' := [(6, .int u2), (0, .ref a_t), (1, .int y1), (2, .int y2), (3, .int y3), (4, .int y4), (5, .int y5)]) hx hb dX4_against_117 hl (k := 6) rfl (by rw [eu2]; rfl) (by decide) rfl (fun ls hl => ?_)
  refine lv_goto (tgt := 45) hx hb dX4_against_120 (by decide) ?_
  exact hag45 h (lv_sub hl [1, 2, 3, 4, 5, 6, 0] rfl) hf
def fX4_against_114 (v_party_size : Int32) (v_party_kinds : Nat → Int32) (v_party_terms : Nat → Int64) (ag45 : (Nat → Int32) → (Nat → Int32) → Int32 → Int32 → Int32 → Int32 → Int32 → Int32 → Option (Int32 × (Nat → Int32) × (Nat → Int32))) (v_party_known : Nat → Int32) (v_findings : Nat → Int32) (s0 : Int32) (s1 : Int32) (y1 : Int32) (y2 : Int32) (y3 : Int32) (y4 : Int32) (y6 : Int32) : Option (Int32 × (Nat → Int32) × (Nat → Int32)) :=
  nm (s0 ||| s1) (fun u3 =>
  fX4_against_117 v_party_size v_party_kinds v_party_terms ag45 v_party_known v_findings y1 y2 y3 y4 u3 y6)
set_option maxRecDepth 100000 in
set_option maxHeartbeats 4000000 in
theorem LX4_against_114 {p : Program} {l : Launch} {e : Env} {s : State} {m : MethodId} {args : Array Value} {below : List Frame} {meth : Method} {c : Code} {D : va_G} {cI cJ cZ cS : ClassId} {tb : Nat} {A : Nat → Prop} {a_t a_party a_party_kinds a_party_costs a_party_terms a_party_known a_kept a_tape a_telephone a_sheets a_findings : Nat} {v_isKept : Int32} {v_party_size : Int32} {v_party_list : Int32} {v_party_told : Int32} {v_party_kinds : Nat → Int32} {v_party_terms : Nat → Int64} {rr : Int32} {kk' : (Nat → Int32) × (Nat → Int32)} (fx : q_Fx p s m args meth c cX4_against 9 RX4 (some .int) D cI cJ cZ cS tb A) {ag45 : (Nat → Int32) → (Nat → Int32) → Int32 → Int32 → Int32 → Int32 → Int32 → Int32 → Option (Int32 × (Nat → Int32) × (Nat → Int32))} (hag45 : ∀ {v_party_known : Nat → Int32} {v_findings : Nat → Int32} {y1 : Int32} {y2 : Int32} {y3 : Int32} {y4 : Int32} {y5 : Int32} {y6 : Int32} {H : Heap} {locs : List Loc} {ls : Array Slot}, q_H D A s (wX4_against cI cJ cZ cS a_t a_party a_party_kinds a_party_costs a_party_terms a_party_known a_kept a_tape a_telephone a_sheets a_findings v_isKept v_party_size v_party_list v_party_told v_party_kinds v_party_terms v_party_known v_findings) H locs → lv_has ls 9 [(0, .ref a_t), (1, .int y1), (2, .int y2), (3, .int y3), (4, .int y4), (5, .int y5), (6, .int y6)] → ag45 v_party_known v_findings y1 y2 y3 y4 y5 y6 = some (rr, kk') → W p l e rX4_against s m args below meth c H locs 0 0 (MQ below (q_Ri D rr A ((fun k : (Nat → Int32) × (Nat → Int32) => (wX4_against cI cJ cZ cS a_t a_party a_party_kinds a_party_costs a_party_terms a_party_known a_kept a_tape a_telephone a_sheets a_findings v_isKept v_party_size v_party_list v_party_told v_party_kinds v_party_terms k.1 k.2)) kk')) args s 0 0 A) (F0 m 45 ls [])) : ∀ {v_party_known : Nat → Int32} {v_findings : Nat → Int32} {s0 : Int32} {s1 : Int32} {y1 : Int32} {y2 : Int32} {y3 : Int32} {y4 : Int32} {y6 : Int32} {H : Heap} {locs : List Loc} {ls : Array Slot}, q_H D A s (wX4_against cI cJ cZ cS a_t a_party a_party_kinds a_party_costs a_party_terms a_party_known a_kept a_tape a_telephone a_sheets a_findings v_isKept v_party_size v_party_list v_party_told v_party_kinds v_party_terms v_party_known v_findings) H locs → lv_has ls 9 [(0, .ref a_t), (1, .int y1), (2, .int y2), (3, .int y3), (4, .int y4), (6, .int y6)] → fX4_against_114 v_party_size v_party_kinds v_party_terms ag45 v_party_known v_findings s0 s1 y1 y2 y3 y4 y6 = some (rr, kk') → W p l e rX4_against s m args below meth c H locs 0 0 (MQ below (q_Ri D rr A ((fun k : (Nat → Int32) × (Nat → Int32) => (wX4_against cI cJ cZ cS a_t a_party a_party_kinds a_party_costs a_party_terms a_party_known a_kept a_tape a_telephone a_sheets a_findings v_isKept v_party_size v_party_list v_party_told v_party_kinds v_party_terms k.1 k.2)) kk')) args s 0 0 A) (F0 m 114 ls [.int s1, .int s0]) := by
  intro v_party_known v_findings s0 s1 y1 y2 y3 y4 y6 H locs ls h hl hf
  have hx := fx.1
  have hb := fx.2.1
  unfold fX4_against_114 at hf
  refine lv_ior hx hb dX4_against_114 ?_
  obtain ⟨u3, eu3, hf⟩ := nm_inv hf
  refine lv_eqi eu3 ?_
  refine lv_istore (lv' := [(5, .int u3), (0, .ref a_t), (1, .int y1), (2, .int y2), (3, .int y3), (4, .int y4), (6, .int y6)]) hx hb dX4_against_115 hl (by decide) rfl (fun ls hl => ?_)
  exact LX4_against_117 fx hag45 h (lv_sub hl [1, 2, 3, 4, 5, 0, 6] rfl) hf
def fX4_against_113 (v_party_size : Int32) (v_party_kinds : Nat → Int32) (v_party_terms : Nat → Int64) (ag45 : (Nat → Int32) → (Nat → Int32) → Int32 → Int32 → Int32 → Int32 → Int32 → Int32 → Option (Int32 × (Nat → Int32) × (Nat → Int32))) (v_party_known : Nat → Int32) (v_findings : Nat → Int32) (s0 : Int32) (y1 : Int32) (y2 : Int32) (y3 : Int32) (y4 : Int32) (y6 : Int32) : Option (Int32 × (Nat → Int32) × (Nat → Int32)) :=
  fX4_against_114 v_party_size v_party_kinds v_party_terms ag45 v_party_known v_findings s0 0 y1 y2 y3 y4 y6
set_option maxRecDepth 100000 in
set_option maxHeartbeats 4000000 in
theorem LX4_against_113 {p : Program} {l : Launch} {e : Env} {s : State} {m : MethodId} {args : Array Value} {below : List Frame} {meth : Method} {c : Code} {D : va_G} {cI cJ cZ cS : ClassId} {tb : Nat} {A : Nat → Prop} {a_t a_party a_party_kinds a_party_costs a_party_terms a_party_known a_kept a_tape a_telephone a_sheets a_findings : Nat} {v_isKept : Int32} {v_party_size : Int32} {v_party_list : Int32} {v_party_told : Int32} {v_party_kinds : Nat → Int32} {v_party_terms : Nat → Int64} {rr : Int32} {kk' : (Nat → Int32) × (Nat → Int32)} (fx : q_Fx p s m args meth c cX4_against 9 RX4 (some .int) D cI cJ cZ cS tb A) {ag45 : (Nat → Int32) → (Nat → Int32) → Int32 → Int32 → Int32 → Int32 → Int32 → Int32 → Option (Int32 × (Nat → Int32) × (Nat → Int32))} (hag45 : ∀ {v_party_known : Nat → Int32} {v_findings : Nat → Int32} {y1 : Int32} {y2 : Int32} {y3 : Int32} {y4 : Int32} {y5 : Int32} {y6 : Int32} {H : Heap} {locs : List Loc} {ls : Array Slot}, q_H D A s (wX4_against cI cJ cZ cS a_t a_party a_party_kinds a_party_costs a_party_terms a_party_known a_kept a_tape a_telephone a_sheets a_findings v_isKept v_party_size v_party_list v_party_told v_party_kinds v_party_terms v_party_known v_findings) H locs → lv_has ls 9 [(0, .ref a_t), (1, .int y1), (2, .int y2), (3, .int y3), (4, .int y4), (5, .int y5), (6, .int y6)] → ag45 v_party_known v_findings y1 y2 y3 y4 y5 y6 = some (rr, kk') → W p l e rX4_against s m args below meth c H locs 0 0 (MQ below (q_Ri D rr A ((fun k : (Nat → Int32) × (Nat → Int32) => (wX4_against cI cJ cZ cS a_t a_party a_party_kinds a_party_costs a_party_terms a_party_known a_kept a_tape a_telephone a_sheets a_findings v_isKept v_party_size v_party_list v_party_told v_party_kinds v_party_terms k.1 k.2)) kk')) args s 0 0 A) (F0 m 45 ls [])) : ∀ {v_party_known : Nat → Int32} {v_findings : Nat → Int32} {s0 : Int32} {y1 : Int32} {y2 : Int32} {y3 : Int32} {y4 : Int32} {y6 : Int32} {H : Heap} {locs : List Loc} {ls : Array Slot}, q_H D A s (wX4_against cI cJ cZ cS a_t a_party a_party_kinds a_party_costs a_party_terms a_party_known a_kept a_tape a_telephone a_sheets a_findings v_isKept v_party_size v_party_list v_party_told v_party_kinds v_party_terms v_party_known v_findings) H locs → lv_has ls 9 [(0, .ref a_t), (1, .int y1), (2, .int y2), (3, .int y3), (4, .int y4), (6, .int y6)] → fX4_against_113 v_party_size v_party_kinds v_party_terms ag45 v_party_known v_findings s0 y1 y2 y3 y4 y6 = some (rr, kk') → W p l e rX4_against s m args below meth c H locs 0 0 (MQ below (q_Ri D rr A ((fun k : (Nat → Int32) × (Nat → Int32) => (wX4_against cI cJ cZ cS a_t a_party a_party_kinds a_party_costs a_party_terms a_party_known a_kept a_tape a_telephone a_sheets a_findings v_isKept v_party_size v_party_list v_party_told v_party_kinds v_party_terms k.1 k.2)) kk')) args s 0 0 A) (F0 m 113 ls [.int s0]) := by
  intro v_party_known v_findings s0 y1 y2 y3 y4 y6 H locs ls h hl hf
  have hx := fx.1
  have hb := fx.2.1
  unfold fX4_against_113 at hf
  refine lv_iconst (v := 0) hx hb dX4_against_113 (by decide) ?_
  exact LX4_against_114 fx hag45 h (lv_sub hl [0, 1, 2, 3, 4, 5] rfl) hf
def fX4_against_45 (v_party_size : Int32) (v_party_kinds : Nat → Int32) (v_party_terms : Nat → Int64) (ag45 : (Nat → Int32) → (Nat → Int32) → Int32 → Int32 → Int32 → Int32 → Int32 → Int32 → Option (Int32 × (Nat → Int32) × (Nat → Int32))) (v_party_known : Nat → Int32) (v_findings : Nat → Int32) (y1 : Int32) (y2 : Int32) (y3 : Int32) (y4 : Int32) (y5 : Int32) (y6 : Int32) : Option (Int32 × (Nat → Int32) × (Nat → Int32)) :=
  bR (fX0_lists v_party_size) (fun r4 k4 =>
  (if r4 ≤ y6 then (
  (if y3 = 0 then (
  fX4_against_141 v_party_size v_party_kinds v_party_terms v_party_known v_findings)
  else (
  (if y4 = 0 then (
  fX4_against_141 v_party_size v_party_kinds v_party_terms v_party_known v_findings)
  else (
  (if y5 = 0 then (
  fX4_against_142 v_party_size v_party_kinds v_party_terms v_party_known v_findings 1)
  else (
  fX4_against_141 v_party_size v_party_kinds v_party_terms v_party_known v_findings)))))))
  else (
  bR (fX0_isSettled v_party_size v_party_kinds v_party_terms v_party_known y6) (fun r9 k9 =>
  (if r9 = 0 then (
  fX4_against_117 v_party_size v_party_kinds v_party_terms ag45 k9 v_findings y1 y2 y3 y4 y5 y6)
  else (
  bR (fX4_isOn y1 y6) (fun r11 k11 =>
  bR (fX4_isOn y2 y6) (fun r12 k12 =>
  nm (y3 ||| r11) (fun u13 =>
  nm (y4 ||| r12) (fun u14 =>
  (if r11 = 0 then (
  fX4_against_113 v_party_size v_party_kinds v_party_terms ag45 k9 v_findings y5 y1 y2 u13 u14 y6)
  else (
  (if r12 = 0 then (
  fX4_against_113 v_party_size v_party_kinds v_party_terms ag45 k9 v_findings y5 y1 y2 u13 u14 y6)
  else (
  fX4_against_114 v_party_size v_party_kinds v_party_terms ag45 k9 v_findings y5 1 y1 y2 u13 u14 y6))))))))))))))
set_option maxRecDepth 100000 in
set_option maxHeartbeats 4000000 in
theorem LX4_against_45 {p : Program} {l : Launch} {e : Env} {s : State} {m : MethodId} {args : Array Value} {below : List Frame} {meth : Method} {c : Code} {D : va_G} {cI cJ cZ cS : ClassId} {tb : Nat} {A : Nat → Prop} {a_t a_party a_party_kinds a_party_costs a_party_terms a_party_known a_kept a_tape a_telephone a_sheets a_findings : Nat} {v_isKept : Int32} {v_party_size : Int32} {v_party_list : Int32} {v_party_told : Int32} {v_party_kinds : Nat → Int32} {v_party_terms : Nat → Int64} {rr : Int32} {kk' : (Nat → Int32) × (Nat → Int32)} (fx : q_Fx p s m args meth c cX4_against 9 RX4 (some .int) D cI cJ cZ cS tb A) {ag45 : (Nat → Int32) → (Nat → Int32) → Int32 → Int32 → Int32 → Int32 → Int32 → Int32 → Option (Int32 × (Nat → Int32) × (Nat → Int32))} (hag45 : ∀ {v_party_known : Nat → Int32} {v_findings : Nat → Int32} {y1 : Int32} {y2 : Int32} {y3 : Int32} {y4 : Int32} {y5 : Int32} {y6 : Int32} {H : Heap} {locs : List Loc} {ls : Array Slot}, q_H D A s (wX4_against cI cJ cZ cS a_t a_party a_party_kinds a_party_costs a_party_terms a_party_known a_kept a_tape a_telephone a_sheets a_findings v_isKept v_party_size v_party_list v_party_told v_party_kinds v_party_terms v_party_known v_findings) H locs → lv_has ls 9 [(0, .ref a_t), (1, .int y1), (2, .int y2), (3, .int y3), (4, .int y4), (5, .int y5), (6, .int y6)] → ag45 v_party_known v_findings y1 y2 y3 y4 y5 y6 = some (rr, kk') → W p l e rX4_against s m args below meth c H locs 0 0 (MQ below (q_Ri D rr A ((fun k : (Nat → Int32) × (Nat → Int32) => (wX4_against cI cJ cZ cS a_t a_party a_party_kinds a_party_costs a_party_terms a_party_known a_kept a_tape a_telephone a_sheets a_findings v_isKept v_party_size v_party_list v_party_told v_party_kinds v_party_terms k.1 k.2)) kk')) args s 0 0 A) (F0 m 45 ls [])) : ∀ {v_party_known : Nat → Int32} {v_findings : Nat → Int32} {y1 : Int32} {y2 : Int32} {y3 : Int32} {y4 : Int32} {y5 : Int32} {y6 : Int32} {H : Heap} {locs : List Loc} {ls : Array Slot}, q_H D A s (wX4_against cI cJ cZ cS a_t a_party a_party_kinds a_party_costs a_party_terms a_party_known a_kept a_tape a_telephone a_sheets a_findings v_isKept v_party_size v_party_list v_party_told v_party_kinds v_party_terms v_party_known v_findings) H locs → lv_has ls 9 [(0, .ref a_t), (1, .int y1), (2, .int y2), (3, .int y3), (4, .int y4), (5, .int y5), (6, .int y6)] → fX4_against_45 v_party_size v_party_kinds v_party_terms ag45 v_party_known v_findings y1 y2 y3 y4 y5 y6 = some (rr, kk') → W p l e rX4_against s m args below meth c H locs 0 0 (MQ below (q_Ri D rr A ((fun k : (Nat → Int32) × (Nat → Int32) => (wX4_against cI cJ cZ cS a_t a_party a_party_kinds a_party_costs a_party_terms a_party_known a_kept a_tape a_telephone a_sheets a_findings v_isKept v_party_size v_party_list v_party_told v_party_kinds v_party_terms k.1 k.2)) kk')) args s 0 0 A) (F0 m 45 ls []) := by
  intro v_party_known v_findings y1 y2 y3 y4 y5 y6 H locs ls h hl hf
  have hx := fx.1
  have hb := fx.2.1
  unfold fX4_against_45 at hf
  refine lv_iload hx hb dX4_against_45 (lv_at hl 6 rfl) ?_
  refine lv_aload_n hx hb dX4_against_47 rfl (lv_at hl 0 rfl) ?_
  refine q_get (v := .ref a_party) fx inX4 h 0 rfl rfl 0 (by decide) k_174 rfl dX4_against_48 ?_
  obtain ⟨r4, k4, hg, hf⟩ := bR_inv hf
  refine q_ci (rest := [.int y6]) (ws' := (wX4_against cI cJ cZ cS a_t a_party a_party_kinds a_party_costs a_party_terms a_party_known a_kept a_tape a_telephone a_sheets a_findings v_isKept v_party_size v_party_list v_party_told v_party_kinds v_party_terms v_party_known v_findings)) (w1 := (wX0_lists cI cJ cZ cS a_party a_party_kinds a_party_costs a_party_terms a_party_known v_party_size v_party_list v_party_told)) fx h [1] rfl rfl rfl rfl (q_runV fx h hl.1 [1] rfl rfl (tX0_lists l D cI cJ cZ cS tb a_party a_party_kinds a_party_costs a_party_terms a_party_known H.size v_party_size v_party_list v_party_told r4 k4 hg) mvX0_lists k_447 ⟨rfl, rfl⟩ ⟨Nat.le_of_ble_eq_true rfl, Nat.le_of_ble_eq_true rfl⟩ rfl rfl rfl rfl (Nat.le_of_ble_eq_true rfl) dX4_against_51 ⟨Nat.le_of_ble_eq_true rfl, Nat.le_of_ble_eq_true rfl⟩) (fun H locs h => ?_)
  refine lv_icmp_ge (tgt := 123) hx hb dX4_against_54 (by decide) (fun c5 => ?_) (fun c5 => ?_)
  · have hf := it_t c5 hf
    refine lv_iload_n hx hb dX4_against_123 rfl (lv_at hl 3 rfl) ?_
    refine lv_if_eq (tgt := 141) hx hb dX4_against_124 (by decide) (fun c6 => ?_) (fun c6 => ?_)
    · have hf := it_t c6 hf
      exact LX4_against_141 fx h (lv_sub hl [] rfl) hf
    have hf := it_f c6 hf
    refine lv_iload hx hb dX4_against_127 (lv_at hl 4 rfl) ?_
    refine lv_if_eq (tgt := 141) hx hb dX4_against_129 (by decide) (fun c7 => ?_) (fun c7 => ?_)
    · have hf := it_t c7 hf
      exact LX4_against_141 fx h (lv_sub hl [] rfl) hf
    have hf := it_f c7 hf
    refine lv_iload hx hb dX4_against_132 (lv_at hl 5 rfl) ?_
    refine lv_if_ne (tgt := 141) hx hb dX4_against_134 (by decide) (fun c8 => ?_) (fun c8 => ?_)
    · have hf := it_f c8 hf
      exact LX4_against_141 fx h (lv_sub hl [] rfl) hf
    have hf := it_t c8 hf
    refine lv_iconst (v := 1) hx hb dX4_against_137 (by decide) ?_
    refine lv_goto (tgt := 142) hx hb dX4_against_138 (by decide) ?_
    exact LX4_against_142 fx h (lv_sub hl [] rfl) hf
  have hf := it_f c5 hf
  refine lv_aload_n hx hb dX4_against_57 rfl (lv_at hl 0 rfl) ?_
  refine q_get (v := .ref a_party) fx inX4 h 0 rfl rfl 0 (by decide) k_174 rfl dX4_against_58 ?_
  refine lv_iload hx hb dX4_against_61 (lv_at hl 6 rfl) ?_
  obtain ⟨r9, k9, hg, hf⟩ := bR_inv hf
  refine q_ci (rest := []) (ws' := (wX4_against cI cJ cZ cS a_t a_party a_party_kinds a_party_costs a_party_terms a_party_known a_kept a_tape a_telephone a_sheets a_findings v_isKept v_party_size v_party_list v_party_told v_party_kinds v_party_terms k9 v_findings)) (w1 := (wX0_isSettled cI cJ cZ cS a_party a_party_kinds a_party_costs a_party_terms a_party_known v_party_size v_party_list v_party_told v_party_kinds v_party_terms k9)) fx h [1, 2, 3, 4] rfl rfl rfl rfl (q_runV fx h hl.1 [1, 2, 3, 4] rfl rfl (tX0_isSettled l D cI cJ cZ cS tb a_party a_party_kinds a_party_costs a_party_terms a_party_known H.size v_party_size v_party_list v_party_told v_party_kinds v_party_terms v_party_known y6 r9 k9 hg) mvX0_isSettled k_358 ⟨rfl, rfl⟩ ⟨Nat.le_of_ble_eq_true rfl, Nat.le_of_ble_eq_true rfl⟩ rfl rfl rfl rfl (Nat.le_of_ble_eq_true rfl) dX4_against_63 ⟨Nat.le_of_ble_eq_true rfl, Nat.le_of_ble_eq_true rfl⟩) (fun H locs h => ?_)
  refine lv_if_eq (tgt := 117) hx hb dX4_against_66 (by decide) (fun c10 => ?_) (fun c10 => ?_)
  · have hf := it_t c10 hf
    exact LX4_against_117 fx hag45 h (lv_sub hl [0, 1, 2, 3, 4, 5, 6] rfl) hf
  have hf := it_f c10 hf
  refine lv_iload_n hx hb dX4_against_69 rfl (lv_at hl 1 rfl) ?_
  refine lv_iload hx hb dX4_against_70 (lv_at hl 6 rfl) ?_
  obtain ⟨r11, k11, hg, hf⟩ := bR_inv hf
  refine q_ci (rest := []) (ws' := (wX4_against cI cJ cZ cS a_t a_party a_party_kinds a_party_costs a_party_terms a_party_known a_kept a_tape a_telephone a_sheets a_findings v_isKept v_party_size v_party_list v_party_told v_party_kinds v_party_terms k9 v_findings)) (w1 := (wX4_isOn cI cJ cZ cS)) fx h [] rfl rfl rfl rfl (q_runS fx h hl.1 [] rfl rfl (tX4_isOn l D cI cJ cZ cS tb H.size y1 y6 r11 k11 hg) msX4_isOn k_515 ⟨rfl, rfl⟩ ⟨Nat.le_of_ble_eq_true rfl, Nat.le_of_ble_eq_true rfl⟩ rfl rfl (Nat.le_of_ble_eq_true rfl) dX4_against_72 ⟨Nat.le_of_ble_eq_true rfl, Nat.le_of_ble_eq_true rfl⟩) (fun H locs h => ?_)
  refine lv_istore (lv' := [(7, .int r11), (0, .ref a_t), (1, .int y1), (2, .int y2), (3, .int y3), (4, .int y4), (5, .int y5), (6, .int y6)]) hx hb dX4_against_75 hl (by decide) rfl (fun ls hl => ?_)
  refine lv_iload_n hx hb dX4_against_77 rfl (lv_at hl 3 rfl) ?_
  refine lv_iload hx hb dX4_against_78 (lv_at hl 7 rfl) ?_
  obtain ⟨r12, k12, hg, hf⟩ := bR_inv hf
  refine q_ci (rest := []) (ws' := (wX4_against cI cJ cZ cS a_t a_party a_party_kinds a_party_costs a_party_terms a_party_known a_kept a_tape a_telephone a_sheets a_findings v_isKept v_party_size v_party_list v_party_told v_party_kinds v_party_terms k9 v_findings)) (w1 := (wX4_isOn cI cJ cZ cS)) fx h [] rfl rfl rfl rfl (q_runS fx h hl.1 [] rfl rfl (tX4_isOn l D cI cJ cZ cS tb H.size y2 y6 r12 k12 hg) msX4_isOn k_515 ⟨rfl, rfl⟩ ⟨Nat.le_of_ble_eq_true rfl, Nat.le_of_ble_eq_true rfl⟩ rfl rfl (Nat.le_of_ble_eq_true rfl) dX4_against_80 ⟨Nat.le_of_ble_eq_true rfl, Nat.le_of_ble_eq_true rfl⟩) (fun H locs h => ?_)
  refine lv_istore (lv' := [(8, .int r12), (7, .int r11), (0, .ref a_t), (1, .int y1), (2, .int y2), (3, .int y3), (4, .int y4), (5, .int y5), (6, .int y6)]) hx hb dX4_against_83 hl (by decide) rfl (fun ls hl => ?_)
  refine lv_iload_n hx hb dX4_against_85 rfl (lv_at hl 5 rfl) ?_
  refine lv_iload hx hb dX4_against_86 (lv_at hl 1 rfl) ?_
  refine lv_ior hx hb dX4_against_88 ?_
  obtain ⟨u13, eu13, hf⟩ := nm_inv hf
  refine lv_eqi eu13 ?_
  refine lv_istore_n (lv' := [(3, .int u13), (8, .int r12), (7, .int r11), (0, .ref a_t), (1, .int y1), (2, .int y2), (4, .int y4), (5, .int y5), (6, .int y6)]) hx hb dX4_against_89 rfl hl (by decide) rfl (fun ls hl => ?_)
  refine lv_iload hx hb dX4_against_90 (lv_at hl 6 rfl) ?_
  refine lv_iload hx hb dX4_against_92 (lv_at hl 1 rfl) ?_
  refine lv_ior hx hb dX4_against_94 ?_
  obtain ⟨u14, eu14, hf⟩ := nm_inv hf
  refine lv_eqi eu14 ?_
  refine lv_istore (lv' := [(4, .int u14), (3, .int u13), (8, .int r12), (7, .int r11), (0, .ref a_t), (1, .int y1), (2, .int y2), (5, .int y5), (6, .int y6)]) hx hb dX4_against_95 hl (by decide) rfl (fun ls hl => ?_)
  refine lv_iload hx hb dX4_against_97 (lv_at hl 7 rfl) ?_
  refine lv_iload hx hb dX4_against_99 (lv_at hl 3 rfl) ?_
  refine lv_if_eq (tgt := 113) hx hb dX4_against_101 (by decide) (fun c15 => ?_) (fun c15 => ?_)
  · have hf := it_t c15 hf
    exact LX4_against_113 fx hag45 h (lv_sub hl [4, 5, 6, 1, 0, 8] rfl) hf
  have hf := it_f c15 hf
  refine lv_iload hx hb dX4_against_104 (lv_at hl 2 rfl) ?_
  refine lv_if_eq (tgt := 113) hx hb dX4_against_106 (by decide) (fun c16 => ?_) (fun c16 => ?_)
  · have hf := it_t c16 hf
    exact LX4_against_113 fx hag45 h (lv_sub hl [4, 5, 6, 1, 0, 8] rfl) hf
  have hf := it_f c16 hf
  refine lv_iconst (v := 1) hx hb dX4_against_109 (by decide) ?_
  refine lv_goto (tgt := 114) hx hb dX4_against_110 (by decide) ?_
  exact LX4_against_114 fx hag45 h (lv_sub hl [4, 5, 6, 1, 0, 8] rfl) hf
set_option maxRecDepth 100000 in
theorem EX4_against_45 {p : Program} {l : Launch} {e : Env} {s : State} {m : MethodId} {args : Array Value} {below : List Frame} {meth : Method} {c : Code} {D : va_G} {cI cJ cZ cS : ClassId} {tb : Nat} {A : Nat → Prop} {a_t a_party a_party_kinds a_party_costs a_party_terms a_party_known a_kept a_tape a_telephone a_sheets a_findings : Nat} {v_isKept : Int32} {v_party_size : Int32} {v_party_list : Int32} {v_party_told : Int32} {v_party_kinds : Nat → Int32} {v_party_terms : Nat → Int64} {rr : Int32} {kk' : (Nat → Int32) × (Nat → Int32)} (fx : q_Fx p s m args meth c cX4_against 9 RX4 (some .int) D cI cJ cZ cS tb A) : ∀ (n : Nat), ∀ {v_party_known : Nat → Int32} {v_findings : Nat → Int32} {y1 : Int32} {y2 : Int32} {y3 : Int32} {y4 : Int32} {y5 : Int32} {y6 : Int32} {H : Heap} {locs : List Loc} {ls : Array Slot}, q_H D A s (wX4_against cI cJ cZ cS a_t a_party a_party_kinds a_party_costs a_party_terms a_party_known a_kept a_tape a_telephone a_sheets a_findings v_isKept v_party_size v_party_list v_party_told v_party_kinds v_party_terms v_party_known v_findings) H locs → lv_has ls 9 [(0, .ref a_t), (1, .int y1), (2, .int y2), (3, .int y3), (4, .int y4), (5, .int y5), (6, .int y6)] → ll8 (fX4_against_45 v_party_size v_party_kinds v_party_terms) n v_party_known v_findings y1 y2 y3 y4 y5 y6 = some (rr, kk') → W p l e rX4_against s m args below meth c H locs 0 0 (MQ below (q_Ri D rr A ((fun k : (Nat → Int32) × (Nat → Int32) => (wX4_against cI cJ cZ cS a_t a_party a_party_kinds a_party_costs a_party_terms a_party_known a_kept a_tape a_telephone a_sheets a_findings v_isKept v_party_size v_party_list v_party_told v_party_kinds v_party_terms k.1 k.2)) kk')) args s 0 0 A) (F0 m 45 ls []) := by
  intro n
  induction n with
  | zero => intro v_party_known v_findings y1 y2 y3 y4 y5 y6 H locs ls h hl hf; exact (ll8_z hf).elim
  | succ n ih => intro v_party_known v_findings y1 y2 y3 y4 y5 y6 H locs ls h hl hf; exact LX4_against_45 fx ih h hl (ll8_s hf)
def fX4_against_27 (v_party_size : Int32) (v_party_kinds : Nat → Int32) (v_party_terms : Nat → Int64) (v_party_known : Nat → Int32) (v_findings : Nat → Int32) : Option (Int32 × (Nat → Int32) × (Nat → Int32)) :=
  bR (fX4_found v_findings (-1000000001)) (fun r17 k17 =>
  some (r17, (v_party_known, k17)))
set_option maxRecDepth 100000 in
set_option maxHeartbeats 4000000 in
theorem LX4_against_27 {p : Program} {l : Launch} {e : Env} {s : State} {m : MethodId} {args : Array Value} {below : List Frame} {meth : Method} {c : Code} {D : va_G} {cI cJ cZ cS : ClassId} {tb : Nat} {A : Nat → Prop} {a_t a_party a_party_kinds a_party_costs a_party_terms a_party_known a_kept a_tape a_telephone a_sheets a_findings : Nat} {v_isKept : Int32} {v_party_size : Int32} {v_party_list : Int32} {v_party_told : Int32} {v_party_kinds : Nat → Int32} {v_party_terms : Nat → Int64} {rr : Int32} {kk' : (Nat → Int32) × (Nat → Int32)} (fx : q_Fx p s m args meth c cX4_against 9 RX4 (some .int) D cI cJ cZ cS tb A) : ∀ {v_party_known : Nat → Int32} {v_findings : Nat → Int32} {H : Heap} {locs : List Loc} {ls : Array Slot}, q_H D A s (wX4_against cI cJ cZ cS a_t a_party a_party_kinds a_party_costs a_party_terms a_party_known a_kept a_tape a_telephone a_sheets a_findings v_isKept v_party_size v_party_list v_party_told v_party_kinds v_party_terms v_party_known v_findings) H locs → lv_has ls 9 [(0, .ref a_t)] → fX4_against_27 v_party_size v_party_kinds v_party_terms v_party_known v_findings = some (rr, kk') → W p l e rX4_against s m args below meth c H locs 0 0 (MQ below (q_Ri D rr A ((fun k : (Nat → Int32) × (Nat → Int32) => (wX4_against cI cJ cZ cS a_t a_party a_party_kinds a_party_costs a_party_terms a_party_known a_kept a_tape a_telephone a_sheets a_findings v_isKept v_party_size v_party_list v_party_told v_party_kinds v_party_terms k.1 k.2)) kk')) args s 0 0 A) (F0 m 27 ls []) := by
  intro v_party_known v_findings H locs ls h hl hf
  have hx := fx.1
  have hb := fx.2.1
  unfold fX4_against_27 at hf
  refine lv_aload_n hx hb dX4_against_27 rfl (lv_at hl 0 rfl) ?_
  refine q_ldc fx k_206 dX4_against_28 ?_
  obtain ⟨r17, k17, hg, hf⟩ := bR_inv hf
  refine q_ci (rest := []) (ws' := (wX4_against cI cJ cZ cS a_t a_party a_party_kinds a_party_costs a_party_terms a_party_known a_kept a_tape a_telephone a_sheets a_findings v_isKept v_party_size v_party_list v_party_told v_party_kinds v_party_terms v_party_known k17)) (w1 := (wX4_found cI cJ cZ cS a_t a_party a_kept a_tape a_telephone a_sheets a_findings v_isKept k17)) fx h [0, 5] rfl rfl rfl rfl (q_runV fx h hl.1 [0, 5] rfl rfl (tX4_found l D cI cJ cZ cS tb a_t a_party a_kept a_tape a_telephone a_sheets a_findings H.size v_isKept v_findings (-1000000001) r17 k17 hg) mvX4_found k_207 ⟨rfl, rfl⟩ ⟨Nat.le_of_ble_eq_true rfl, Nat.le_of_ble_eq_true rfl⟩ rfl rfl rfl rfl (Nat.le_of_ble_eq_true rfl) dX4_against_30 ⟨Nat.le_of_ble_eq_true rfl, Nat.le_of_ble_eq_true rfl⟩) (fun H locs h => ?_)
  exact q_reti (fun k : (Nat → Int32) × (Nat → Int32) => (wX4_against cI cJ cZ cS a_t a_party a_party_kinds a_party_costs a_party_terms a_party_known a_kept a_tape a_telephone a_sheets a_findings v_isKept v_party_size v_party_list v_party_told v_party_kinds v_party_terms k.1 k.2)) fx hf h dX4_against_33
def fX4_against (v_party_size : Int32) (v_party_kinds : Nat → Int32) (v_party_terms : Nat → Int64) (v_party_known : Nat → Int32) (v_findings : Nat → Int32) (x1 : Int32) (x2 : Int32) : Option (Int32 × (Nat → Int32) × (Nat → Int32)) :=
  bR (fX0_has v_party_size x1) (fun r18 k18 =>
  (if r18 = 0 then (
  fX4_against_27 v_party_size v_party_kinds v_party_terms v_party_known v_findings)
  else (
  bR (fX0_has v_party_size x2) (fun r20 k20 =>
  (if r20 = 0 then (
  fX4_against_27 v_party_size v_party_kinds v_party_terms v_party_known v_findings)
  else (
  (if x1 = x2 then (
  fX4_against_27 v_party_size v_party_kinds v_party_terms v_party_known v_findings)
  else (
  ll8 (fX4_against_45 v_party_size v_party_kinds v_party_terms) qF v_party_known v_findings x1 x2 0 0 0 0))))))))
set_option maxRecDepth 100000 in
set_option maxHeartbeats 4000000 in
theorem tX4_against (l : Launch) (D : va_G) (cI cJ cZ cS : ClassId) (tb : Nat) (a_t a_party a_party_kinds a_party_costs a_party_terms a_party_known a_kept a_tape a_telephone a_sheets a_findings : Nat) (sz : Nat) (v_isKept : Int32) (v_party_size : Int32) (v_party_list : Int32) (v_party_told : Int32) (v_party_kinds : Nat → Int32) (v_party_terms : Nat → Int64) (v_party_known : Nat → Int32) (v_findings : Nat → Int32) (x1 : Int32) (x2 : Int32) (rr : Int32) (kk' : (Nat → Int32) × (Nat → Int32)) (hf : fX4_against v_party_size v_party_kinds v_party_terms v_party_known v_findings x1 x2 = some (rr, kk')) : Met l yX4_against (Cond.code yX4_against cX4_against 9 (some .int) :: wA) rX4_against (q_Pre D cI cJ cZ cS tb [.ref a_t, .int x1, .int x2] sz (wX4_against cI cJ cZ cS a_t a_party a_party_kinds a_party_costs a_party_terms a_party_known a_kept a_tape a_telephone a_sheets a_findings v_isKept v_party_size v_party_list v_party_told v_party_kinds v_party_terms v_party_known v_findings)) (q_Ri D rr (va_A (wX4_against cI cJ cZ cS a_t a_party a_party_kinds a_party_costs a_party_terms a_party_known a_kept a_tape a_telephone a_sheets a_findings v_isKept v_party_size v_party_list v_party_told v_party_kinds v_party_terms v_party_known v_findings) sz) ((fun k : (Nat → Int32) × (Nat → Int32) => (wX4_against cI cJ cZ cS a_t a_party a_party_kinds a_party_costs a_party_terms a_party_known a_kept a_tape a_telephone a_sheets a_findings v_isKept v_party_size v_party_list v_party_told v_party_kinds v_party_terms k.1 k.2)) kk')) 0 0 (va_A (wX4_against cI cJ cZ cS a_t a_party a_party_kinds a_party_costs a_party_terms a_party_known a_kept a_tape a_telephone a_sheets a_findings v_isKept v_party_size v_party_list v_party_told v_party_kinds v_party_terms v_party_known v_findings) sz) := by
  refine q_enter (Qf := fun A => (q_Ri D rr A ((fun k : (Nat → Int32) × (Nat → Int32) => (wX4_against cI cJ cZ cS a_t a_party a_party_kinds a_party_costs a_party_terms a_party_known a_kept a_tape a_telephone a_sheets a_findings v_isKept v_party_size v_party_list v_party_told v_party_kinds v_party_terms k.1 k.2)) kk'))) (by decide) rfl (Nat.le_of_ble_eq_true rfl) ?_
  intro p e s m below meth c A ls fx hname h hl
  have hx := fx.1
  have hb := fx.2.1
  have hl : lv_has ls 9 [(0, .ref a_t), (1, .int x1), (2, .int x2)] := hl
  generalize h9 : s.heap = H at h ⊢
  clear h9
  generalize h9 : ([] : List Loc) = locs at h ⊢
  clear h9
  unfold fX4_against at hf
  refine lv_aload_n hx hb dX4_against_0 rfl (lv_at hl 0 rfl) ?_
  refine q_get (v := .ref a_party) fx inX4 h 0 rfl rfl 0 (by decide) k_174 rfl dX4_against_1 ?_
  refine lv_iload_n hx hb dX4_against_4 rfl (lv_at hl 1 rfl) ?_
  obtain ⟨r18, k18, hg, hf⟩ := bR_inv hf
  refine q_ci (rest := []) (ws' := (wX4_against cI cJ cZ cS a_t a_party a_party_kinds a_party_costs a_party_terms a_party_known a_kept a_tape a_telephone a_sheets a_findings v_isKept v_party_size v_party_list v_party_told v_party_kinds v_party_terms v_party_known v_findings)) (w1 := (wX0_has cI cJ cZ cS a_party a_party_kinds a_party_costs a_party_terms a_party_known v_party_size v_party_list v_party_told)) fx h [1] rfl rfl rfl rfl (q_runV fx h hl.1 [1] rfl rfl (tX0_has l D cI cJ cZ cS tb a_party a_party_kinds a_party_costs a_party_terms a_party_known H.size v_party_size v_party_list v_party_told x1 r18 k18 hg) mvX0_has k_220 ⟨rfl, rfl⟩ ⟨Nat.le_of_ble_eq_true rfl, Nat.le_of_ble_eq_true rfl⟩ rfl rfl rfl rfl (Nat.le_of_ble_eq_true rfl) dX4_against_5 ⟨Nat.le_of_ble_eq_true rfl, Nat.le_of_ble_eq_true rfl⟩) (fun H locs h => ?_)
  refine lv_if_eq (tgt := 27) hx hb dX4_against_8 (by decide) (fun c19 => ?_) (fun c19 => ?_)
  · have hf := it_t c19 hf
    exact LX4_against_27 fx h (lv_sub hl [0] rfl) hf
  have hf := it_f c19 hf
  refine lv_aload_n hx hb dX4_against_11 rfl (lv_at hl 0 rfl) ?_
  refine q_get (v := .ref a_party) fx inX4 h 0 rfl rfl 0 (by decide) k_174 rfl dX4_against_12 ?_
  refine lv_iload_n hx hb dX4_against_15 rfl (lv_at hl 2 rfl) ?_
  obtain ⟨r20, k20, hg, hf⟩ := bR_inv hf
  refine q_ci (rest := []) (ws' := (wX4_against cI cJ cZ cS a_t a_party a_party_kinds a_party_costs a_party_terms a_party_known a_kept a_tape a_telephone a_sheets a_findings v_isKept v_party_size v_party_list v_party_told v_party_kinds v_party_terms v_party_known v_findings)) (w1 := (wX0_has cI cJ cZ cS a_party a_party_kinds a_party_costs a_party_terms a_party_known v_party_size v_party_list v_party_told)) fx h [1] rfl rfl rfl rfl (q_runV fx h hl.1 [1] rfl rfl (tX0_has l D cI cJ cZ cS tb a_party a_party_kinds a_party_costs a_party_terms a_party_known H.size v_party_size v_party_list v_party_told x2 r20 k20 hg) mvX0_has k_220 ⟨rfl, rfl⟩ ⟨Nat.le_of_ble_eq_true rfl, Nat.le_of_ble_eq_true rfl⟩ rfl rfl rfl rfl (Nat.le_of_ble_eq_true rfl) dX4_against_16 ⟨Nat.le_of_ble_eq_true rfl, Nat.le_of_ble_eq_true rfl⟩) (fun H locs h => ?_)
  refine lv_if_eq (tgt := 27) hx hb dX4_against_19 (by decide) (fun c21 => ?_) (fun c21 => ?_)
  · have hf := it_t c21 hf
    exact LX4_against_27 fx h (lv_sub hl [0] rfl) hf
  have hf := it_f c21 hf
  refine lv_iload_n hx hb dX4_against_22 rfl (lv_at hl 1 rfl) ?_
  refine lv_iload_n hx hb dX4_against_23 rfl (lv_at hl 2 rfl) ?_
  refine lv_icmp_ne (tgt := 34) hx hb dX4_against_24 (by decide) (fun c22 => ?_) (fun c22 => ?_)
  · have hf := it_f c22 hf
    refine lv_iconst (v := 0) hx hb dX4_against_34 (by decide) ?_
    refine lv_istore_n (lv' := [(3, .int 0), (0, .ref a_t), (1, .int x1), (2, .int x2)]) hx hb dX4_against_35 rfl hl (by decide) rfl (fun ls hl => ?_)
    refine lv_iconst (v := 0) hx hb dX4_against_36 (by decide) ?_
    refine lv_istore (lv' := [(4, .int 0), (3, .int 0), (0, .ref a_t), (1, .int x1), (2, .int x2)]) hx hb dX4_against_37 hl (by decide) rfl (fun ls hl => ?_)
    refine lv_iconst (v := 0) hx hb dX4_against_39 (by decide) ?_
    refine lv_istore (lv' := [(5, .int 0), (4, .int 0), (3, .int 0), (0, .ref a_t), (1, .int x1), (2, .int x2)]) hx hb dX4_against_40 hl (by decide) rfl (fun ls hl => ?_)
    refine lv_iconst (v := 0) hx hb dX4_against_42 (by decide) ?_
    refine lv_istore (lv' := [(6, .int 0), (5, .int 0), (4, .int 0), (3, .int 0), (0, .ref a_t), (1, .int x1), (2, .int x2)]) hx hb dX4_against_43 hl (by decide) rfl (fun ls hl => ?_)
    exact EX4_against_45 fx qF h (lv_sub hl [4, 5, 6, 3, 2, 1, 0] rfl) hf
  have hf := it_t c22 hf
  exact LX4_against_27 fx h (lv_sub hl [0] rfl) hf
/-! X4_minds -/
abbrev wX4_minds (cI cJ cZ cS : ClassId) (a_t a_party a_party_kinds a_party_costs a_party_terms a_party_known a_kept a_tape a_telephone a_sheets a_findings : Nat) (v_isKept : Int32) (v_party_size : Int32) (v_party_list : Int32) (v_party_told : Int32) (v_party_kinds : Nat → Int32) (v_party_terms : Nat → Int64) (v_party_known : Nat → Int32) (v_findings : Nat → Int32) : va_W := [(a_t, .inr (4, [.ref a_party, .ref a_kept, .int v_isKept, .ref a_tape, .ref a_telephone, .ref a_sheets, .ref a_findings])), (a_party, .inr (0, [.int v_party_size, .int v_party_list, .int v_party_told, .ref a_party_kinds, .ref a_party_costs, .ref a_party_terms, .ref a_party_known])), (a_party_kinds, .inl (cI, 8, .inl v_party_kinds)), (a_party_terms, .inl (cJ, 32, .inr (.inl v_party_terms))), (a_party_known, .inl (cI, 256, .inl v_party_known)), (a_findings, .inl (cI, 7, .inl v_findings))]
abbrev rX4_minds : Room := { frames := 4, cells := 0, slots := 0, locals := 90 }
def fX4_minds_27 (v_party_size : Int32) (v_party_kinds : Nat → Int32) (v_party_terms : Nat → Int64) (ag27 : (Nat → Int32) → (Nat → Int32) → Int32 → Int32 → Int32 → Option (Int32 × (Nat → Int32) × (Nat → Int32))) (v_party_known : Nat → Int32) (v_findings : Nat → Int32) (y2 : Int32) (y3 : Int32) (y4 : Int32) : Option (Int32 × (Nat → Int32) × (Nat → Int32)) :=
  bR (fX0_lists v_party_size) (fun r1 k1 =>
  (if r1 ≤ y4 then (
  some (y3 &&& (y2 ^^^ (-1)), (v_party_known, v_findings)))
  else (
  bR (fX0_comers v_party_size v_party_kinds v_party_terms v_party_known (y4 ||| y2)) (fun r3 k3 =>
  bR (fX0_comers v_party_size v_party_kinds v_party_terms k3 (y4 &&& (y2 ^^^ (-1)))) (fun r4 k4 =>
  nm (y3 ||| (r3 ^^^ r4)) (fun u5 =>
  nm (y4 + 1) (fun u6 =>
  ag27 k4 v_findings y2 u5 u6)))))))
set_option maxRecDepth 100000 in
set_option maxHeartbeats 4000000 in
theorem LX4_minds_27 {p : Program} {l : Launch} {e : Env} {s : State} {m : MethodId} {args : Array Value} {below : List Frame} {meth : Method} {c : Code} {D : va_G} {cI cJ cZ cS : ClassId} {tb : Nat} {A : Nat → Prop} {a_t a_party a_party_kinds a_party_costs a_party_terms a_party_known a_kept a_tape a_telephone a_sheets a_findings : Nat} {v_isKept : Int32} {v_party_size : Int32} {v_party_list : Int32} {v_party_told : Int32} {v_party_kinds : Nat → Int32} {v_party_terms : Nat → Int64} {rr : Int32} {kk' : (Nat → Int32) × (Nat → Int32)} (fx : q_Fx p s m args meth c cX4_minds 5 RX4 (some .int) D cI cJ cZ cS tb A) {ag27 : (Nat → Int32) → (Nat → Int32) → Int32 → Int32 → Int32 → Option (Int32 × (Nat → Int32) × (Nat → Int32))} (hag27 : ∀ {v_party_known : Nat → Int32} {v_findings : Nat → Int32} {y2 : Int32} {y3 : Int32} {y4 : Int32} {H : Heap} {locs : List Loc} {ls : Array Slot}, q_H D A s (wX4_minds cI cJ cZ cS a_t a_party a_party_kinds a_party_costs a_party_terms a_party_known a_kept a_tape a_telephone a_sheets a_findings v_isKept v_party_size v_party_list v_party_told v_party_kinds v_party_terms v_party_known v_findings) H locs → lv_has ls 5 [(0, .ref a_t), (2, .int y2), (3, .int y3), (4, .int y4)] → ag27 v_party_known v_findings y2 y3 y4 = some (rr, kk') → W p l e rX4_minds s m args below meth c H locs 0 0 (MQ below (q_Ri D rr A ((fun k : (Nat → Int32) × (Nat → Int32) => (wX4_minds cI cJ cZ cS a_t a_party a_party_kinds a_party_costs a_party_terms a_party_known a_kept a_tape a_telephone a_sheets a_findings v_isKept v_party_size v_party_list v_party_told v_party_kinds v_party_terms k.1 k.2)) kk')) args s 0 0 A) (F0 m 27 ls [])) : ∀ {v_party_known : Nat → Int32} {v_findings : Nat → Int32} {y2 : Int32} {y3 : Int32} {y4 : Int32} {H : Heap} {locs : List Loc} {ls : Array Slot}, q_H D A s (wX4_minds cI cJ cZ cS a_t a_party a_party_kinds a_party_costs a_party_terms a_party_known a_kept a_tape a_telephone a_sheets a_findings v_isKept v_party_size v_party_list v_party_told v_party_kinds v_party_terms v_party_known v_findings) H locs → lv_has ls 5 [(0, .ref a_t), (2, .int y2), (3, .int y3), (4, .int y4)] → fX4_minds_27 v_party_size v_party_kinds v_party_terms ag27 v_party_known v_findings y2 y3 y4 = some (rr, kk') → W p l e rX4_minds s m args below meth c H locs 0 0 (MQ below (q_Ri D rr A ((fun k : (Nat → Int32) × (Nat → Int32) => (wX4_minds cI cJ cZ cS a_t a_party a_party_kinds a_party_costs a_party_terms a_party_known a_kept a_tape a_telephone a_sheets a_findings v_isKept v_party_size v_party_list v_party_told v_party_kinds v_party_terms k.1 k.2)) kk')) args s 0 0 A) (F0 m 27 ls []) := by
  intro v_party_known v_findings y2 y3 y4 H locs ls h hl hf
  have hx := fx.1
  have hb := fx.2.1
  unfold fX4_minds_27 at hf
  refine lv_iload hx hb dX4_minds_27 (lv_at hl 3 rfl) ?_
  refine lv_aload_n hx hb dX4_minds_29 rfl (lv_at hl 0 rfl) ?_
  refine q_get (v := .ref a_party) fx inX4 h 0 rfl rfl 0 (by decide) k_174 rfl dX4_minds_30 ?_
  obtain ⟨r1, k1, hg, hf⟩ := bR_inv hf
  refine q_ci (rest := [.int y4]) (ws' := (wX4_minds cI cJ cZ cS a_t a_party a_party_kinds a_party_costs a_party_terms a_party_known a_kept a_tape a_telephone a_sheets a_findings v_isKept v_party_size v_party_list v_party_told v_party_kinds v_party_terms v_party_known v_findings)) (w1 := (wX0_lists cI cJ cZ cS a_party a_party_kinds a_party_costs a_party_terms a_party_known v_party_size v_party_list v_party_told)) fx h [1] rfl rfl rfl rfl (q_runV fx h hl.1 [1] rfl rfl (tX0_lists l D cI cJ cZ cS tb a_party a_party_kinds a_party_costs a_party_terms a_party_known H.size v_party_size v_party_list v_party_told r1 k1 hg) mvX0_lists k_447 ⟨rfl, rfl⟩ ⟨Nat.le_of_ble_eq_true rfl, Nat.le_of_ble_eq_true rfl⟩ rfl rfl rfl rfl (Nat.le_of_ble_eq_true rfl) dX4_minds_33 ⟨Nat.le_of_ble_eq_true rfl, Nat.le_of_ble_eq_true rfl⟩) (fun H locs h => ?_)
  refine lv_icmp_ge (tgt := 73) hx hb dX4_minds_36 (by decide) (fun c2 => ?_) (fun c2 => ?_)
  · have hf := it_t c2 hf
    refine lv_iload_n hx hb dX4_minds_73 rfl (lv_at hl 2 rfl) ?_
    refine lv_iload_n hx hb dX4_minds_74 rfl (lv_at hl 1 rfl) ?_
    refine lv_iconst (v := -1) hx hb dX4_minds_75 (by decide) ?_
    refine lv_ixor hx hb dX4_minds_76 ?_
    refine lv_iand hx hb dX4_minds_77 ?_
    exact q_reti (fun k : (Nat → Int32) × (Nat → Int32) => (wX4_minds cI cJ cZ cS a_t a_party a_party_kinds a_party_costs a_party_terms a_party_known a_kept a_tape a_telephone a_sheets a_findings v_isKept v_party_size v_party_list v_party_told v_party_kinds v_party_terms k.1 k.2)) fx hf h dX4_minds_78
  have hf := it_f c2 hf
  refine lv_iload_n hx hb dX4_minds_39 rfl (lv_at hl 2 rfl) ?_
  refine lv_aload_n hx hb dX4_minds_40 rfl (lv_at hl 0 rfl) ?_
  refine q_get (v := .ref a_party) fx inX4 h 0 rfl rfl 0 (by decide) k_174 rfl dX4_minds_41 ?_
  refine lv_iload hx hb dX4_minds_44 (lv_at hl 3 rfl) ?_
  refine lv_iload_n hx hb dX4_minds_46 rfl (lv_at hl 1 rfl) ?_
  refine lv_ior hx hb dX4_minds_47 ?_
  obtain ⟨r3, k3, hg, hf⟩ := bR_inv hf
  refine q_ci (rest := [.int y3]) (ws' := (wX4_minds cI cJ cZ cS a_t a_party a_party_kinds a_party_costs a_party_terms a_party_known a_kept a_tape a_telephone a_sheets a_findings v_isKept v_party_size v_party_list v_party_told v_party_kinds v_party_terms k3 v_findings)) (w1 := (wX0_comers cI cJ cZ cS a_party a_party_kinds a_party_costs a_party_terms a_party_known v_party_size v_party_list v_party_told v_party_kinds v_party_terms k3)) fx h [1, 2, 3, 4] rfl rfl rfl rfl (q_runV fx h hl.1 [1, 2, 3, 4] rfl rfl (tX0_comers l D cI cJ cZ cS tb a_party a_party_kinds a_party_costs a_party_terms a_party_known H.size v_party_size v_party_list v_party_told v_party_kinds v_party_terms v_party_known (y4 ||| y2) r3 k3 hg) mvX0_comers k_224 ⟨rfl, rfl⟩ ⟨Nat.le_of_ble_eq_true rfl, Nat.le_of_ble_eq_true rfl⟩ rfl rfl rfl rfl (Nat.le_of_ble_eq_true rfl) dX4_minds_48 ⟨Nat.le_of_ble_eq_true rfl, Nat.le_of_ble_eq_true rfl⟩) (fun H locs h => ?_)
  refine lv_aload_n hx hb dX4_minds_51 rfl (lv_at hl 0 rfl) ?_
  refine q_get (v := .ref a_party) fx inX4 h 0 rfl rfl 0 (by decide) k_174 rfl dX4_minds_52 ?_
  refine lv_iload hx hb dX4_minds_55 (lv_at hl 3 rfl) ?_
  refine lv_iload_n hx hb dX4_minds_57 rfl (lv_at hl 1 rfl) ?_
  refine lv_iconst (v := -1) hx hb dX4_minds_58 (by decide) ?_
  refine lv_ixor hx hb dX4_minds_59 ?_
  refine lv_iand hx hb dX4_minds_60 ?_
  obtain ⟨r4, k4, hg, hf⟩ := bR_inv hf
  refine q_ci (rest := [.int r3, .int y3]) (ws' := (wX4_minds cI cJ cZ cS a_t a_party a_party_kinds a_party_costs a_party_terms a_party_known a_kept a_tape a_telephone a_sheets a_findings v_isKept v_party_size v_party_list v_party_told v_party_kinds v_party_terms k4 v_findings)) (w1 := (wX0_comers cI cJ cZ cS a_party a_party_kinds a_party_costs a_party_terms a_party_known v_party_size v_party_list v_party_told v_party_kinds v_party_terms k4)) fx h [1, 2, 3, 4] rfl rfl rfl rfl (q_runV fx h hl.1 [1, 2, 3, 4] rfl rfl (tX0_comers l D cI cJ cZ cS tb a_party a_party_kinds a_party_costs a_party_terms a_party_known H.size v_party_size v_party_list v_party_told v_party_kinds v_party_terms k3 (y4 &&& (y2 ^^^ (-1))) r4 k4 hg) mvX0_comers k_224 ⟨rfl, rfl⟩ ⟨Nat.le_of_ble_eq_true rfl, Nat.le_of_ble_eq_true rfl⟩ rfl rfl rfl rfl (Nat.le_of_ble_eq_true rfl) dX4_minds_61 ⟨Nat.le_of_ble_eq_true rfl, Nat.le_of_ble_eq_true rfl⟩) (fun H locs h => ?_)
  refine lv_ixor hx hb dX4_minds_64 ?_
  refine lv_ior hx hb dX4_minds_65 ?_
  obtain ⟨u5, eu5, hf⟩ := nm_inv hf
  refine lv_eqi eu5 ?_
  refine lv_istore_n (lv' := [(3, .int u5), (0, .ref a_t), (2, .int y2), (4, .int y4)]) hx hb dX4_minds_66 rfl hl (by decide) rfl (fun ls hl => ?_)
  obtain ⟨u6, eu6, hf⟩ := nm_inv hf
  refine lv_iinc (v := u6) (lv' := [(4, .int u6), (3, .int u5), (0, .ref a_t), (2, .int y2)]) hx hb dX4_minds_67 hl (k := 3) rfl (by rw [eu6]; rfl) (by decide) rfl (fun ls hl => ?_)
  refine lv_goto (tgt := 27) hx hb dX4_minds_70 (by decide) ?_
  exact hag27 h (lv_sub hl [2, 3, 1, 0] rfl) hf
set_option maxRecDepth 100000 in
theorem EX4_minds_27 {p : Program} {l : Launch} {e : Env} {s : State} {m : MethodId} {args : Array Value} {below : List Frame} {meth : Method} {c : Code} {D : va_G} {cI cJ cZ cS : ClassId} {tb : Nat} {A : Nat → Prop} {a_t a_party a_party_kinds a_party_costs a_party_terms a_party_known a_kept a_tape a_telephone a_sheets a_findings : Nat} {v_isKept : Int32} {v_party_size : Int32} {v_party_list : Int32} {v_party_told : Int32} {v_party_kinds : Nat → Int32} {v_party_terms : Nat → Int64} {rr : Int32} {kk' : (Nat → Int32) × (Nat → Int32)} (fx : q_Fx p s m args meth c cX4_minds 5 RX4 (some .int) D cI cJ cZ cS tb A) : ∀ (n : Nat), ∀ {v_party_known : Nat → Int32} {v_findings : Nat → Int32} {y2 : Int32} {y3 : Int32} {y4 : Int32} {H : Heap} {locs : List Loc} {ls : Array Slot}, q_H D A s (wX4_minds cI cJ cZ cS a_t a_party a_party_kinds a_party_costs a_party_terms a_party_known a_kept a_tape a_telephone a_sheets a_findings v_isKept v_party_size v_party_list v_party_told v_party_kinds v_party_terms v_party_known v_findings) H locs → lv_has ls 5 [(0, .ref a_t), (2, .int y2), (3, .int y3), (4, .int y4)] → ll5 (fX4_minds_27 v_party_size v_party_kinds v_party_terms) n v_party_known v_findings y2 y3 y4 = some (rr, kk') → W p l e rX4_minds s m args below meth c H locs 0 0 (MQ below (q_Ri D rr A ((fun k : (Nat → Int32) × (Nat → Int32) => (wX4_minds cI cJ cZ cS a_t a_party a_party_kinds a_party_costs a_party_terms a_party_known a_kept a_tape a_telephone a_sheets a_findings v_isKept v_party_size v_party_list v_party_told v_party_kinds v_party_terms k.1 k.2)) kk')) args s 0 0 A) (F0 m 27 ls []) := by
  intro n
  induction n with
  | zero => intro v_party_known v_findings y2 y3 y4 H locs ls h hl hf; exact (ll5_z hf).elim
  | succ n ih => intro v_party_known v_findings y2 y3 y4 H locs ls h hl hf; exact LX4_minds_27 fx ih h hl (ll5_s hf)
def fX4_minds (v_party_size : Int32) (v_party_kinds : Nat → Int32) (v_party_terms : Nat → Int64) (v_party_known : Nat → Int32) (v_findings : Nat → Int32) (x1 : Int32) : Option (Int32 × (Nat → Int32) × (Nat → Int32)) :=
  bR (fX0_has v_party_size x1) (fun r7 k7 =>
  (if r7 = 0 then (
  bR (fX4_found v_findings (-1000000001)) (fun r10 k10 =>
  some (r10, (v_party_known, k10))))
  else (
  nm (jshl 1 x1) (fun u9 =>
  ll5 (fX4_minds_27 v_party_size v_party_kinds v_party_terms) qF v_party_known v_findings u9 0 0))))
set_option maxRecDepth 100000 in
set_option maxHeartbeats 4000000 in
theorem tX4_minds (l : Launch) (D : va_G) (cI cJ cZ cS : ClassId) (tb : Nat) (a_t a_party a_party_kinds a_party_costs a_party_terms a_party_known a_kept a_tape a_telephone a_sheets a_findings : Nat) (sz : Nat) (v_isKept : Int32) (v_party_size : Int32) (v_party_list : Int32) (v_party_told : Int32) (v_party_kinds : Nat → Int32) (v_party_terms : Nat → Int64) (v_party_known : Nat → Int32) (v_findings : Nat → Int32) (x1 : Int32) (rr : Int32) (kk' : (Nat → Int32) × (Nat → Int32)) (hf : fX4_minds v_party_size v_party_kinds v_party_terms v_party_known v_findings x1 = some (rr, kk')) : Met l yX4_minds (Cond.code yX4_minds cX4_minds 5 (some .int) :: wA) rX4_minds (q_Pre D cI cJ cZ cS tb [.ref a_t, .int x1] sz (wX4_minds cI cJ cZ cS a_t a_party a_party_kinds a_party_costs a_party_terms a_party_known a_kept a_tape a_telephone a_sheets a_findings v_isKept v_party_size v_party_list v_party_told v_party_kinds v_party_terms v_party_known v_findings)) (q_Ri D rr (va_A (wX4_minds cI cJ cZ cS a_t a_party a_party_kinds a_party_costs a_party_terms a_party_known a_kept a_tape a_telephone a_sheets a_findings v_isKept v_party_size v_party_list v_party_told v_party_kinds v_party_terms v_party_known v_findings) sz) ((fun k : (Nat → Int32) × (Nat → Int32) => (wX4_minds cI cJ cZ cS a_t a_party a_party_kinds a_party_costs a_party_terms a_party_known a_kept a_tape a_telephone a_sheets a_findings v_isKept v_party_size v_party_list v_party_told v_party_kinds v_party_terms k.1 k.2)) kk')) 0 0 (va_A (wX4_minds cI cJ cZ cS a_t a_party a_party_kinds a_party_costs a_party_terms a_party_known a_kept a_tape a_telephone a_sheets a_findings v_isKept v_party_size v_party_list v_party_told v_party_kinds v_party_terms v_party_known v_findings) sz) := by
  refine q_enter (Qf := fun A => (q_Ri D rr A ((fun k : (Nat → Int32) × (Nat → Int32) => (wX4_minds cI cJ cZ cS a_t a_party a_party_kinds a_party_costs a_party_terms a_party_known a_kept a_tape a_telephone a_sheets a_findings v_isKept v_party_size v_party_list v_party_told v_party_kinds v_party_terms k.1 k.2)) kk'))) (by decide) rfl (Nat.le_of_ble_eq_true rfl) ?_
  intro p e s m below meth c A ls fx hname h hl
  have hx := fx.1
  have hb := fx.2.1
  have hl : lv_has ls 5 [(0, .ref a_t), (1, .int x1)] := hl
  generalize h9 : s.heap = H at h ⊢
  clear h9
  generalize h9 : ([] : List Loc) = locs at h ⊢
  clear h9
  unfold fX4_minds at hf
  refine lv_aload_n hx hb dX4_minds_0 rfl (lv_at hl 0 rfl) ?_
  refine q_get (v := .ref a_party) fx inX4 h 0 rfl rfl 0 (by decide) k_174 rfl dX4_minds_1 ?_
  refine lv_iload_n hx hb dX4_minds_4 rfl (lv_at hl 1 rfl) ?_
  obtain ⟨r7, k7, hg, hf⟩ := bR_inv hf
  refine q_ci (rest := []) (ws' := (wX4_minds cI cJ cZ cS a_t a_party a_party_kinds a_party_costs a_party_terms a_party_known a_kept a_tape a_telephone a_sheets a_findings v_isKept v_party_size v_party_list v_party_told v_party_kinds v_party_terms v_party_known v_findings)) (w1 := (wX0_has cI cJ cZ cS a_party a_party_kinds a_party_costs a_party_terms a_party_known v_party_size v_party_list v_party_told)) fx h [1] rfl rfl rfl rfl (q_runV fx h hl.1 [1] rfl rfl (tX0_has l D cI cJ cZ cS tb a_party a_party_kinds a_party_costs a_party_terms a_party_known H.size v_party_size v_party_list v_party_told x1 r7 k7 hg) mvX0_has k_220 ⟨rfl, rfl⟩ ⟨Nat.le_of_ble_eq_true rfl, Nat.le_of_ble_eq_true rfl⟩ rfl rfl rfl rfl (Nat.le_of_ble_eq_true rfl) dX4_minds_5 ⟨Nat.le_of_ble_eq_true rfl, Nat.le_of_ble_eq_true rfl⟩) (fun H locs h => ?_)
  refine lv_if_ne (tgt := 18) hx hb dX4_minds_8 (by decide) (fun c8 => ?_) (fun c8 => ?_)
  · have hf := it_f c8 hf
    refine lv_iconst (v := 1) hx hb dX4_minds_18 (by decide) ?_
    refine lv_iload_n hx hb dX4_minds_19 rfl (lv_at hl 1 rfl) ?_
    refine lv_ishl hx hb dX4_minds_20 ?_
    obtain ⟨u9, eu9, hf⟩ := nm_inv hf
    refine lv_eqi eu9 ?_
    refine lv_istore_n (lv' := [(2, .int u9), (0, .ref a_t), (1, .int x1)]) hx hb dX4_minds_21 rfl hl (by decide) rfl (fun ls hl => ?_)
    refine lv_iconst (v := 0) hx hb dX4_minds_22 (by decide) ?_
    refine lv_istore_n (lv' := [(3, .int 0), (2, .int u9), (0, .ref a_t), (1, .int x1)]) hx hb dX4_minds_23 rfl hl (by decide) rfl (fun ls hl => ?_)
    refine lv_iconst (v := 0) hx hb dX4_minds_24 (by decide) ?_
    refine lv_istore (lv' := [(4, .int 0), (3, .int 0), (2, .int u9), (0, .ref a_t), (1, .int x1)]) hx hb dX4_minds_25 hl (by decide) rfl (fun ls hl => ?_)
    exact EX4_minds_27 fx qF h (lv_sub hl [3, 2, 1, 0] rfl) hf
  have hf := it_t c8 hf
  refine lv_aload_n hx hb dX4_minds_11 rfl (lv_at hl 0 rfl) ?_
  refine q_ldc fx k_206 dX4_minds_12 ?_
  obtain ⟨r10, k10, hg, hf⟩ := bR_inv hf
  refine q_ci (rest := []) (ws' := (wX4_minds cI cJ cZ cS a_t a_party a_party_kinds a_party_costs a_party_terms a_party_known a_kept a_tape a_telephone a_sheets a_findings v_isKept v_party_size v_party_list v_party_told v_party_kinds v_party_terms v_party_known k10)) (w1 := (wX4_found cI cJ cZ cS a_t a_party a_kept a_tape a_telephone a_sheets a_findings v_isKept k10)) fx h [0, 5] rfl rfl rfl rfl (q_runV fx h hl.1 [0, 5] rfl rfl (tX4_found l D cI cJ cZ cS tb a_t a_party a_kept a_tape a_telephone a_sheets a_findings H.size v_isKept v_findings (-1000000001) r10 k10 hg) mvX4_found k_207 ⟨rfl, rfl⟩ ⟨Nat.le_of_ble_eq_true rfl, Nat.le_of_ble_eq_true rfl⟩ rfl rfl rfl rfl (Nat.le_of_ble_eq_true rfl) dX4_minds_14 ⟨Nat.le_of_ble_eq_true rfl, Nat.le_of_ble_eq_true rfl⟩) (fun H locs h => ?_)
  exact q_reti (fun k : (Nat → Int32) × (Nat → Int32) => (wX4_minds cI cJ cZ cS a_t a_party a_party_kinds a_party_costs a_party_terms a_party_known a_kept a_tape a_telephone a_sheets a_findings v_isKept v_party_size v_party_list v_party_told v_party_kinds v_party_terms k.1 k.2)) fx hf h dX4_minds_17
/-! X0_comersAs -/
abbrev wX0_comersAs (cI cJ cZ cS : ClassId) (a_t a_kinds a_costs a_terms a_known : Nat) (v_size : Int32) (v_list : Int32) (v_told : Int32) (v_kinds : Nat → Int32) (v_terms : Nat → Int64) (v_known : Nat → Int32) : va_W := [(a_t, .inr (0, [.int v_size, .int v_list, .int v_told, .ref a_kinds, .ref a_costs, .ref a_terms, .ref a_known])), (a_kinds, .inl (cI, 8, .inl v_kinds)), (a_terms, .inl (cJ, 32, .inr (.inl v_terms))), (a_known, .inl (cI, 256, .inl v_known))]
abbrev rX0_comersAs : Room := { frames := 4, cells := 0, slots := 0, locals := 90 }
def fX0_comersAs (v_size : Int32) (v_kinds : Nat → Int32) (v_terms : Nat → Int64) (v_known : Nat → Int32) (x1 : Int32) (x2 : Int32) (x3 : Int32) : Option (Int32 × (Nat → Int32)) :=
  bR (fX0_comers v_size v_kinds v_terms v_known x3) (fun r1 k1 =>
  nm (r1 &&& ((jshl 1 x1) ^^^ (-1))) (fun u2 =>
  bR (fX0_wouldComeAs v_terms x2 x1 x3) (fun r3 k3 =>
  (if r3 = 0 then (
  some (u2, k1))
  else (
  some (u2 ||| (jshl 1 x1), k1))))))
set_option maxRecDepth 100000 in
set_option maxHeartbeats 4000000 in
theorem tX0_comersAs (l : Launch) (D : va_G) (cI cJ cZ cS : ClassId) (tb : Nat) (a_t a_kinds a_costs a_terms a_known : Nat) (sz : Nat) (v_size : Int32) (v_list : Int32) (v_told : Int32) (v_kinds : Nat → Int32) (v_terms : Nat → Int64) (v_known : Nat → Int32) (x1 : Int32) (x2 : Int32) (x3 : Int32) (rr : Int32) (kk' : (Nat → Int32)) (hf : fX0_comersAs v_size v_kinds v_terms v_known x1 x2 x3 = some (rr, kk')) : Met l yX0_comersAs (Cond.code yX0_comersAs cX0_comersAs 5 (some .int) :: wA) rX0_comersAs (q_Pre D cI cJ cZ cS tb [.ref a_t, .int x1, .int x2, .int x3] sz (wX0_comersAs cI cJ cZ cS a_t a_kinds a_costs a_terms a_known v_size v_list v_told v_kinds v_terms v_known)) (q_Ri D rr (va_A (wX0_comersAs cI cJ cZ cS a_t a_kinds a_costs a_terms a_known v_size v_list v_told v_kinds v_terms v_known) sz) ((fun k : (Nat → Int32) => (wX0_comersAs cI cJ cZ cS a_t a_kinds a_costs a_terms a_known v_size v_list v_told v_kinds v_terms k)) kk')) 0 0 (va_A (wX0_comersAs cI cJ cZ cS a_t a_kinds a_costs a_terms a_known v_size v_list v_told v_kinds v_terms v_known) sz) := by
  refine q_enter (Qf := fun A => (q_Ri D rr A ((fun k : (Nat → Int32) => (wX0_comersAs cI cJ cZ cS a_t a_kinds a_costs a_terms a_known v_size v_list v_told v_kinds v_terms k)) kk'))) (by decide) rfl (Nat.le_of_ble_eq_true rfl) ?_
  intro p e s m below meth c A ls fx hname h hl
  have hx := fx.1
  have hb := fx.2.1
  have hl : lv_has ls 5 [(0, .ref a_t), (1, .int x1), (2, .int x2), (3, .int x3)] := hl
  generalize h9 : s.heap = H at h ⊢
  clear h9
  generalize h9 : ([] : List Loc) = locs at h ⊢
  clear h9
  unfold fX0_comersAs at hf
  refine lv_aload_n hx hb dX0_comersAs_0 rfl (lv_at hl 0 rfl) ?_
  refine lv_iload_n hx hb dX0_comersAs_1 rfl (lv_at hl 3 rfl) ?_
  obtain ⟨r1, k1, hg, hf⟩ := bR_inv hf
  refine q_ci (rest := []) (ws' := (wX0_comersAs cI cJ cZ cS a_t a_kinds a_costs a_terms a_known v_size v_list v_told v_kinds v_terms k1)) (w1 := (wX0_comers cI cJ cZ cS a_t a_kinds a_costs a_terms a_known v_size v_list v_told v_kinds v_terms k1)) fx h [0, 1, 2, 3] rfl rfl rfl rfl (q_runV fx h hl.1 [0, 1, 2, 3] rfl rfl (tX0_comers l D cI cJ cZ cS tb a_t a_kinds a_costs a_terms a_known H.size v_size v_list v_told v_kinds v_terms v_known x3 r1 k1 hg) mvX0_comers k_362 ⟨rfl, rfl⟩ ⟨Nat.le_of_ble_eq_true rfl, Nat.le_of_ble_eq_true rfl⟩ rfl rfl rfl rfl (Nat.le_of_ble_eq_true rfl) dX0_comersAs_2 ⟨Nat.le_of_ble_eq_true rfl, Nat.le_of_ble_eq_true rfl⟩) (fun H locs h => ?_)
  refine lv_iconst (v := 1) hx hb dX0_comersAs_5 (by decide) ?_
  refine lv_iload_n hx hb dX0_comersAs_6 rfl (lv_at hl 1 rfl) ?_
  refine lv_ishl hx hb dX0_comersAs_7 ?_
  refine lv_iconst (v := -1) hx hb dX0_comersAs_8 (by decide) ?_
  refine lv_ixor hx hb dX0_comersAs_9 ?_
  refine lv_iand hx hb dX0_comersAs_10 ?_
  obtain ⟨u2, eu2, hf⟩ := nm_inv hf
  refine lv_eqi eu2 ?_
  refine lv_istore (lv' := [(4, .int u2), (0, .ref a_t), (1, .int x1), (2, .int x2), (3, .int x3)]) hx hb dX0_comersAs_11 hl (by decide) rfl (fun ls hl => ?_)
  refine lv_aload_n hx hb dX0_comersAs_13 rfl (lv_at hl 1 rfl) ?_
  refine lv_iload_n hx hb dX0_comersAs_14 rfl (lv_at hl 3 rfl) ?_
  refine lv_iload_n hx hb dX0_comersAs_15 rfl (lv_at hl 2 rfl) ?_
  refine lv_iload_n hx hb dX0_comersAs_16 rfl (lv_at hl 4 rfl) ?_
  obtain ⟨r3, k3, hg, hf⟩ := bR_inv hf
  refine q_ci (rest := []) (ws' := (wX0_comersAs cI cJ cZ cS a_t a_kinds a_costs a_terms a_known v_size v_list v_told v_kinds v_terms k1)) (w1 := (wX0_wouldComeAs cI cJ cZ cS a_t a_kinds a_costs a_terms a_known v_size v_list v_told v_terms)) fx h [0, 2] rfl rfl rfl rfl (q_runV fx h hl.1 [0, 2] rfl rfl (tX0_wouldComeAs l D cI cJ cZ cS tb a_t a_kinds a_costs a_terms a_known H.size v_size v_list v_told v_terms x2 x1 x3 r3 k3 hg) mvX0_wouldComeAs k_228 ⟨rfl, rfl⟩ ⟨Nat.le_of_ble_eq_true rfl, Nat.le_of_ble_eq_true rfl⟩ rfl rfl rfl rfl (Nat.le_of_ble_eq_true rfl) dX0_comersAs_17 ⟨Nat.le_of_ble_eq_true rfl, Nat.le_of_ble_eq_true rfl⟩) (fun H locs h => ?_)
  refine lv_if_eq (tgt := 32) hx hb dX0_comersAs_20 (by decide) (fun c4 => ?_) (fun c4 => ?_)
  · have hf := it_t c4 hf
    refine lv_iload hx hb dX0_comersAs_32 (lv_at hl 0 rfl) ?_
    exact q_reti (fun k : (Nat → Int32) => (wX0_comersAs cI cJ cZ cS a_t a_kinds a_costs a_terms a_known v_size v_list v_told v_kinds v_terms k)) fx hf h dX0_comersAs_34
  have hf := it_f c4 hf
  refine lv_iload hx hb dX0_comersAs_23 (lv_at hl 0 rfl) ?_
  refine lv_iconst (v := 1) hx hb dX0_comersAs_25 (by decide) ?_
  refine lv_iload_n hx hb dX0_comersAs_26 rfl (lv_at hl 2 rfl) ?_
  refine lv_ishl hx hb dX0_comersAs_27 ?_
  refine lv_ior hx hb dX0_comersAs_28 ?_
  refine lv_goto (tgt := 34) hx hb dX0_comersAs_29 (by decide) ?_
  exact q_reti (fun k : (Nat → Int32) => (wX0_comersAs cI cJ cZ cS a_t a_kinds a_costs a_terms a_known v_size v_list v_told v_kinds v_terms k)) fx hf h dX0_comersAs_34
/-! X0_settledAs -/
abbrev wX0_settledAs (cI cJ cZ cS : ClassId) (a_t a_kinds a_costs a_terms a_known : Nat) (v_size : Int32) (v_list : Int32) (v_told : Int32) (v_kinds : Nat → Int32) (v_terms : Nat → Int64) (v_known : Nat → Int32) : va_W := [(a_t, .inr (0, [.int v_size, .int v_list, .int v_told, .ref a_kinds, .ref a_costs, .ref a_terms, .ref a_known])), (a_kinds, .inl (cI, 8, .inl v_kinds)), (a_terms, .inl (cJ, 32, .inr (.inl v_terms))), (a_known, .inl (cI, 256, .inl v_known))]
abbrev rX0_settledAs : Room := { frames := 5, cells := 0, slots := 0, locals := 114 }
def fX0_settledAs_33 (v_size : Int32) (v_kinds : Nat → Int32) (v_terms : Nat → Int64) (ag5 : (Nat → Int32) → Int32 → Int32 → Int32 → Int32 → Option (Int32 × (Nat → Int32))) (v_known : Nat → Int32) (s0 : Int32) (s1 : Int32) (y1 : Int32) (y2 : Int32) (y4 : Int32) : Option (Int32 × (Nat → Int32)) :=
  bR (fX4_oneIf s1) (fun r1 k1 =>
  nm (s0 + r1) (fun u2 =>
  nm (y4 + 1) (fun u3 =>
  ag5 v_known y1 y2 u2 u3)))
set_option maxRecDepth 100000 in
set_option maxHeartbeats 4000000 in
theorem LX0_settledAs_33 {p : Program} {l : Launch} {e : Env} {s : State} {m : MethodId} {args : Array Value} {below : List Frame} {meth : Method} {c : Code} {D : va_G} {cI cJ cZ cS : ClassId} {tb : Nat} {A : Nat → Prop} {a_t a_kinds a_costs a_terms a_known : Nat} {v_size : Int32} {v_list : Int32} {v_told : Int32} {v_kinds : Nat → Int32} {v_terms : Nat → Int64} {rr : Int32} {kk' : (Nat → Int32)} (fx : q_Fx p s m args meth c cX0_settledAs 5 RX0 (some .int) D cI cJ cZ cS tb A) {ag5 : (Nat → Int32) → Int32 → Int32 → Int32 → Int32 → Option (Int32 × (Nat → Int32))} (hag5 : ∀ {v_known : Nat → Int32} {y1 : Int32} {y2 : Int32} {y3 : Int32} {y4 : Int32} {H : Heap} {locs : List Loc} {ls : Array Slot}, q_H D A s (wX0_settledAs cI cJ cZ cS a_t a_kinds a_costs a_terms a_known v_size v_list v_told v_kinds v_terms v_known) H locs → lv_has ls 5 [(0, .ref a_t), (1, .int y1), (2, .int y2), (3, .int y3), (4, .int y4)] → ag5 v_known y1 y2 y3 y4 = some (rr, kk') → W p l e rX0_settledAs s m args below meth c H locs 0 0 (MQ below (q_Ri D rr A ((fun k : (Nat → Int32) => (wX0_settledAs cI cJ cZ cS a_t a_kinds a_costs a_terms a_known v_size v_list v_told v_kinds v_terms k)) kk')) args s 0 0 A) (F0 m 5 ls [])) : ∀ {v_known : Nat → Int32} {s0 : Int32} {s1 : Int32} {y1 : Int32} {y2 : Int32} {y4 : Int32} {H : Heap} {locs : List Loc} {ls : Array Slot}, q_H D A s (wX0_settledAs cI cJ cZ cS a_t a_kinds a_costs a_terms a_known v_size v_list v_told v_kinds v_terms v_known) H locs → lv_has ls 5 [(0, .ref a_t), (1, .int y1), (2, .int y2), (4, .int y4)] → fX0_settledAs_33 v_size v_kinds v_terms ag5 v_known s0 s1 y1 y2 y4 = some (rr, kk') → W p l e rX0_settledAs s m args below meth c H locs 0 0 (MQ below (q_Ri D rr A ((fun k : (Nat → Int32) => (wX0_settledAs cI cJ cZ cS a_t a_kinds a_costs a_terms a_known v_size v_list v_told v_kinds v_terms k)) kk')) args s 0 0 A) (F0 m 33 ls [.int s1, .int s0]) := by
  intro v_known s0 s1 y1 y2 y4 H locs ls h hl hf
  have hx := fx.1
  have hb := fx.2.1
  unfold fX0_settledAs_33 at hf
  obtain ⟨r1, k1, hg, hf⟩ := bR_inv hf
  refine q_ci (rest := [.int s0]) (ws' := (wX0_settledAs cI cJ cZ cS a_t a_kinds a_costs a_terms a_known v_size v_list v_told v_kinds v_terms v_known)) (w1 := (wX4_oneIf cI cJ cZ cS)) fx h [] rfl rfl rfl rfl (q_runSN fx h hl.1 [] rfl rfl (tX4_oneIf l D cI cJ cZ cS tb H.size s1 r1 k1 hg) msX4_oneIf nm_4 ⟨rfl, rfl⟩ ⟨Nat.le_of_ble_eq_true rfl, Nat.le_of_ble_eq_true rfl⟩ rfl rfl (Nat.le_of_ble_eq_true rfl) dX0_settledAs_33 ⟨Nat.le_of_ble_eq_true rfl, Nat.le_of_ble_eq_true rfl⟩) (fun H locs h => ?_)
  refine lv_iadd hx hb dX0_settledAs_36 ?_
  obtain ⟨u2, eu2, hf⟩ := nm_inv hf
  refine lv_eqi eu2 ?_
  refine lv_istore_n (lv' := [(3, .int u2), (0, .ref a_t), (1, .int y1), (2, .int y2), (4, .int y4)]) hx hb dX0_settledAs_37 rfl hl (by decide) rfl (fun ls hl => ?_)
  obtain ⟨u3, eu3, hf⟩ := nm_inv hf
  refine lv_iinc (v := u3) (lv' := [(4, .int u3), (3, .int u2), (0, .ref a_t), (1, .int y1), (2, .int y2)]) hx hb dX0_settledAs_38 hl (k := 4) rfl (by rw [eu3]; rfl) (by decide) rfl (fun ls hl => ?_)
  refine lv_goto (tgt := 5) hx hb dX0_settledAs_41 (by decide) ?_
  exact hag5 h (lv_sub hl [2, 3, 4, 1, 0] rfl) hf
def fX0_settledAs_5 (v_size : Int32) (v_kinds : Nat → Int32) (v_terms : Nat → Int64) (ag5 : (Nat → Int32) → Int32 → Int32 → Int32 → Int32 → Option (Int32 × (Nat → Int32))) (v_known : Nat → Int32) (y1 : Int32) (y2 : Int32) (y3 : Int32) (y4 : Int32) : Option (Int32 × (Nat → Int32)) :=
  bR (fX0_lists v_size) (fun r4 k4 =>
  (if r4 ≤ y4 then (
  some (y3, v_known))
  else (
  bR (fX0_comersAs v_size v_kinds v_terms v_known y1 y2 y4) (fun r6 k6 =>
  (if r6 = y4 then (
  fX0_settledAs_33 v_size v_kinds v_terms ag5 k6 y3 1 y1 y2 y4)
  else (
  fX0_settledAs_33 v_size v_kinds v_terms ag5 k6 y3 0 y1 y2 y4))))))
set_option maxRecDepth 100000 in
set_option maxHeartbeats 4000000 in
theorem LX0_settledAs_5 {p : Program} {l : Launch} {e : Env} {s : State} {m : MethodId} {args : Array Value} {below : List Frame} {meth : Method} {c : Code} {D : va_G} {cI cJ cZ cS : ClassId} {tb : Nat} {A : Nat → Prop} {a_t a_kinds a_costs a_terms a_known : Nat} {v_size : Int32} {v_list : Int32} {v_told : Int32} {v_kinds : Nat → Int32} {v_terms : Nat → Int64} {rr : Int32} {kk' : (Nat → Int32)} (fx : q_Fx p s m args meth c cX0_settledAs 5 RX0 (some .int) D cI cJ cZ cS tb A) {ag5 : (Nat → Int32) → Int32 → Int32 → Int32 → Int32 → Option (Int32 × (Nat → Int32))} (hag5 : ∀ {v_known : Nat → Int32} {y1 : Int32} {y2 : Int32} {y3 : Int32} {y4 : Int32} {H : Heap} {locs : List Loc} {ls : Array Slot}, q_H D A s (wX0_settledAs cI cJ cZ cS a_t a_kinds a_costs a_terms a_known v_size v_list v_told v_kinds v_terms v_known) H locs → lv_has ls 5 [(0, .ref a_t), (1, .int y1), (2, .int y2), (3, .int y3), (4, .int y4)] → ag5 v_known y1 y2 y3 y4 = some (rr, kk') → W p l e rX0_settledAs s m args below meth c H locs 0 0 (MQ below (q_Ri D rr A ((fun k : (Nat → Int32) => (wX0_settledAs cI cJ cZ cS a_t a_kinds a_costs a_terms a_known v_size v_list v_told v_kinds v_terms k)) kk')) args s 0 0 A) (F0 m 5 ls [])) : ∀ {v_known : Nat → Int32} {y1 : Int32} {y2 : Int32} {y3 : Int32} {y4 : Int32} {H : Heap} {locs : List Loc} {ls : Array Slot}, q_H D A s (wX0_settledAs cI cJ cZ cS a_t a_kinds a_costs a_terms a_known v_size v_list v_told v_kinds v_terms v_known) H locs → lv_has ls 5 [(0, .ref a_t), (1, .int y1), (2, .int y2), (3, .int y3), (4, .int y4)] → fX0_settledAs_5 v_size v_kinds v_terms ag5 v_known y1 y2 y3 y4 = some (rr, kk') → W p l e rX0_settledAs s m args below meth c H locs 0 0 (MQ below (q_Ri D rr A ((fun k : (Nat → Int32) => (wX0_settledAs cI cJ cZ cS a_t a_kinds a_costs a_terms a_known v_size v_list v_told v_kinds v_terms k)) kk')) args s 0 0 A) (F0 m 5 ls []) := by
  intro v_known y1 y2 y3 y4 H locs ls h hl hf
  have hx := fx.1
  have hb := fx.2.1
  unfold fX0_settledAs_5 at hf
  refine lv_iload hx hb dX0_settledAs_5 (lv_at hl 4 rfl) ?_
  refine lv_aload_n hx hb dX0_settledAs_7 rfl (lv_at hl 0 rfl) ?_
  obtain ⟨r4, k4, hg, hf⟩ := bR_inv hf
  refine q_ci (rest := [.int y4]) (ws' := (wX0_settledAs cI cJ cZ cS a_t a_kinds a_costs a_terms a_known v_size v_list v_told v_kinds v_terms v_known)) (w1 := (wX0_lists cI cJ cZ cS a_t a_kinds a_costs a_terms a_known v_size v_list v_told)) fx h [0] rfl rfl rfl rfl (q_runV fx h hl.1 [0] rfl rfl (tX0_lists l D cI cJ cZ cS tb a_t a_kinds a_costs a_terms a_known H.size v_size v_list v_told r4 k4 hg) mvX0_lists k_350 ⟨rfl, rfl⟩ ⟨Nat.le_of_ble_eq_true rfl, Nat.le_of_ble_eq_true rfl⟩ rfl rfl rfl rfl (Nat.le_of_ble_eq_true rfl) dX0_settledAs_8 ⟨Nat.le_of_ble_eq_true rfl, Nat.le_of_ble_eq_true rfl⟩) (fun H locs h => ?_)
  refine lv_icmp_ge (tgt := 44) hx hb dX0_settledAs_11 (by decide) (fun c5 => ?_) (fun c5 => ?_)
  · have hf := it_t c5 hf
    refine lv_iload_n hx hb dX0_settledAs_44 rfl (lv_at hl 3 rfl) ?_
    exact q_reti (fun k : (Nat → Int32) => (wX0_settledAs cI cJ cZ cS a_t a_kinds a_costs a_terms a_known v_size v_list v_told v_kinds v_terms k)) fx hf h dX0_settledAs_45
  have hf := it_f c5 hf
  refine lv_iload_n hx hb dX0_settledAs_14 rfl (lv_at hl 3 rfl) ?_
  refine lv_aload_n hx hb dX0_settledAs_15 rfl (lv_at hl 0 rfl) ?_
  refine lv_iload_n hx hb dX0_settledAs_16 rfl (lv_at hl 1 rfl) ?_
  refine lv_iload_n hx hb dX0_settledAs_17 rfl (lv_at hl 2 rfl) ?_
  refine lv_iload hx hb dX0_settledAs_18 (lv_at hl 4 rfl) ?_
  obtain ⟨r6, k6, hg, hf⟩ := bR_inv hf
  refine q_ci (rest := [.int y3]) (ws' := (wX0_settledAs cI cJ cZ cS a_t a_kinds a_costs a_terms a_known v_size v_list v_told v_kinds v_terms k6)) (w1 := (wX0_comersAs cI cJ cZ cS a_t a_kinds a_costs a_terms a_known v_size v_list v_told v_kinds v_terms k6)) fx h [0, 1, 2, 3] rfl rfl rfl rfl (q_runV fx h hl.1 [0, 1, 2, 3] rfl rfl (tX0_comersAs l D cI cJ cZ cS tb a_t a_kinds a_costs a_terms a_known H.size v_size v_list v_told v_kinds v_terms v_known y1 y2 y4 r6 k6 hg) mvX0_comersAs k_528 ⟨rfl, rfl⟩ ⟨Nat.le_of_ble_eq_true rfl, Nat.le_of_ble_eq_true rfl⟩ rfl rfl rfl rfl (Nat.le_of_ble_eq_true rfl) dX0_settledAs_20 ⟨Nat.le_of_ble_eq_true rfl, Nat.le_of_ble_eq_true rfl⟩) (fun H locs h => ?_)
  refine lv_iload hx hb dX0_settledAs_23 (lv_at hl 4 rfl) ?_
  refine lv_icmp_ne (tgt := 32) hx hb dX0_settledAs_25 (by decide) (fun c7 => ?_) (fun c7 => ?_)
  · have hf := it_f c7 hf
    refine lv_iconst (v := 0) hx hb dX0_settledAs_32 (by decide) ?_
    exact LX0_settledAs_33 fx hag5 h (lv_sub hl [0, 1, 2, 4] rfl) hf
  have hf := it_t c7 hf
  refine lv_iconst (v := 1) hx hb dX0_settledAs_28 (by decide) ?_
  refine lv_goto (tgt := 33) hx hb dX0_settledAs_29 (by decide) ?_
  exact LX0_settledAs_33 fx hag5 h (lv_sub hl [0, 1, 2, 4] rfl) hf
set_option maxRecDepth 100000 in
theorem EX0_settledAs_5 {p : Program} {l : Launch} {e : Env} {s : State} {m : MethodId} {args : Array Value} {below : List Frame} {meth : Method} {c : Code} {D : va_G} {cI cJ cZ cS : ClassId} {tb : Nat} {A : Nat → Prop} {a_t a_kinds a_costs a_terms a_known : Nat} {v_size : Int32} {v_list : Int32} {v_told : Int32} {v_kinds : Nat → Int32} {v_terms : Nat → Int64} {rr : Int32} {kk' : (Nat → Int32)} (fx : q_Fx p s m args meth c cX0_settledAs 5 RX0 (some .int) D cI cJ cZ cS tb A) : ∀ (n : Nat), ∀ {v_known : Nat → Int32} {y1 : Int32} {y2 : Int32} {y3 : Int32} {y4 : Int32} {H : Heap} {locs : List Loc} {ls : Array Slot}, q_H D A s (wX0_settledAs cI cJ cZ cS a_t a_kinds a_costs a_terms a_known v_size v_list v_told v_kinds v_terms v_known) H locs → lv_has ls 5 [(0, .ref a_t), (1, .int y1), (2, .int y2), (3, .int y3), (4, .int y4)] → ll5 (fX0_settledAs_5 v_size v_kinds v_terms) n v_known y1 y2 y3 y4 = some (rr, kk') → W p l e rX0_settledAs s m args below meth c H locs 0 0 (MQ below (q_Ri D rr A ((fun k : (Nat → Int32) => (wX0_settledAs cI cJ cZ cS a_t a_kinds a_costs a_terms a_known v_size v_list v_told v_kinds v_terms k)) kk')) args s 0 0 A) (F0 m 5 ls []) := by
  intro n
  induction n with
  | zero => intro v_known y1 y2 y3 y4 H locs ls h hl hf; exact (ll5_z hf).elim
  | succ n ih => intro v_known y1 y2 y3 y4 H locs ls h hl hf; exact LX0_settledAs_5 fx ih h hl (ll5_s hf)
def fX0_settledAs (v_size : Int32) (v_kinds : Nat → Int32) (v_terms : Nat → Int64) (v_known : Nat → Int32) (x1 : Int32) (x2 : Int32) : Option (Int32 × (Nat → Int32)) :=
  ll5 (fX0_settledAs_5 v_size v_kinds v_terms) qF v_known x1 x2 0 0
set_option maxRecDepth 100000 in
set_option maxHeartbeats 4000000 in
theorem tX0_settledAs (l : Launch) (D : va_G) (cI cJ cZ cS : ClassId) (tb : Nat) (a_t a_kinds a_costs a_terms a_known : Nat) (sz : Nat) (v_size : Int32) (v_list : Int32) (v_told : Int32) (v_kinds : Nat → Int32) (v_terms : Nat → Int64) (v_known : Nat → Int32) (x1 : Int32) (x2 : Int32) (rr : Int32) (kk' : (Nat → Int32)) (hf : fX0_settledAs v_size v_kinds v_terms v_known x1 x2 = some (rr, kk')) : Met l yX0_settledAs (Cond.code yX0_settledAs cX0_settledAs 5 (some .int) :: wA) rX0_settledAs (q_Pre D cI cJ cZ cS tb [.ref a_t, .int x1, .int x2] sz (wX0_settledAs cI cJ cZ cS a_t a_kinds a_costs a_terms a_known v_size v_list v_told v_kinds v_terms v_known)) (q_Ri D rr (va_A (wX0_settledAs cI cJ cZ cS a_t a_kinds a_costs a_terms a_known v_size v_list v_told v_kinds v_terms v_known) sz) ((fun k : (Nat → Int32) => (wX0_settledAs cI cJ cZ cS a_t a_kinds a_costs a_terms a_known v_size v_list v_told v_kinds v_terms k)) kk')) 0 0 (va_A (wX0_settledAs cI cJ cZ cS a_t a_kinds a_costs a_terms a_known v_size v_list v_told v_kinds v_terms v_known) sz) := by
  refine q_enter (Qf := fun A => (q_Ri D rr A ((fun k : (Nat → Int32) => (wX0_settledAs cI cJ cZ cS a_t a_kinds a_costs a_terms a_known v_size v_list v_told v_kinds v_terms k)) kk'))) (by decide) rfl (Nat.le_of_ble_eq_true rfl) ?_
  intro p e s m below meth c A ls fx hname h hl
  have hx := fx.1
  have hb := fx.2.1
  have hl : lv_has ls 5 [(0, .ref a_t), (1, .int x1), (2, .int x2)] := hl
  generalize h9 : s.heap = H at h ⊢
  clear h9
  generalize h9 : ([] : List Loc) = locs at h ⊢
  clear h9
  unfold fX0_settledAs at hf
  refine lv_iconst (v := 0) hx hb dX0_settledAs_0 (by decide) ?_
  refine lv_istore_n (lv' := [(3, .int 0), (0, .ref a_t), (1, .int x1), (2, .int x2)]) hx hb dX0_settledAs_1 rfl hl (by decide) rfl (fun ls hl => ?_)
  refine lv_iconst (v := 0) hx hb dX0_settledAs_2 (by decide) ?_
  refine lv_istore (lv' := [(4, .int 0), (3, .int 0), (0, .ref a_t), (1, .int x1), (2, .int x2)]) hx hb dX0_settledAs_3 hl (by decide) rfl (fun ls hl => ?_)
  exact EX0_settledAs_5 fx qF h (lv_sub hl [2, 3, 4, 1, 0] rfl) hf
/-! X4_kind -/
abbrev wX4_kind (cI cJ cZ cS : ClassId) (a_t a_party a_party_kinds a_party_costs a_party_terms a_party_known a_kept a_tape a_telephone a_sheets a_findings : Nat) (v_isKept : Int32) (v_party_size : Int32) (v_party_list : Int32) (v_party_told : Int32) (v_party_kinds : Nat → Int32) (v_party_terms : Nat → Int64) (v_party_known : Nat → Int32) (v_findings : Nat → Int32) : va_W := [(a_t, .inr (4, [.ref a_party, .ref a_kept, .int v_isKept, .ref a_tape, .ref a_telephone, .ref a_sheets, .ref a_findings])), (a_party, .inr (0, [.int v_party_size, .int v_party_list, .int v_party_told, .ref a_party_kinds, .ref a_party_costs, .ref a_party_terms, .ref a_party_known])), (a_party_kinds, .inl (cI, 8, .inl v_party_kinds)), (a_party_terms, .inl (cJ, 32, .inr (.inl v_party_terms))), (a_party_known, .inl (cI, 256, .inl v_party_known)), (a_findings, .inl (cI, 7, .inl v_findings))]
abbrev rX4_kind : Room := { frames := 6, cells := 0, slots := 0, locals := 138 }
def fX4_kind_56 (v_party_size : Int32) (v_party_kinds : Nat → Int32) (v_party_terms : Nat → Int64) (ag25 : (Nat → Int32) → (Nat → Int32) → Int32 → Int32 → Int32 → Int32 → Option (Int32 × (Nat → Int32) × (Nat → Int32))) (v_party_known : Nat → Int32) (v_findings : Nat → Int32) (y1 : Int32) (y2 : Int32) (y3 : Int32) (y4 : Int32) : Option (Int32 × (Nat → Int32) × (Nat → Int32)) :=
  nm (y4 + 1) (fun u1 =>
  ag25 v_party_known v_findings y1 y2 y3 u1)
set_option maxRecDepth 100000 in
set_option maxHeartbeats 4000000 in
theorem LX4_kind_56 {p : Program} {l : Launch} {e : Env} {s : State} {m : MethodId} {args : Array Value} {below : List Frame} {meth : Method} {c : Code} {D : va_G} {cI cJ cZ cS : ClassId} {tb : Nat} {A : Nat → Prop} {a_t a_party a_party_kinds a_party_costs a_party_terms a_party_known a_kept a_tape a_telephone a_sheets a_findings : Nat} {v_isKept : Int32} {v_party_size : Int32} {v_party_list : Int32} {v_party_told : Int32} {v_party_kinds : Nat → Int32} {v_party_terms : Nat → Int64} {rr : Int32} {kk' : (Nat → Int32) × (Nat → Int32)} (fx : q_Fx p s m args meth c cX4_kind 6 RX4 (some .int) D cI cJ cZ cS tb A) {ag25 : (Nat → Int32) → (Nat → Int32) → Int32 → Int32 → Int32 → Int32 → Option (Int32 × (Nat → Int32) × (Nat → Int32))} (hag25 : ∀ {v_party_known : Nat → Int32} {v_findings : Nat → Int32} {y1 : Int32} {y2 : Int32} {y3 : Int32} {y4 : Int32} {H : Heap} {locs : List Loc} {ls : Array Slot}, q_H D A s (wX4_kind cI cJ cZ cS a_t a_party a_party_kinds a_party_costs a_party_terms a_party_known a_kept a_tape a_telephone a_sheets a_findings v_isKept v_party_size v_party_list v_party_told v_party_kinds v_party_terms v_party_known v_findings) H locs → lv_has ls 6 [(0, .ref a_t), (1, .int y1), (2, .int y2), (3, .int y3), (4, .int y4)] → ag25 v_party_known v_findings y1 y2 y3 y4 = some (rr, kk') → W p l e rX4_kind s m args below meth c H locs 0 0 (MQ below (q_Ri D rr A ((fun k : (Nat → Int32) × (Nat → Int32) => (wX4_kind cI cJ cZ cS a_t a_party a_party_kinds a_party_costs a_party_terms a_party_known a_kept a_tape a_telephone a_sheets a_findings v_isKept v_party_size v_party_list v_party_told v_party_kinds v_party_terms k.1 k.2)) kk')) args s 0 0 A) (F0 m 25 ls [])) : ∀ {v_party_known : Nat → Int32} {v_findings : Nat → Int32} {y1 : Int32} {y2 : Int32} {y3 : Int32} {y4 : Int32} {H : Heap} {locs : List Loc} {ls : Array Slot}, q_H D A s (wX4_kind cI cJ cZ cS a_t a_party a_party_kinds a_party_costs a_party_terms a_party_known a_kept a_tape a_telephone a_sheets a_findings v_isKept v_party_size v_party_list v_party_told v_party_kinds v_party_terms v_party_known v_findings) H locs → lv_has ls 6 [(0, .ref a_t), (1, .int y1), (2, .int y2), (3, .int y3), (4, .int y4)] → fX4_kind_56 v_party_size v_party_kinds v_party_terms ag25 v_party_known v_findings y1 y2 y3 y4 = some (rr, kk') → W p l e rX4_kind s m args below meth c H locs 0 0 (MQ below (q_Ri D rr A ((fun k : (Nat → Int32) × (Nat → Int32) => (wX4_kind cI cJ cZ cS a_t a_party a_party_kinds a_party_costs a_party_terms a_party_known a_kept a_tape a_telephone a_sheets a_findings v_isKept v_party_size v_party_list v_party_told v_party_kinds v_party_terms k.1 k.2)) kk')) args s 0 0 A) (F0 m 56 ls []) := by
  intro v_party_known v_findings y1 y2 y3 y4 H locs ls h hl hf
  have hx := fx.1
  have hb := fx.2.1
  unfold fX4_kind_56 at hf
  obtain ⟨u1, eu1, hf⟩ := nm_inv hf
  refine lv_iinc (v := u1) (lv' := [(4, .int u1), (0, .ref a_t), (1, .int y1), (2, .int y2), (3, .int y3)]) hx hb dX4_kind_56 hl (k := 4) rfl (by rw [eu1]; rfl) (by decide) rfl (fun ls hl => ?_)
  refine lv_goto (tgt := 25) hx hb dX4_kind_59 (by decide) ?_
  exact hag25 h (lv_sub hl [1, 2, 3, 4, 0] rfl) hf
def fX4_kind_25 (v_party_size : Int32) (v_party_kinds : Nat → Int32) (v_party_terms : Nat → Int64) (ag25 : (Nat → Int32) → (Nat → Int32) → Int32 → Int32 → Int32 → Int32 → Option (Int32 × (Nat → Int32) × (Nat → Int32))) (v_party_known : Nat → Int32) (v_findings : Nat → Int32) (y1 : Int32) (y2 : Int32) (y3 : Int32) (y4 : Int32) : Option (Int32 × (Nat → Int32) × (Nat → Int32)) :=
  (if (6 : Int32) ≤ y4 then (
  some (y2, (v_party_known, v_findings)))
  else (
  bR (fX0_settledAs v_party_size v_party_kinds v_party_terms v_party_known y1 y4) (fun r3 k3 =>
  (if r3 ≤ y3 then (
  fX4_kind_56 v_party_size v_party_kinds v_party_terms ag25 k3 v_findings y1 y2 y3 y4)
  else (
  fX4_kind_56 v_party_size v_party_kinds v_party_terms ag25 k3 v_findings y1 y4 r3 y4)))))
set_option maxRecDepth 100000 in
set_option maxHeartbeats 4000000 in
theorem LX4_kind_25 {p : Program} {l : Launch} {e : Env} {s : State} {m : MethodId} {args : Array Value} {below : List Frame} {meth : Method} {c : Code} {D : va_G} {cI cJ cZ cS : ClassId} {tb : Nat} {A : Nat → Prop} {a_t a_party a_party_kinds a_party_costs a_party_terms a_party_known a_kept a_tape a_telephone a_sheets a_findings : Nat} {v_isKept : Int32} {v_party_size : Int32} {v_party_list : Int32} {v_party_told : Int32} {v_party_kinds : Nat → Int32} {v_party_terms : Nat → Int64} {rr : Int32} {kk' : (Nat → Int32) × (Nat → Int32)} (fx : q_Fx p s m args meth c cX4_kind 6 RX4 (some .int) D cI cJ cZ cS tb A) {ag25 : (Nat → Int32) → (Nat → Int32) → Int32 → Int32 → Int32 → Int32 → Option (Int32 × (Nat → Int32) × (Nat → Int32))} (hag25 : ∀ {v_party_known : Nat → Int32} {v_findings : Nat → Int32} {y1 : Int32} {y2 : Int32} {y3 : Int32} {y4 : Int32} {H : Heap} {locs : List Loc} {ls : Array Slot}, q_H D A s (wX4_kind cI cJ cZ cS a_t a_party a_party_kinds a_party_costs a_party_terms a_party_known a_kept a_tape a_telephone a_sheets a_findings v_isKept v_party_size v_party_list v_party_told v_party_kinds v_party_terms v_party_known v_findings) H locs → lv_has ls 6 [(0, .ref a_t), (1, .int y1), (2, .int y2), (3, .int y3), (4, .int y4)] → ag25 v_party_known v_findings y1 y2 y3 y4 = some (rr, kk') → W p l e rX4_kind s m args below meth c H locs 0 0 (MQ below (q_Ri D rr A ((fun k : (Nat → Int32) × (Nat → Int32) => (wX4_kind cI cJ cZ cS a_t a_party a_party_kinds a_party_costs a_party_terms a_party_known a_kept a_tape a_telephone a_sheets a_findings v_isKept v_party_size v_party_list v_party_told v_party_kinds v_party_terms k.1 k.2)) kk')) args s 0 0 A) (F0 m 25 ls [])) : ∀ {v_party_known : Nat → Int32} {v_findings : Nat → Int32} {y1 : Int32} {y2 : Int32} {y3 : Int32} {y4 : Int32} {H : Heap} {locs : List Loc} {ls : Array Slot}, q_H D A s (wX4_kind cI cJ cZ cS a_t a_party a_party_kinds a_party_costs a_party_terms a_party_known a_kept a_tape a_telephone a_sheets a_findings v_isKept v_party_size v_party_list v_party_told v_party_kinds v_party_terms v_party_known v_findings) H locs → lv_has ls 6 [(0, .ref a_t), (1, .int y1), (2, .int y2), (3, .int y3), (4, .int y4)] → fX4_kind_25 v_party_size v_party_kinds v_party_terms ag25 v_party_known v_findings y1 y2 y3 y4 = some (rr, kk') → W p l e rX4_kind s m args below meth c H locs 0 0 (MQ below (q_Ri D rr A ((fun k : (Nat → Int32) × (Nat → Int32) => (wX4_kind cI cJ cZ cS a_t a_party a_party_kinds a_party_costs a_party_terms a_party_known a_kept a_tape a_telephone a_sheets a_findings v_isKept v_party_size v_party_list v_party_told v_party_kinds v_party_terms k.1 k.2)) kk')) args s 0 0 A) (F0 m 25 ls []) := by
  intro v_party_known v_findings y1 y2 y3 y4 H locs ls h hl hf
  have hx := fx.1
  have hb := fx.2.1
  unfold fX4_kind_25 at hf
  refine lv_iload hx hb dX4_kind_25 (lv_at hl 4 rfl) ?_
  refine lv_bipush (v := 6) hx hb dX4_kind_27 (by decide) ?_
  refine lv_icmp_ge (tgt := 62) hx hb dX4_kind_29 (by decide) (fun c2 => ?_) (fun c2 => ?_)
  · have hf := it_t c2 hf
    refine lv_iload_n hx hb dX4_kind_62 rfl (lv_at hl 2 rfl) ?_
    exact q_reti (fun k : (Nat → Int32) × (Nat → Int32) => (wX4_kind cI cJ cZ cS a_t a_party a_party_kinds a_party_costs a_party_terms a_party_known a_kept a_tape a_telephone a_sheets a_findings v_isKept v_party_size v_party_list v_party_told v_party_kinds v_party_terms k.1 k.2)) fx hf h dX4_kind_63
  have hf := it_f c2 hf
  refine lv_aload_n hx hb dX4_kind_32 rfl (lv_at hl 0 rfl) ?_
  refine q_get (v := .ref a_party) fx inX4 h 0 rfl rfl 0 (by decide) k_174 rfl dX4_kind_33 ?_
  refine lv_iload_n hx hb dX4_kind_36 rfl (lv_at hl 1 rfl) ?_
  refine lv_iload hx hb dX4_kind_37 (lv_at hl 4 rfl) ?_
  obtain ⟨r3, k3, hg, hf⟩ := bR_inv hf
  refine q_ci (rest := []) (ws' := (wX4_kind cI cJ cZ cS a_t a_party a_party_kinds a_party_costs a_party_terms a_party_known a_kept a_tape a_telephone a_sheets a_findings v_isKept v_party_size v_party_list v_party_told v_party_kinds v_party_terms k3 v_findings)) (w1 := (wX0_settledAs cI cJ cZ cS a_party a_party_kinds a_party_costs a_party_terms a_party_known v_party_size v_party_list v_party_told v_party_kinds v_party_terms k3)) fx h [1, 2, 3, 4] rfl rfl rfl rfl (q_runV fx h hl.1 [1, 2, 3, 4] rfl rfl (tX0_settledAs l D cI cJ cZ cS tb a_party a_party_kinds a_party_costs a_party_terms a_party_known H.size v_party_size v_party_list v_party_told v_party_kinds v_party_terms v_party_known y1 y4 r3 k3 hg) mvX0_settledAs k_524 ⟨rfl, rfl⟩ ⟨Nat.le_of_ble_eq_true rfl, Nat.le_of_ble_eq_true rfl⟩ rfl rfl rfl rfl (Nat.le_of_ble_eq_true rfl) dX4_kind_39 ⟨Nat.le_of_ble_eq_true rfl, Nat.le_of_ble_eq_true rfl⟩) (fun H locs h => ?_)
  refine lv_istore (lv' := [(5, .int r3), (0, .ref a_t), (1, .int y1), (2, .int y2), (3, .int y3), (4, .int y4)]) hx hb dX4_kind_42 hl (by decide) rfl (fun ls hl => ?_)
  refine lv_iload hx hb dX4_kind_44 (lv_at hl 0 rfl) ?_
  refine lv_iload_n hx hb dX4_kind_46 rfl (lv_at hl 4 rfl) ?_
  refine lv_icmp_le (tgt := 56) hx hb dX4_kind_47 (by decide) (fun c4 => ?_) (fun c4 => ?_)
  · have hf := it_t c4 hf
    exact LX4_kind_56 fx hag25 h (lv_sub hl [1, 2, 3, 4, 5] rfl) hf
  have hf := it_f c4 hf
  refine lv_iload hx hb dX4_kind_50 (lv_at hl 0 rfl) ?_
  refine lv_istore_n (lv' := [(3, .int r3), (5, .int r3), (0, .ref a_t), (1, .int y1), (2, .int y2), (4, .int y4)]) hx hb dX4_kind_52 rfl hl (by decide) rfl (fun ls hl => ?_)
  refine lv_iload hx hb dX4_kind_53 (lv_at hl 5 rfl) ?_
  refine lv_istore_n (lv' := [(2, .int y4), (3, .int r3), (5, .int r3), (0, .ref a_t), (1, .int y1), (4, .int y4)]) hx hb dX4_kind_55 rfl hl (by decide) rfl (fun ls hl => ?_)
  exact LX4_kind_56 fx hag25 h (lv_sub hl [3, 4, 0, 1, 5] rfl) hf
set_option maxRecDepth 100000 in
theorem EX4_kind_25 {p : Program} {l : Launch} {e : Env} {s : State} {m : MethodId} {args : Array Value} {below : List Frame} {meth : Method} {c : Code} {D : va_G} {cI cJ cZ cS : ClassId} {tb : Nat} {A : Nat → Prop} {a_t a_party a_party_kinds a_party_costs a_party_terms a_party_known a_kept a_tape a_telephone a_sheets a_findings : Nat} {v_isKept : Int32} {v_party_size : Int32} {v_party_list : Int32} {v_party_told : Int32} {v_party_kinds : Nat → Int32} {v_party_terms : Nat → Int64} {rr : Int32} {kk' : (Nat → Int32) × (Nat → Int32)} (fx : q_Fx p s m args meth c cX4_kind 6 RX4 (some .int) D cI cJ cZ cS tb A) : ∀ (n : Nat), ∀ {v_party_known : Nat → Int32} {v_findings : Nat → Int32} {y1 : Int32} {y2 : Int32} {y3 : Int32} {y4 : Int32} {H : Heap} {locs : List Loc} {ls : Array Slot}, q_H D A s (wX4_kind cI cJ cZ cS a_t a_party a_party_kinds a_party_costs a_party_terms a_party_known a_kept a_tape a_telephone a_sheets a_findings v_isKept v_party_size v_party_list v_party_told v_party_kinds v_party_terms v_party_known v_findings) H locs → lv_has ls 6 [(0, .ref a_t), (1, .int y1), (2, .int y2), (3, .int y3), (4, .int y4)] → ll6 (fX4_kind_25 v_party_size v_party_kinds v_party_terms) n v_party_known v_findings y1 y2 y3 y4 = some (rr, kk') → W p l e rX4_kind s m args below meth c H locs 0 0 (MQ below (q_Ri D rr A ((fun k : (Nat → Int32) × (Nat → Int32) => (wX4_kind cI cJ cZ cS a_t a_party a_party_kinds a_party_costs a_party_terms a_party_known a_kept a_tape a_telephone a_sheets a_findings v_isKept v_party_size v_party_list v_party_told v_party_kinds v_party_terms k.1 k.2)) kk')) args s 0 0 A) (F0 m 25 ls []) := by
  intro n
  induction n with
  | zero => intro v_party_known v_findings y1 y2 y3 y4 H locs ls h hl hf; exact (ll6_z hf).elim
  | succ n ih => intro v_party_known v_findings y1 y2 y3 y4 H locs ls h hl hf; exact LX4_kind_25 fx ih h hl (ll6_s hf)
def fX4_kind (v_party_size : Int32) (v_party_kinds : Nat → Int32) (v_party_terms : Nat → Int64) (v_party_known : Nat → Int32) (v_findings : Nat → Int32) (x1 : Int32) : Option (Int32 × (Nat → Int32) × (Nat → Int32)) :=
  bR (fX0_has v_party_size x1) (fun r5 k5 =>
  (if r5 = 0 then (
  bR (fX4_found v_findings (-1000000001)) (fun r7 k7 =>
  some (r7, (v_party_known, k7))))
  else (
  ll6 (fX4_kind_25 v_party_size v_party_kinds v_party_terms) qF v_party_known v_findings x1 0 (-1) 0)))
set_option maxRecDepth 100000 in
set_option maxHeartbeats 4000000 in
theorem tX4_kind (l : Launch) (D : va_G) (cI cJ cZ cS : ClassId) (tb : Nat) (a_t a_party a_party_kinds a_party_costs a_party_terms a_party_known a_kept a_tape a_telephone a_sheets a_findings : Nat) (sz : Nat) (v_isKept : Int32) (v_party_size : Int32) (v_party_list : Int32) (v_party_told : Int32) (v_party_kinds : Nat → Int32) (v_party_terms : Nat → Int64) (v_party_known : Nat → Int32) (v_findings : Nat → Int32) (x1 : Int32) (rr : Int32) (kk' : (Nat → Int32) × (Nat → Int32)) (hf : fX4_kind v_party_size v_party_kinds v_party_terms v_party_known v_findings x1 = some (rr, kk')) : Met l yX4_kind (Cond.code yX4_kind cX4_kind 6 (some .int) :: wA) rX4_kind (q_Pre D cI cJ cZ cS tb [.ref a_t, .int x1] sz (wX4_kind cI cJ cZ cS a_t a_party a_party_kinds a_party_costs a_party_terms a_party_known a_kept a_tape a_telephone a_sheets a_findings v_isKept v_party_size v_party_list v_party_told v_party_kinds v_party_terms v_party_known v_findings)) (q_Ri D rr (va_A (wX4_kind cI cJ cZ cS a_t a_party a_party_kinds a_party_costs a_party_terms a_party_known a_kept a_tape a_telephone a_sheets a_findings v_isKept v_party_size v_party_list v_party_told v_party_kinds v_party_terms v_party_known v_findings) sz) ((fun k : (Nat → Int32) × (Nat → Int32) => (wX4_kind cI cJ cZ cS a_t a_party a_party_kinds a_party_costs a_party_terms a_party_known a_kept a_tape a_telephone a_sheets a_findings v_isKept v_party_size v_party_list v_party_told v_party_kinds v_party_terms k.1 k.2)) kk')) 0 0 (va_A (wX4_kind cI cJ cZ cS a_t a_party a_party_kinds a_party_costs a_party_terms a_party_known a_kept a_tape a_telephone a_sheets a_findings v_isKept v_party_size v_party_list v_party_told v_party_kinds v_party_terms v_party_known v_findings) sz) := by
  refine q_enter (Qf := fun A => (q_Ri D rr A ((fun k : (Nat → Int32) × (Nat → Int32) => (wX4_kind cI cJ cZ cS a_t a_party a_party_kinds a_party_costs a_party_terms a_party_known a_kept a_tape a_telephone a_sheets a_findings v_isKept v_party_size v_party_list v_party_told v_party_kinds v_party_terms k.1 k.2)) kk'))) (by decide) rfl (Nat.le_of_ble_eq_true rfl) ?_
  intro p e s m below meth c A ls fx hname h hl
  have hx := fx.1
  have hb := fx.2.1
  have hl : lv_has ls 6 [(0, .ref a_t), (1, .int x1)] := hl
  generalize h9 : s.heap = H at h ⊢
  clear h9
  generalize h9 : ([] : List Loc) = locs at h ⊢
  clear h9
  unfold fX4_kind at hf
  refine lv_aload_n hx hb dX4_kind_0 rfl (lv_at hl 0 rfl) ?_
  refine q_get (v := .ref a_party) fx inX4 h 0 rfl rfl 0 (by decide) k_174 rfl dX4_kind_1 ?_
  refine lv_iload_n hx hb dX4_kind_4 rfl (lv_at hl 1 rfl) ?_
  obtain ⟨r5, k5, hg, hf⟩ := bR_inv hf
  refine q_ci (rest := []) (ws' := (wX4_kind cI cJ cZ cS a_t a_party a_party_kinds a_party_costs a_party_terms a_party_known a_kept a_tape a_telephone a_sheets a_findings v_isKept v_party_size v_party_list v_party_told v_party_kinds v_party_terms v_party_known v_findings)) (w1 := (wX0_has cI cJ cZ cS a_party a_party_kinds a_party_costs a_party_terms a_party_known v_party_size v_party_list v_party_told)) fx h [1] rfl rfl rfl rfl (q_runV fx h hl.1 [1] rfl rfl (tX0_has l D cI cJ cZ cS tb a_party a_party_kinds a_party_costs a_party_terms a_party_known H.size v_party_size v_party_list v_party_told x1 r5 k5 hg) mvX0_has k_220 ⟨rfl, rfl⟩ ⟨Nat.le_of_ble_eq_true rfl, Nat.le_of_ble_eq_true rfl⟩ rfl rfl rfl rfl (Nat.le_of_ble_eq_true rfl) dX4_kind_5 ⟨Nat.le_of_ble_eq_true rfl, Nat.le_of_ble_eq_true rfl⟩) (fun H locs h => ?_)
  refine lv_if_ne (tgt := 18) hx hb dX4_kind_8 (by decide) (fun c6 => ?_) (fun c6 => ?_)
  · have hf := it_f c6 hf
    refine lv_iconst (v := 0) hx hb dX4_kind_18 (by decide) ?_
    refine lv_istore_n (lv' := [(2, .int 0), (0, .ref a_t), (1, .int x1)]) hx hb dX4_kind_19 rfl hl (by decide) rfl (fun ls hl => ?_)
    refine lv_iconst (v := -1) hx hb dX4_kind_20 (by decide) ?_
    refine lv_istore_n (lv' := [(3, .int (-1)), (2, .int 0), (0, .ref a_t), (1, .int x1)]) hx hb dX4_kind_21 rfl hl (by decide) rfl (fun ls hl => ?_)
    refine lv_iconst (v := 0) hx hb dX4_kind_22 (by decide) ?_
    refine lv_istore (lv' := [(4, .int 0), (3, .int (-1)), (2, .int 0), (0, .ref a_t), (1, .int x1)]) hx hb dX4_kind_23 hl (by decide) rfl (fun ls hl => ?_)
    exact EX4_kind_25 fx qF h (lv_sub hl [3, 4, 2, 1, 0] rfl) hf
  have hf := it_t c6 hf
  refine lv_aload_n hx hb dX4_kind_11 rfl (lv_at hl 0 rfl) ?_
  refine q_ldc fx k_206 dX4_kind_12 ?_
  obtain ⟨r7, k7, hg, hf⟩ := bR_inv hf
  refine q_ci (rest := []) (ws' := (wX4_kind cI cJ cZ cS a_t a_party a_party_kinds a_party_costs a_party_terms a_party_known a_kept a_tape a_telephone a_sheets a_findings v_isKept v_party_size v_party_list v_party_told v_party_kinds v_party_terms v_party_known k7)) (w1 := (wX4_found cI cJ cZ cS a_t a_party a_kept a_tape a_telephone a_sheets a_findings v_isKept k7)) fx h [0, 5] rfl rfl rfl rfl (q_runV fx h hl.1 [0, 5] rfl rfl (tX4_found l D cI cJ cZ cS tb a_t a_party a_kept a_tape a_telephone a_sheets a_findings H.size v_isKept v_findings (-1000000001) r7 k7 hg) mvX4_found k_207 ⟨rfl, rfl⟩ ⟨Nat.le_of_ble_eq_true rfl, Nat.le_of_ble_eq_true rfl⟩ rfl rfl rfl rfl (Nat.le_of_ble_eq_true rfl) dX4_kind_14 ⟨Nat.le_of_ble_eq_true rfl, Nat.le_of_ble_eq_true rfl⟩) (fun H locs h => ?_)
  exact q_reti (fun k : (Nat → Int32) × (Nat → Int32) => (wX4_kind cI cJ cZ cS a_t a_party a_party_kinds a_party_costs a_party_terms a_party_known a_kept a_tape a_telephone a_sheets a_findings v_isKept v_party_size v_party_list v_party_told v_party_kinds v_party_terms k.1 k.2)) fx hf h dX4_kind_17
/-! X4_isSheet -/
abbrev wX4_isSheet (cI cJ cZ cS : ClassId) : va_W := []
abbrev rX4_isSheet : Room := { frames := 0, cells := 0, slots := 0, locals := 0 }
def fX4_isSheet (x0 : Int32) : Option (Int32 × Unit) :=
  (if x0 < 0 then (
  some (0, ()))
  else (
  (if (4 : Int32) ≤ x0 then (
  some (0, ()))
  else (
  some (1, ())))))
set_option maxRecDepth 100000 in
set_option maxHeartbeats 4000000 in
theorem tX4_isSheet (l : Launch) (D : va_G) (cI cJ cZ cS : ClassId) (tb : Nat) (sz : Nat) (x0 : Int32) (rr : Int32) (kk' : Unit) (hf : fX4_isSheet x0 = some (rr, kk')) : Met l yX4_isSheet (Cond.code yX4_isSheet cX4_isSheet 1 (some .boolean) :: wA) rX4_isSheet (q_Pre D cI cJ cZ cS tb [.int x0] sz (wX4_isSheet cI cJ cZ cS)) (q_Ri D rr (va_A (wX4_isSheet cI cJ cZ cS) sz) ((fun k : Unit => (wX4_isSheet cI cJ cZ cS)) kk')) 0 0 (va_A (wX4_isSheet cI cJ cZ cS) sz) := by
  refine q_enter (Qf := fun A => (q_Ri D rr A ((fun k : Unit => (wX4_isSheet cI cJ cZ cS)) kk'))) (by decide) rfl (Nat.le_of_ble_eq_true rfl) ?_
  intro p e s m below meth c A ls fx hname h hl
  have hx := fx.1
  have hb := fx.2.1
  have hl : lv_has ls 1 [(0, .int x0)] := hl
  generalize h9 : s.heap = H at h ⊢
  clear h9
  generalize h9 : ([] : List Loc) = locs at h ⊢
  clear h9
  unfold fX4_isSheet at hf
  refine lv_iload_n hx hb dX4_isSheet_0 rfl (lv_at hl 0 rfl) ?_
  refine lv_if_lt (tgt := 13) hx hb dX4_isSheet_1 (by decide) (fun c1 => ?_) (fun c1 => ?_)
  · have hf := it_t c1 hf
    refine lv_iconst (v := 0) hx hb dX4_isSheet_13 (by decide) ?_
    exact q_retz (fun k : Unit => (wX4_isSheet cI cJ cZ cS)) fx rfl hf h dX4_isSheet_14
  have hf := it_f c1 hf
  refine lv_iload_n hx hb dX4_isSheet_4 rfl (lv_at hl 0 rfl) ?_
  refine lv_iconst (v := 4) hx hb dX4_isSheet_5 (by decide) ?_
  refine lv_icmp_ge (tgt := 13) hx hb dX4_isSheet_6 (by decide) (fun c2 => ?_) (fun c2 => ?_)
  · have hf := it_t c2 hf
    refine lv_iconst (v := 0) hx hb dX4_isSheet_13 (by decide) ?_
    exact q_retz (fun k : Unit => (wX4_isSheet cI cJ cZ cS)) fx rfl hf h dX4_isSheet_14
  have hf := it_f c2 hf
  refine lv_iconst (v := 1) hx hb dX4_isSheet_9 (by decide) ?_
  refine lv_goto (tgt := 14) hx hb dX4_isSheet_10 (by decide) ?_
  exact q_retz (fun k : Unit => (wX4_isSheet cI cJ cZ cS)) fx rfl hf h dX4_isSheet_14
/-! X1_lay -/
abbrev wX1_lay (cI cJ cZ cS : ClassId) (a_t a_numbers : Nat) (v_bits : Int32) (v_size : Int32) (v_numbers : Nat → Int64) : va_W := [(a_t, .inr (1, [.int v_bits, .int v_size, .ref a_numbers])), (a_numbers, .inl (cJ, 40, .inr (.inl v_numbers)))]
abbrev rX1_lay : Room := { frames := 1, cells := 0, slots := 0, locals := 24 }
def fX1_lay_15 (v_bits : Int32) (v_size : Int32) (v_numbers : Nat → Int64) (s1 : Int32) : Option (Int32 × Int32 × Int32 × (Nat → Int64)) :=
  bV (fJ7_fill_d0a16 40 v_numbers 0) (fun k1 =>
  some (s1, (v_bits, s1, k1)))
set_option maxRecDepth 100000 in
set_option maxHeartbeats 4000000 in
theorem LX1_lay_15 {p : Program} {l : Launch} {e : Env} {s : State} {m : MethodId} {args : Array Value} {below : List Frame} {meth : Method} {c : Code} {D : va_G} {cI cJ cZ cS : ClassId} {tb : Nat} {A : Nat → Prop} {a_t a_numbers : Nat} {rr : Int32} {kk' : Int32 × Int32 × (Nat → Int64)} (fx : q_Fx p s m args meth c cX1_lay 3 RX1 (some .int) D cI cJ cZ cS tb A) : ∀ {v_bits : Int32} {v_size : Int32} {v_numbers : Nat → Int64} {s1 : Int32} {H : Heap} {locs : List Loc} {ls : Array Slot}, q_H D A s (wX1_lay cI cJ cZ cS a_t a_numbers v_bits v_size v_numbers) H locs → lv_has ls 3 [(0, .ref a_t)] → fX1_lay_15 v_bits v_size v_numbers s1 = some (rr, kk') → W p l e rX1_lay s m args below meth c H locs 0 0 (MQ below (q_Ri D rr A ((fun k : Int32 × Int32 × (Nat → Int64) => (wX1_lay cI cJ cZ cS a_t a_numbers k.1 k.2.1 k.2.2)) kk')) args s 0 0 A) (F0 m 15 ls [.int s1, .ref a_t]) := by
  intro v_bits v_size v_numbers s1 H locs ls h hl hf
  have hx := fx.1
  have hb := fx.2.1
  unfold fX1_lay_15 at hf
  refine q_put (v := .int s1) (ws' := (wX1_lay cI cJ cZ cS a_t a_numbers v_bits s1 v_numbers)) fx inX1 tyX1 tyX1_ok nmX1 h 0 rfl rfl 1 (by decide) k_163 rfl rfl rfl (Nat.le_of_ble_eq_true rfl) rfl dX1_lay_15 (fun H locs h => ?_)
  refine lv_aload_n hx hb dX1_lay_18 rfl (lv_at hl 0 rfl) ?_
  refine q_get (v := .ref a_numbers) fx inX1 h 0 rfl rfl 2 (by decide) k_165 rfl dX1_lay_19 ?_
  refine lv_lconst (v := 0) hx hb dX1_lay_22 (by decide) ?_
  obtain ⟨k1, hg, hf⟩ := bV_inv hf
  refine q_cv (rest := []) (ws' := (wX1_lay cI cJ cZ cS a_t a_numbers v_bits s1 k1)) (w1 := (wJ7_fill_d0a16 cI cJ cZ cS 40 a_numbers k1)) fx h [1] rfl rfl rfl rfl (q_runS fx h hl.1 [1] rfl rfl (tJ7_fill_d0a16 l D cI cJ cZ cS tb 40 a_numbers H.size v_numbers 0 k1 hg) msJ7_fill_d0a16 k_544 ⟨rfl, rfl⟩ ⟨Nat.le_of_ble_eq_true rfl, Nat.le_of_ble_eq_true rfl⟩ rfl rfl (Nat.le_of_ble_eq_true rfl) dX1_lay_23 ⟨Nat.le_of_ble_eq_true rfl, Nat.le_of_ble_eq_true rfl⟩) (fun H locs h => ?_)
  refine lv_aload_n hx hb dX1_lay_26 rfl (lv_at hl 0 rfl) ?_
  refine q_get (v := .int s1) fx inX1 h 0 rfl rfl 1 (by decide) k_163 rfl dX1_lay_27 ?_
  exact q_reti (fun k : Int32 × Int32 × (Nat → Int64) => (wX1_lay cI cJ cZ cS a_t a_numbers k.1 k.2.1 k.2.2)) fx hf h dX1_lay_30
def fX1_lay (v_bits : Int32) (v_size : Int32) (v_numbers : Nat → Int64) (x1 : Int32) (x2 : Int32) : Option (Int32 × Int32 × Int32 × (Nat → Int64)) :=
  (if x1 = 0 then (
  fX1_lay_15  x1 v_size v_numbers 0)
  else (
  fX1_lay_15  x1 v_size v_numbers x2))
set_option maxRecDepth 100000 in
set_option maxHeartbeats 4000000 in
theorem tX1_lay (l : Launch) (D : va_G) (cI cJ cZ cS : ClassId) (tb : Nat) (a_t a_numbers : Nat) (sz : Nat) (v_bits : Int32) (v_size : Int32) (v_numbers : Nat → Int64) (x1 : Int32) (x2 : Int32) (rr : Int32) (kk' : Int32 × Int32 × (Nat → Int64)) (hf : fX1_lay v_bits v_size v_numbers x1 x2 = some (rr, kk')) : Met l yX1_lay (Cond.code yX1_lay cX1_lay 3 (some .int) :: wA) rX1_lay (q_Pre D cI cJ cZ cS tb [.ref a_t, .int x1, .int x2] sz (wX1_lay cI cJ cZ cS a_t a_numbers v_bits v_size v_numbers)) (q_Ri D rr (va_A (wX1_lay cI cJ cZ cS a_t a_numbers v_bits v_size v_numbers) sz) ((fun k : Int32 × Int32 × (Nat → Int64) => (wX1_lay cI cJ cZ cS a_t a_numbers k.1 k.2.1 k.2.2)) kk')) 0 0 (va_A (wX1_lay cI cJ cZ cS a_t a_numbers v_bits v_size v_numbers) sz) := by
  refine q_enter (Qf := fun A => (q_Ri D rr A ((fun k : Int32 × Int32 × (Nat → Int64) => (wX1_lay cI cJ cZ cS a_t a_numbers k.1 k.2.1 k.2.2)) kk'))) (by decide) rfl (Nat.le_of_ble_eq_true rfl) ?_
  intro p e s m below meth c A ls fx hname h hl
  have hx := fx.1
  have hb := fx.2.1
  have hl : lv_has ls 3 [(0, .ref a_t), (1, .int x1), (2, .int x2)] := hl
  generalize h9 : s.heap = H at h ⊢
  clear h9
  generalize h9 : ([] : List Loc) = locs at h ⊢
  clear h9
  unfold fX1_lay at hf
  refine lv_aload_n hx hb dX1_lay_0 rfl (lv_at hl 0 rfl) ?_
  refine lv_iload_n hx hb dX1_lay_1 rfl (lv_at hl 1 rfl) ?_
  refine q_put (v := .int x1) (ws' := (wX1_lay cI cJ cZ cS a_t a_numbers x1 v_size v_numbers)) fx inX1 tyX1 tyX1_ok nmX1 h 0 rfl rfl 0 (by decide) k_161 rfl rfl rfl (Nat.le_of_ble_eq_true rfl) rfl dX1_lay_2 (fun H locs h => ?_)
  refine lv_aload_n hx hb dX1_lay_5 rfl (lv_at hl 0 rfl) ?_
  refine lv_iload_n hx hb dX1_lay_6 rfl (lv_at hl 1 rfl) ?_
  refine lv_if_ne (tgt := 14) hx hb dX1_lay_7 (by decide) (fun c2 => ?_) (fun c2 => ?_)
  · have hf := it_f c2 hf
    refine lv_iload_n hx hb dX1_lay_14 rfl (lv_at hl 2 rfl) ?_
    exact LX1_lay_15 fx h (lv_sub hl [0] rfl) hf
  have hf := it_t c2 hf
  refine lv_iconst (v := 0) hx hb dX1_lay_10 (by decide) ?_
  refine lv_goto (tgt := 15) hx hb dX1_lay_11 (by decide) ?_
  exact LX1_lay_15 fx h (lv_sub hl [0] rfl) hf
/-! X4_sheet -/
abbrev wX4_sheet (cI cJ cZ cS : ClassId) (a_t a_party a_kept a_tape a_telephone a_sheets a_sheets0 a_sheets0_numbers a_sheets1 a_sheets1_numbers a_sheets2 a_sheets2_numbers a_sheets3 a_sheets3_numbers a_findings : Nat) (v_isKept : Int32) (v_sheets0_bits : Int32) (v_sheets0_size : Int32) (v_sheets0_numbers : Nat → Int64) (v_sheets1_bits : Int32) (v_sheets1_size : Int32) (v_sheets1_numbers : Nat → Int64) (v_sheets2_bits : Int32) (v_sheets2_size : Int32) (v_sheets2_numbers : Nat → Int64) (v_sheets3_bits : Int32) (v_sheets3_size : Int32) (v_sheets3_numbers : Nat → Int64) (v_findings : Nat → Int32) : va_W := [(a_t, .inr (4, [.ref a_party, .ref a_kept, .int v_isKept, .ref a_tape, .ref a_telephone, .ref a_sheets, .ref a_findings])), (a_sheets, .inl (cS, 4, .inr (.inr (.inr (.inr (q_sh a_sheets0 a_sheets1 a_sheets2 a_sheets3)))))), (a_sheets0, .inr (1, [.int v_sheets0_bits, .int v_sheets0_size, .ref a_sheets0_numbers])), (a_sheets0_numbers, .inl (cJ, 40, .inr (.inl v_sheets0_numbers))), (a_sheets1, .inr (1, [.int v_sheets1_bits, .int v_sheets1_size, .ref a_sheets1_numbers])), (a_sheets1_numbers, .inl (cJ, 40, .inr (.inl v_sheets1_numbers))), (a_sheets2, .inr (1, [.int v_sheets2_bits, .int v_sheets2_size, .ref a_sheets2_numbers])), (a_sheets2_numbers, .inl (cJ, 40, .inr (.inl v_sheets2_numbers))), (a_sheets3, .inr (1, [.int v_sheets3_bits, .int v_sheets3_size, .ref a_sheets3_numbers])), (a_sheets3_numbers, .inl (cJ, 40, .inr (.inl v_sheets3_numbers))), (a_findings, .inl (cI, 7, .inl v_findings))]
abbrev rX4_sheet : Room := { frames := 2, cells := 0, slots := 0, locals := 46 }
def fX4_sheet_36 (v_sheets0_bits : Int32) (v_sheets0_size : Int32) (v_sheets0_numbers : Nat → Int64) (v_sheets1_bits : Int32) (v_sheets1_size : Int32) (v_sheets1_numbers : Nat → Int64) (v_sheets2_bits : Int32) (v_sheets2_size : Int32) (v_sheets2_numbers : Nat → Int64) (v_sheets3_bits : Int32) (v_sheets3_size : Int32) (v_sheets3_numbers : Nat → Int64) (v_findings : Nat → Int32) (y1 : Int32) (y2 : Int32) (y3 : Int32) : Option (Int32 × Int32 × Int32 × (Nat → Int64) × Int32 × Int32 × (Nat → Int64) × Int32 × Int32 × (Nat → Int64) × Int32 × Int32 × (Nat → Int64) × (Nat → Int32)) :=
  (if (0 : Int32) ≤ y3 then (
  (if y3 ≤ 40 then (
  sel4 y1 (
  bR (fX1_lay v_sheets0_bits v_sheets0_size v_sheets0_numbers y2 y3) (fun r4 k4 =>
  some (r4, (k4.1, k4.2.1, k4.2.2, v_sheets1_bits, v_sheets1_size, v_sheets1_numbers, v_sheets2_bits, v_sheets2_size, v_sheets2_numbers, v_sheets3_bits, v_sheets3_size, v_sheets3_numbers, v_findings))))
  (bR (fX1_lay v_sheets1_bits v_sheets1_size v_sheets1_numbers y2 y3) (fun r5 k5 =>
  some (r5, (v_sheets0_bits, v_sheets0_size, v_sheets0_numbers, k5.1, k5.2.1, k5.2.2, v_sheets2_bits, v_sheets2_size, v_sheets2_numbers, v_sheets3_bits, v_sheets3_size, v_sheets3_numbers, v_findings))))
  (bR (fX1_lay v_sheets2_bits v_sheets2_size v_sheets2_numbers y2 y3) (fun r6 k6 =>
  some (r6, (v_sheets0_bits, v_sheets0_size, v_sheets0_numbers, v_sheets1_bits, v_sheets1_size, v_sheets1_numbers, k6.1, k6.2.1, k6.2.2, v_sheets3_bits, v_sheets3_size, v_sheets3_numbers, v_findings))))
  (bR (fX1_lay v_sheets3_bits v_sheets3_size v_sheets3_numbers y2 y3) (fun r7 k7 =>
  some (r7, (v_sheets0_bits, v_sheets0_size, v_sheets0_numbers, v_sheets1_bits, v_sheets1_size, v_sheets1_numbers, v_sheets2_bits, v_sheets2_size, v_sheets2_numbers, k7.1, k7.2.1, k7.2.2, v_findings)))))
  else (
  bR (fX4_found v_findings (-1000000001)) (fun r8 k8 =>
  some (r8, (v_sheets0_bits, v_sheets0_size, v_sheets0_numbers, v_sheets1_bits, v_sheets1_size, v_sheets1_numbers, v_sheets2_bits, v_sheets2_size, v_sheets2_numbers, v_sheets3_bits, v_sheets3_size, v_sheets3_numbers, k8))))))
  else (
  bR (fX4_found v_findings (-1000000007)) (fun r9 k9 =>
  some (r9, (v_sheets0_bits, v_sheets0_size, v_sheets0_numbers, v_sheets1_bits, v_sheets1_size, v_sheets1_numbers, v_sheets2_bits, v_sheets2_size, v_sheets2_numbers, v_sheets3_bits, v_sheets3_size, v_sheets3_numbers, k9)))))
set_option maxRecDepth 100000 in
set_option maxHeartbeats 4000000 in
theorem LX4_sheet_36 {p : Program} {l : Launch} {e : Env} {s : State} {m : MethodId} {args : Array Value} {below : List Frame} {meth : Method} {c : Code} {D : va_G} {cI cJ cZ cS : ClassId} {tb : Nat} {A : Nat → Prop} {a_t a_party a_kept a_tape a_telephone a_sheets a_sheets0 a_sheets0_numbers a_sheets1 a_sheets1_numbers a_sheets2 a_sheets2_numbers a_sheets3 a_sheets3_numbers a_findings : Nat} {v_isKept : Int32} {rr : Int32} {kk' : Int32 × Int32 × (Nat → Int64) × Int32 × Int32 × (Nat → Int64) × Int32 × Int32 × (Nat → Int64) × Int32 × Int32 × (Nat → Int64) × (Nat → Int32)} (fx : q_Fx p s m args meth c cX4_sheet 4 RX4 (some .int) D cI cJ cZ cS tb A) : ∀ {v_sheets0_bits : Int32} {v_sheets0_size : Int32} {v_sheets0_numbers : Nat → Int64} {v_sheets1_bits : Int32} {v_sheets1_size : Int32} {v_sheets1_numbers : Nat → Int64} {v_sheets2_bits : Int32} {v_sheets2_size : Int32} {v_sheets2_numbers : Nat → Int64} {v_sheets3_bits : Int32} {v_sheets3_size : Int32} {v_sheets3_numbers : Nat → Int64} {v_findings : Nat → Int32} {y1 : Int32} {y2 : Int32} {y3 : Int32} {H : Heap} {locs : List Loc} {ls : Array Slot}, q_H D A s (wX4_sheet cI cJ cZ cS a_t a_party a_kept a_tape a_telephone a_sheets a_sheets0 a_sheets0_numbers a_sheets1 a_sheets1_numbers a_sheets2 a_sheets2_numbers a_sheets3 a_sheets3_numbers a_findings v_isKept v_sheets0_bits v_sheets0_size v_sheets0_numbers v_sheets1_bits v_sheets1_size v_sheets1_numbers v_sheets2_bits v_sheets2_size v_sheets2_numbers v_sheets3_bits v_sheets3_size v_sheets3_numbers v_findings) H locs → lv_has ls 4 [(0, .ref a_t), (1, .int y1), (2, .int y2), (3, .int y3)] → fX4_sheet_36 v_sheets0_bits v_sheets0_size v_sheets0_numbers v_sheets1_bits v_sheets1_size v_sheets1_numbers v_sheets2_bits v_sheets2_size v_sheets2_numbers v_sheets3_bits v_sheets3_size v_sheets3_numbers v_findings y1 y2 y3 = some (rr, kk') → W p l e rX4_sheet s m args below meth c H locs 0 0 (MQ below (q_Ri D rr A ((fun k : Int32 × Int32 × (Nat → Int64) × Int32 × Int32 × (Nat → Int64) × Int32 × Int32 × (Nat → Int64) × Int32 × Int32 × (Nat → Int64) × (Nat → Int32) => (wX4_sheet cI cJ cZ cS a_t a_party a_kept a_tape a_telephone a_sheets a_sheets0 a_sheets0_numbers a_sheets1 a_sheets1_numbers a_sheets2 a_sheets2_numbers a_sheets3 a_sheets3_numbers a_findings v_isKept k.1 k.2.1 k.2.2.1 k.2.2.2.1 k.2.2.2.2.1 k.2.2.2.2.2.1 k.2.2.2.2.2.2.1 k.2.2.2.2.2.2.2.1 k.2.2.2.2.2.2.2.2.1 k.2.2.2.2.2.2.2.2.2.1 k.2.2.2.2.2.2.2.2.2.2.1 k.2.2.2.2.2.2.2.2.2.2.2.1 k.2.2.2.2.2.2.2.2.2.2.2.2)) kk')) args s 0 0 A) (F0 m 36 ls []) := by
  intro v_sheets0_bits v_sheets0_size v_sheets0_numbers v_sheets1_bits v_sheets1_size v_sheets1_numbers v_sheets2_bits v_sheets2_size v_sheets2_numbers v_sheets3_bits v_sheets3_size v_sheets3_numbers v_findings y1 y2 y3 H locs ls h hl hf
  have hx := fx.1
  have hb := fx.2.1
  unfold fX4_sheet_36 at hf
  refine lv_iload_n hx hb dX4_sheet_36 rfl (lv_at hl 3 rfl) ?_
  refine lv_if_ge (tgt := 47) hx hb dX4_sheet_37 (by decide) (fun c1 => ?_) (fun c1 => ?_)
  · have hf := it_t c1 hf
    refine lv_iload_n hx hb dX4_sheet_47 rfl (lv_at hl 3 rfl) ?_
    refine lv_bipush (v := 40) hx hb dX4_sheet_48 (by decide) ?_
    refine lv_icmp_le (tgt := 62) hx hb dX4_sheet_50 (by decide) (fun c2 => ?_) (fun c2 => ?_)
    · have hf := it_t c2 hf
      refine lv_aload_n hx hb dX4_sheet_62 rfl (lv_at hl 0 rfl) ?_
      refine q_get (v := .ref a_sheets) fx inX4 h 0 rfl rfl 5 (by decide) k_179 rfl dX4_sheet_63 ?_
      refine lv_iload_n hx hb dX4_sheet_66 rfl (lv_at hl 1 rfl) ?_
      rcases sel4_inv hf with ⟨c3, hf⟩ | ⟨c3, hf⟩ | ⟨c3, hf⟩ | ⟨c3, hf⟩
      · refine q_aald (v := a_sheets0) fx h 1 rfl c3 (vinK (by decide)) rfl dX4_sheet_67 ?_
        refine lv_iload_n hx hb dX4_sheet_68 rfl (lv_at hl 2 rfl) ?_
        refine lv_iload_n hx hb dX4_sheet_69 rfl (lv_at hl 3 rfl) ?_
        obtain ⟨r4, k4, hg, hf⟩ := bR_inv hf
        refine q_ci (rest := []) (ws' := (wX4_sheet cI cJ cZ cS a_t a_party a_kept a_tape a_telephone a_sheets a_sheets0 a_sheets0_numbers a_sheets1 a_sheets1_numbers a_sheets2 a_sheets2_numbers a_sheets3 a_sheets3_numbers a_findings v_isKept k4.1 k4.2.1 k4.2.2 v_sheets1_bits v_sheets1_size v_sheets1_numbers v_sheets2_bits v_sheets2_size v_sheets2_numbers v_sheets3_bits v_sheets3_size v_sheets3_numbers v_findings)) (w1 := (wX1_lay cI cJ cZ cS a_sheets0 a_sheets0_numbers k4.1 k4.2.1 k4.2.2)) fx h [2, 3] rfl rfl rfl rfl (q_runV fx h hl.1 [2, 3] rfl rfl (tX1_lay l D cI cJ cZ cS tb a_sheets0 a_sheets0_numbers H.size v_sheets0_bits v_sheets0_size v_sheets0_numbers y2 y3 r4 k4 hg) mvX1_lay k_540 ⟨rfl, rfl⟩ ⟨Nat.le_of_ble_eq_true rfl, Nat.le_of_ble_eq_true rfl⟩ rfl rfl rfl rfl (Nat.le_of_ble_eq_true rfl) dX4_sheet_70 ⟨Nat.le_of_ble_eq_true rfl, Nat.le_of_ble_eq_true rfl⟩) (fun H locs h => ?_)
        exact q_reti (fun k : Int32 × Int32 × (Nat → Int64) × Int32 × Int32 × (Nat → Int64) × Int32 × Int32 × (Nat → Int64) × Int32 × Int32 × (Nat → Int64) × (Nat → Int32) => (wX4_sheet cI cJ cZ cS a_t a_party a_kept a_tape a_telephone a_sheets a_sheets0 a_sheets0_numbers a_sheets1 a_sheets1_numbers a_sheets2 a_sheets2_numbers a_sheets3 a_sheets3_numbers a_findings v_isKept k.1 k.2.1 k.2.2.1 k.2.2.2.1 k.2.2.2.2.1 k.2.2.2.2.2.1 k.2.2.2.2.2.2.1 k.2.2.2.2.2.2.2.1 k.2.2.2.2.2.2.2.2.1 k.2.2.2.2.2.2.2.2.2.1 k.2.2.2.2.2.2.2.2.2.2.1 k.2.2.2.2.2.2.2.2.2.2.2.1 k.2.2.2.2.2.2.2.2.2.2.2.2)) fx hf h dX4_sheet_73
      · refine q_aald (v := a_sheets1) fx h 1 rfl c3 (vinK (by decide)) rfl dX4_sheet_67 ?_
        refine lv_iload_n hx hb dX4_sheet_68 rfl (lv_at hl 2 rfl) ?_
        refine lv_iload_n hx hb dX4_sheet_69 rfl (lv_at hl 3 rfl) ?_
        obtain ⟨r5, k5, hg, hf⟩ := bR_inv hf
        refine q_ci (rest := []) (ws' := (wX4_sheet cI cJ cZ cS a_t a_party a_kept a_tape a_telephone a_sheets a_sheets0 a_sheets0_numbers a_sheets1 a_sheets1_numbers a_sheets2 a_sheets2_numbers a_sheets3 a_sheets3_numbers a_findings v_isKept v_sheets0_bits v_sheets0_size v_sheets0_numbers k5.1 k5.2.1 k5.2.2 v_sheets2_bits v_sheets2_size v_sheets2_numbers v_sheets3_bits v_sheets3_size v_sheets3_numbers v_findings)) (w1 := (wX1_lay cI cJ cZ cS a_sheets1 a_sheets1_numbers k5.1 k5.2.1 k5.2.2)) fx h [4, 5] rfl rfl rfl rfl (q_runV fx h hl.1 [4, 5] rfl rfl (tX1_lay l D cI cJ cZ cS tb a_sheets1 a_sheets1_numbers H.size v_sheets1_bits v_sheets1_size v_sheets1_numbers y2 y3 r5 k5 hg) mvX1_lay k_540 ⟨rfl, rfl⟩ ⟨Nat.le_of_ble_eq_true rfl, Nat.le_of_ble_eq_true rfl⟩ rfl rfl rfl rfl (Nat.le_of_ble_eq_true rfl) dX4_sheet_70 ⟨Nat.le_of_ble_eq_true rfl, Nat.le_of_ble_eq_true rfl⟩) (fun H locs h => ?_)
        exact q_reti (fun k : Int32 × Int32 × (Nat → Int64) × Int32 × Int32 × (Nat → Int64) × Int32 × Int32 × (Nat → Int64) × Int32 × Int32 × (Nat → Int64) × (Nat → Int32) => (wX4_sheet cI cJ cZ cS a_t a_party a_kept a_tape a_telephone a_sheets a_sheets0 a_sheets0_numbers a_sheets1 a_sheets1_numbers a_sheets2 a_sheets2_numbers a_sheets3 a_sheets3_numbers a_findings v_isKept k.1 k.2.1 k.2.2.1 k.2.2.2.1 k.2.2.2.2.1 k.2.2.2.2.2.1 k.2.2.2.2.2.2.1 k.2.2.2.2.2.2.2.1 k.2.2.2.2.2.2.2.2.1 k.2.2.2.2.2.2.2.2.2.1 k.2.2.2.2.2.2.2.2.2.2.1 k.2.2.2.2.2.2.2.2.2.2.2.1 k.2.2.2.2.2.2.2.2.2.2.2.2)) fx hf h dX4_sheet_73
      · refine q_aald (v := a_sheets2) fx h 1 rfl c3 (vinK (by decide)) rfl dX4_sheet_67 ?_
        refine lv_iload_n hx hb dX4_sheet_68 rfl (lv_at hl 2 rfl) ?_
        refine lv_iload_n hx hb dX4_sheet_69 rfl (lv_at hl 3 rfl) ?_
        obtain ⟨r6, k6, hg, hf⟩ := bR_inv hf
        refine q_ci (rest := []) (ws' := (wX4_sheet cI cJ cZ cS a_t a_party a_kept a_tape a_telephone a_sheets a_sheets0 a_sheets0_numbers a_sheets1 a_sheets1_numbers a_sheets2 a_sheets2_numbers a_sheets3 a_sheets3_numbers a_findings v_isKept v_sheets0_bits v_sheets0_size v_sheets0_numbers v_sheets1_bits v_sheets1_size v_sheets1_numbers k6.1 k6.2.1 k6.2.2 v_sheets3_bits v_sheets3_size v_sheets3_numbers v_findings)) (w1 := (wX1_lay cI cJ cZ cS a_sheets2 a_sheets2_numbers k6.1 k6.2.1 k6.2.2)) fx h [6, 7] rfl rfl rfl rfl (q_runV fx h hl.1 [6, 7] rfl rfl (tX1_lay l D cI cJ cZ cS tb a_sheets2 a_sheets2_numbers H.size v_sheets2_bits v_sheets2_size v_sheets2_numbers y2 y3 r6 k6 hg) mvX1_lay k_540 ⟨rfl, rfl⟩ ⟨Nat.le_of_ble_eq_true rfl, Nat.le_of_ble_eq_true rfl⟩ rfl rfl rfl rfl (Nat.le_of_ble_eq_true rfl) dX4_sheet_70 ⟨Nat.le_of_ble_eq_true rfl, Nat.le_of_ble_eq_true rfl⟩) (fun H locs h => ?_)
        exact q_reti (fun k : Int32 × Int32 × (Nat → Int64) × Int32 × Int32 × (Nat → Int64) × Int32 × Int32 × (Nat → Int64) × Int32 × Int32 × (Nat → Int64) × (Nat → Int32) => (wX4_sheet cI cJ cZ cS a_t a_party a_kept a_tape a_telephone a_sheets a_sheets0 a_sheets0_numbers a_sheets1 a_sheets1_numbers a_sheets2 a_sheets2_numbers a_sheets3 a_sheets3_numbers a_findings v_isKept k.1 k.2.1 k.2.2.1 k.2.2.2.1 k.2.2.2.2.1 k.2.2.2.2.2.1 k.2.2.2.2.2.2.1 k.2.2.2.2.2.2.2.1 k.2.2.2.2.2.2.2.2.1 k.2.2.2.2.2.2.2.2.2.1 k.2.2.2.2.2.2.2.2.2.2.1 k.2.2.2.2.2.2.2.2.2.2.2.1 k.2.2.2.2.2.2.2.2.2.2.2.2)) fx hf h dX4_sheet_73
      · refine q_aald (v := a_sheets3) fx h 1 rfl c3 (vinK (by decide)) rfl dX4_sheet_67 ?_
        refine lv_iload_n hx hb dX4_sheet_68 rfl (lv_at hl 2 rfl) ?_
        refine lv_iload_n hx hb dX4_sheet_69 rfl (lv_at hl 3 rfl) ?_
        obtain ⟨r7, k7, hg, hf⟩ := bR_inv hf
        refine q_ci (rest := []) (ws' := (wX4_sheet cI cJ cZ cS a_t a_party a_kept a_tape a_telephone a_sheets a_sheets0 a_sheets0_numbers a_sheets1 a_sheets1_numbers a_sheets2 a_sheets2_numbers a_sheets3 a_sheets3_numbers a_findings v_isKept v_sheets0_bits v_sheets0_size v_sheets0_numbers v_sheets1_bits v_sheets1_size v_sheets1_numbers v_sheets2_bits v_sheets2_size v_sheets2_numbers k7.1 k7.2.1 k7.2.2 v_findings)) (w1 := (wX1_lay cI cJ cZ cS a_sheets3 a_sheets3_numbers k7.1 k7.2.1 k7.2.2)) fx h [8, 9] rfl rfl rfl rfl (q_runV fx h hl.1 [8, 9] rfl rfl (tX1_lay l D cI cJ cZ cS tb a_sheets3 a_sheets3_numbers H.size v_sheets3_bits v_sheets3_size v_sheets3_numbers y2 y3 r7 k7 hg) mvX1_lay k_540 ⟨rfl, rfl⟩ ⟨Nat.le_of_ble_eq_true rfl, Nat.le_of_ble_eq_true rfl⟩ rfl rfl rfl rfl (Nat.le_of_ble_eq_true rfl) dX4_sheet_70 ⟨Nat.le_of_ble_eq_true rfl, Nat.le_of_ble_eq_true rfl⟩) (fun H locs h => ?_)
        exact q_reti (fun k : Int32 × Int32 × (Nat → Int64) × Int32 × Int32 × (Nat → Int64) × Int32 × Int32 × (Nat → Int64) × Int32 × Int32 × (Nat → Int64) × (Nat → Int32) => (wX4_sheet cI cJ cZ cS a_t a_party a_kept a_tape a_telephone a_sheets a_sheets0 a_sheets0_numbers a_sheets1 a_sheets1_numbers a_sheets2 a_sheets2_numbers a_sheets3 a_sheets3_numbers a_findings v_isKept k.1 k.2.1 k.2.2.1 k.2.2.2.1 k.2.2.2.2.1 k.2.2.2.2.2.1 k.2.2.2.2.2.2.1 k.2.2.2.2.2.2.2.1 k.2.2.2.2.2.2.2.2.1 k.2.2.2.2.2.2.2.2.2.1 k.2.2.2.2.2.2.2.2.2.2.1 k.2.2.2.2.2.2.2.2.2.2.2.1 k.2.2.2.2.2.2.2.2.2.2.2.2)) fx hf h dX4_sheet_73
    have hf := it_f c2 hf
    refine lv_aload_n hx hb dX4_sheet_53 rfl (lv_at hl 0 rfl) ?_
    refine q_ldc fx k_206 dX4_sheet_54 ?_
    obtain ⟨r8, k8, hg, hf⟩ := bR_inv hf
    refine q_ci (rest := []) (ws' := (wX4_sheet cI cJ cZ cS a_t a_party a_kept a_tape a_telephone a_sheets a_sheets0 a_sheets0_numbers a_sheets1 a_sheets1_numbers a_sheets2 a_sheets2_numbers a_sheets3 a_sheets3_numbers a_findings v_isKept v_sheets0_bits v_sheets0_size v_sheets0_numbers v_sheets1_bits v_sheets1_size v_sheets1_numbers v_sheets2_bits v_sheets2_size v_sheets2_numbers v_sheets3_bits v_sheets3_size v_sheets3_numbers k8)) (w1 := (wX4_found cI cJ cZ cS a_t a_party a_kept a_tape a_telephone a_sheets a_findings v_isKept k8)) fx h [0, 10] rfl rfl rfl rfl (q_runV fx h hl.1 [0, 10] rfl rfl (tX4_found l D cI cJ cZ cS tb a_t a_party a_kept a_tape a_telephone a_sheets a_findings H.size v_isKept v_findings (-1000000001) r8 k8 hg) mvX4_found k_207 ⟨rfl, rfl⟩ ⟨Nat.le_of_ble_eq_true rfl, Nat.le_of_ble_eq_true rfl⟩ rfl rfl rfl rfl (Nat.le_of_ble_eq_true rfl) dX4_sheet_56 ⟨Nat.le_of_ble_eq_true rfl, Nat.le_of_ble_eq_true rfl⟩) (fun H locs h => ?_)
    refine lv_goto (tgt := 73) hx hb dX4_sheet_59 (by decide) ?_
    exact q_reti (fun k : Int32 × Int32 × (Nat → Int64) × Int32 × Int32 × (Nat → Int64) × Int32 × Int32 × (Nat → Int64) × Int32 × Int32 × (Nat → Int64) × (Nat → Int32) => (wX4_sheet cI cJ cZ cS a_t a_party a_kept a_tape a_telephone a_sheets a_sheets0 a_sheets0_numbers a_sheets1 a_sheets1_numbers a_sheets2 a_sheets2_numbers a_sheets3 a_sheets3_numbers a_findings v_isKept k.1 k.2.1 k.2.2.1 k.2.2.2.1 k.2.2.2.2.1 k.2.2.2.2.2.1 k.2.2.2.2.2.2.1 k.2.2.2.2.2.2.2.1 k.2.2.2.2.2.2.2.2.1 k.2.2.2.2.2.2.2.2.2.1 k.2.2.2.2.2.2.2.2.2.2.1 k.2.2.2.2.2.2.2.2.2.2.2.1 k.2.2.2.2.2.2.2.2.2.2.2.2)) fx hf h dX4_sheet_73
  have hf := it_f c1 hf
  refine lv_aload_n hx hb dX4_sheet_40 rfl (lv_at hl 0 rfl) ?_
  refine q_ldc fx k_539 dX4_sheet_41 ?_
  obtain ⟨r9, k9, hg, hf⟩ := bR_inv hf
  refine q_ci (rest := []) (ws' := (wX4_sheet cI cJ cZ cS a_t a_party a_kept a_tape a_telephone a_sheets a_sheets0 a_sheets0_numbers a_sheets1 a_sheets1_numbers a_sheets2 a_sheets2_numbers a_sheets3 a_sheets3_numbers a_findings v_isKept v_sheets0_bits v_sheets0_size v_sheets0_numbers v_sheets1_bits v_sheets1_size v_sheets1_numbers v_sheets2_bits v_sheets2_size v_sheets2_numbers v_sheets3_bits v_sheets3_size v_sheets3_numbers k9)) (w1 := (wX4_found cI cJ cZ cS a_t a_party a_kept a_tape a_telephone a_sheets a_findings v_isKept k9)) fx h [0, 10] rfl rfl rfl rfl (q_runV fx h hl.1 [0, 10] rfl rfl (tX4_found l D cI cJ cZ cS tb a_t a_party a_kept a_tape a_telephone a_sheets a_findings H.size v_isKept v_findings (-1000000007) r9 k9 hg) mvX4_found k_207 ⟨rfl, rfl⟩ ⟨Nat.le_of_ble_eq_true rfl, Nat.le_of_ble_eq_true rfl⟩ rfl rfl rfl rfl (Nat.le_of_ble_eq_true rfl) dX4_sheet_43 ⟨Nat.le_of_ble_eq_true rfl, Nat.le_of_ble_eq_true rfl⟩) (fun H locs h => ?_)
  exact q_reti (fun k : Int32 × Int32 × (Nat → Int64) × Int32 × Int32 × (Nat → Int64) × Int32 × Int32 × (Nat → Int64) × Int32 × Int32 × (Nat → Int64) × (Nat → Int32) => (wX4_sheet cI cJ cZ cS a_t a_party a_kept a_tape a_telephone a_sheets a_sheets0 a_sheets0_numbers a_sheets1 a_sheets1_numbers a_sheets2 a_sheets2_numbers a_sheets3 a_sheets3_numbers a_findings v_isKept k.1 k.2.1 k.2.2.1 k.2.2.2.1 k.2.2.2.2.1 k.2.2.2.2.2.1 k.2.2.2.2.2.2.1 k.2.2.2.2.2.2.2.1 k.2.2.2.2.2.2.2.2.1 k.2.2.2.2.2.2.2.2.2.1 k.2.2.2.2.2.2.2.2.2.2.1 k.2.2.2.2.2.2.2.2.2.2.2.1 k.2.2.2.2.2.2.2.2.2.2.2.2)) fx hf h dX4_sheet_46
def fX4_sheet_29 (v_sheets0_bits : Int32) (v_sheets0_size : Int32) (v_sheets0_numbers : Nat → Int64) (v_sheets1_bits : Int32) (v_sheets1_size : Int32) (v_sheets1_numbers : Nat → Int64) (v_sheets2_bits : Int32) (v_sheets2_size : Int32) (v_sheets2_numbers : Nat → Int64) (v_sheets3_bits : Int32) (v_sheets3_size : Int32) (v_sheets3_numbers : Nat → Int64) (v_findings : Nat → Int32) : Option (Int32 × Int32 × Int32 × (Nat → Int64) × Int32 × Int32 × (Nat → Int64) × Int32 × Int32 × (Nat → Int64) × Int32 × Int32 × (Nat → Int64) × (Nat → Int32)) :=
  bR (fX4_found v_findings (-1000000001)) (fun r10 k10 =>
  some (r10, (v_sheets0_bits, v_sheets0_size, v_sheets0_numbers, v_sheets1_bits, v_sheets1_size, v_sheets1_numbers, v_sheets2_bits, v_sheets2_size, v_sheets2_numbers, v_sheets3_bits, v_sheets3_size, v_sheets3_numbers, k10)))
set_option maxRecDepth 100000 in
set_option maxHeartbeats 4000000 in
theorem LX4_sheet_29 {p : Program} {l : Launch} {e : Env} {s : State} {m : MethodId} {args : Array Value} {below : List Frame} {meth : Method} {c : Code} {D : va_G} {cI cJ cZ cS : ClassId} {tb : Nat} {A : Nat → Prop} {a_t a_party a_kept a_tape a_telephone a_sheets a_sheets0 a_sheets0_numbers a_sheets1 a_sheets1_numbers a_sheets2 a_sheets2_numbers a_sheets3 a_sheets3_numbers a_findings : Nat} {v_isKept : Int32} {rr : Int32} {kk' : Int32 × Int32 × (Nat → Int64) × Int32 × Int32 × (Nat → Int64) × Int32 × Int32 × (Nat → Int64) × Int32 × Int32 × (Nat → Int64) × (Nat → Int32)} (fx : q_Fx p s m args meth c cX4_sheet 4 RX4 (some .int) D cI cJ cZ cS tb A) : ∀ {v_sheets0_bits : Int32} {v_sheets0_size : Int32} {v_sheets0_numbers : Nat → Int64} {v_sheets1_bits : Int32} {v_sheets1_size : Int32} {v_sheets1_numbers : Nat → Int64} {v_sheets2_bits : Int32} {v_sheets2_size : Int32} {v_sheets2_numbers : Nat → Int64} {v_sheets3_bits : Int32} {v_sheets3_size : Int32} {v_sheets3_numbers : Nat → Int64} {v_findings : Nat → Int32} {H : Heap} {locs : List Loc} {ls : Array Slot}, q_H D A s (wX4_sheet cI cJ cZ cS a_t a_party a_kept a_tape a_telephone a_sheets a_sheets0 a_sheets0_numbers a_sheets1 a_sheets1_numbers a_sheets2 a_sheets2_numbers a_sheets3 a_sheets3_numbers a_findings v_isKept v_sheets0_bits v_sheets0_size v_sheets0_numbers v_sheets1_bits v_sheets1_size v_sheets1_numbers v_sheets2_bits v_sheets2_size v_sheets2_numbers v_sheets3_bits v_sheets3_size v_sheets3_numbers v_findings) H locs → lv_has ls 4 [(0, .ref a_t)] → fX4_sheet_29 v_sheets0_bits v_sheets0_size v_sheets0_numbers v_sheets1_bits v_sheets1_size v_sheets1_numbers v_sheets2_bits v_sheets2_size v_sheets2_numbers v_sheets3_bits v_sheets3_size v_sheets3_numbers v_findings = some (rr, kk') → W p l e rX4_sheet s m args below meth c H locs 0 0 (MQ below (q_Ri D rr A ((fun k : Int32 × Int32 × (Nat → Int64) × Int32 × Int32 × (Nat → Int64) × Int32 × Int32 × (Nat → Int64) × Int32 × Int32 × (Nat → Int64) × (Nat → Int32) => (wX4_sheet cI cJ cZ cS a_t a_party a_kept a_tape a_telephone a_sheets a_sheets0 a_sheets0_numbers a_sheets1 a_sheets1_numbers a_sheets2 a_sheets2_numbers a_sheets3 a_sheets3_numbers a_findings v_isKept k.1 k.2.1 k.2.2.1 k.2.2.2.1 k.2.2.2.2.1 k.2.2.2.2.2.1 k.2.2.2.2.2.2.1 k.2.2.2.2.2.2.2.1 k.2.2.2.2.2.2.2.2.1 k.2.2.2.2.2.2.2.2.2.1 k.2.2.2.2.2.2.2.2.2.2.1 k.2.2.2.2.2.2.2.2.2.2.2.1 k.2.2.2.2.2.2.2.2.2.2.2.2)) kk')) args s 0 0 A) (F0 m 29 ls []) := by
  intro v_sheets0_bits v_sheets0_size v_sheets0_numbers v_sheets1_bits v_sheets1_size v_sheets1_numbers v_sheets2_bits v_sheets2_size v_sheets2_numbers v_sheets3_bits v_sheets3_size v_sheets3_numbers v_findings H locs ls h hl hf
  have hx := fx.1
  have hb := fx.2.1
  unfold fX4_sheet_29 at hf
  refine lv_aload_n hx hb dX4_sheet_29 rfl (lv_at hl 0 rfl) ?_
  refine q_ldc fx k_206 dX4_sheet_30 ?_
  obtain ⟨r10, k10, hg, hf⟩ := bR_inv hf
  refine q_ci (rest := []) (ws' := (wX4_sheet cI cJ cZ cS a_t a_party a_kept a_tape a_telephone a_sheets a_sheets0 a_sheets0_numbers a_sheets1 a_sheets1_numbers a_sheets2 a_sheets2_numbers a_sheets3 a_sheets3_numbers a_findings v_isKept v_sheets0_bits v_sheets0_size v_sheets0_numbers v_sheets1_bits v_sheets1_size v_sheets1_numbers v_sheets2_bits v_sheets2_size v_sheets2_numbers v_sheets3_bits v_sheets3_size v_sheets3_numbers k10)) (w1 := (wX4_found cI cJ cZ cS a_t a_party a_kept a_tape a_telephone a_sheets a_findings v_isKept k10)) fx h [0, 10] rfl rfl rfl rfl (q_runV fx h hl.1 [0, 10] rfl rfl (tX4_found l D cI cJ cZ cS tb a_t a_party a_kept a_tape a_telephone a_sheets a_findings H.size v_isKept v_findings (-1000000001) r10 k10 hg) mvX4_found k_207 ⟨rfl, rfl⟩ ⟨Nat.le_of_ble_eq_true rfl, Nat.le_of_ble_eq_true rfl⟩ rfl rfl rfl rfl (Nat.le_of_ble_eq_true rfl) dX4_sheet_32 ⟨Nat.le_of_ble_eq_true rfl, Nat.le_of_ble_eq_true rfl⟩) (fun H locs h => ?_)
  exact q_reti (fun k : Int32 × Int32 × (Nat → Int64) × Int32 × Int32 × (Nat → Int64) × Int32 × Int32 × (Nat → Int64) × Int32 × Int32 × (Nat → Int64) × (Nat → Int32) => (wX4_sheet cI cJ cZ cS a_t a_party a_kept a_tape a_telephone a_sheets a_sheets0 a_sheets0_numbers a_sheets1 a_sheets1_numbers a_sheets2 a_sheets2_numbers a_sheets3 a_sheets3_numbers a_findings v_isKept k.1 k.2.1 k.2.2.1 k.2.2.2.1 k.2.2.2.2.1 k.2.2.2.2.2.1 k.2.2.2.2.2.2.1 k.2.2.2.2.2.2.2.1 k.2.2.2.2.2.2.2.2.1 k.2.2.2.2.2.2.2.2.2.1 k.2.2.2.2.2.2.2.2.2.2.1 k.2.2.2.2.2.2.2.2.2.2.2.1 k.2.2.2.2.2.2.2.2.2.2.2.2)) fx hf h dX4_sheet_35
def fX4_sheet (v_sheets0_bits : Int32) (v_sheets0_size : Int32) (v_sheets0_numbers : Nat → Int64) (v_sheets1_bits : Int32) (v_sheets1_size : Int32) (v_sheets1_numbers : Nat → Int64) (v_sheets2_bits : Int32) (v_sheets2_size : Int32) (v_sheets2_numbers : Nat → Int64) (v_sheets3_bits : Int32) (v_sheets3_size : Int32) (v_sheets3_numbers : Nat → Int64) (v_findings : Nat → Int32) (x1 : Int32) (x2 : Int32) (x3 : Int32) : Option (Int32 × Int32 × Int32 × (Nat → Int64) × Int32 × Int32 × (Nat → Int64) × Int32 × Int32 × (Nat → Int64) × Int32 × Int32 × (Nat → Int64) × (Nat → Int32)) :=
  bR (fX4_isSheet x1) (fun r11 k11 =>
  (if r11 = 0 then (
  fX4_sheet_29  v_sheets0_bits v_sheets0_size v_sheets0_numbers v_sheets1_bits v_sheets1_size v_sheets1_numbers v_sheets2_bits v_sheets2_size v_sheets2_numbers v_sheets3_bits v_sheets3_size v_sheets3_numbers v_findings)
  else (
  (if x2 = 0 then (
  fX4_sheet_36  v_sheets0_bits v_sheets0_size v_sheets0_numbers v_sheets1_bits v_sheets1_size v_sheets1_numbers v_sheets2_bits v_sheets2_size v_sheets2_numbers v_sheets3_bits v_sheets3_size v_sheets3_numbers v_findings x1 x2 x3)
  else (
  (if x2 = 8 then (
  fX4_sheet_36  v_sheets0_bits v_sheets0_size v_sheets0_numbers v_sheets1_bits v_sheets1_size v_sheets1_numbers v_sheets2_bits v_sheets2_size v_sheets2_numbers v_sheets3_bits v_sheets3_size v_sheets3_numbers v_findings x1 x2 x3)
  else (
  (if x2 = 16 then (
  fX4_sheet_36  v_sheets0_bits v_sheets0_size v_sheets0_numbers v_sheets1_bits v_sheets1_size v_sheets1_numbers v_sheets2_bits v_sheets2_size v_sheets2_numbers v_sheets3_bits v_sheets3_size v_sheets3_numbers v_findings x1 x2 x3)
  else (
  (if x2 = 64 then (
  fX4_sheet_36  v_sheets0_bits v_sheets0_size v_sheets0_numbers v_sheets1_bits v_sheets1_size v_sheets1_numbers v_sheets2_bits v_sheets2_size v_sheets2_numbers v_sheets3_bits v_sheets3_size v_sheets3_numbers v_findings x1 x2 x3)
  else (
  fX4_sheet_29  v_sheets0_bits v_sheets0_size v_sheets0_numbers v_sheets1_bits v_sheets1_size v_sheets1_numbers v_sheets2_bits v_sheets2_size v_sheets2_numbers v_sheets3_bits v_sheets3_size v_sheets3_numbers v_findings)))))))))))
set_option maxRecDepth 100000 in
set_option maxHeartbeats 4000000 in
theorem tX4_sheet (l : Launch) (D : va_G) (cI cJ cZ cS : ClassId) (tb : Nat) (a_t a_party a_kept a_tape a_telephone a_sheets a_sheets0 a_sheets0_numbers a_sheets1 a_sheets1_numbers a_sheets2 a_sheets2_numbers a_sheets3 a_sheets3_numbers a_findings : Nat) (sz : Nat) (v_isKept : Int32) (v_sheets0_bits : Int32) (v_sheets0_size : Int32) (v_sheets0_numbers : Nat → Int64) (v_sheets1_bits : Int32) (v_sheets1_size : Int32) (v_sheets1_numbers : Nat → Int64) (v_sheets2_bits : Int32) (v_sheets2_size : Int32) (v_sheets2_numbers : Nat → Int64) (v_sheets3_bits : Int32) (v_sheets3_size : Int32) (v_sheets3_numbers : Nat → Int64) (v_findings : Nat → Int32) (x1 : Int32) (x2 : Int32) (x3 : Int32) (rr : Int32) (kk' : Int32 × Int32 × (Nat → Int64) × Int32 × Int32 × (Nat → Int64) × Int32 × Int32 × (Nat → Int64) × Int32 × Int32 × (Nat → Int64) × (Nat → Int32)) (hf : fX4_sheet v_sheets0_bits v_sheets0_size v_sheets0_numbers v_sheets1_bits v_sheets1_size v_sheets1_numbers v_sheets2_bits v_sheets2_size v_sheets2_numbers v_sheets3_bits v_sheets3_size v_sheets3_numbers v_findings x1 x2 x3 = some (rr, kk')) : Met l yX4_sheet (Cond.code yX4_sheet cX4_sheet 4 (some .int) :: wA) rX4_sheet (q_Pre D cI cJ cZ cS tb [.ref a_t, .int x1, .int x2, .int x3] sz (wX4_sheet cI cJ cZ cS a_t a_party a_kept a_tape a_telephone a_sheets a_sheets0 a_sheets0_numbers a_sheets1 a_sheets1_numbers a_sheets2 a_sheets2_numbers a_sheets3 a_sheets3_numbers a_findings v_isKept v_sheets0_bits v_sheets0_size v_sheets0_numbers v_sheets1_bits v_sheets1_size v_sheets1_numbers v_sheets2_bits v_sheets2_size v_sheets2_numbers v_sheets3_bits v_sheets3_size v_sheets3_numbers v_findings)) (q_Ri D rr (va_A (wX4_sheet cI cJ cZ cS a_t a_party a_kept a_tape a_telephone a_sheets a_sheets0 a_sheets0_numbers a_sheets1 a_sheets1_numbers a_sheets2 a_sheets2_numbers a_sheets3 a_sheets3_numbers a_findings v_isKept v_sheets0_bits v_sheets0_size v_sheets0_numbers v_sheets1_bits v_sheets1_size v_sheets1_numbers v_sheets2_bits v_sheets2_size v_sheets2_numbers v_sheets3_bits v_sheets3_size v_sheets3_numbers v_findings) sz) ((fun k : Int32 × Int32 × (Nat → Int64) × Int32 × Int32 × (Nat → Int64) × Int32 × Int32 × (Nat → Int64) × Int32 × Int32 × (Nat → Int64) × (Nat → Int32) => (wX4_sheet cI cJ cZ cS a_t a_party a_kept a_tape a_telephone a_sheets a_sheets0 a_sheets0_numbers a_sheets1 a_sheets1_numbers a_sheets2 a_sheets2_numbers a_sheets3 a_sheets3_numbers a_findings v_isKept k.1 k.2.1 k.2.2.1 k.2.2.2.1 k.2.2.2.2.1 k.2.2.2.2.2.1 k.2.2.2.2.2.2.1 k.2.2.2.2.2.2.2.1 k.2.2.2.2.2.2.2.2.1 k.2.2.2.2.2.2.2.2.2.1 k.2.2.2.2.2.2.2.2.2.2.1 k.2.2.2.2.2.2.2.2.2.2.2.1 k.2.2.2.2.2.2.2.2.2.2.2.2)) kk')) 0 0 (va_A (wX4_sheet cI cJ cZ cS a_t a_party a_kept a_tape a_telephone a_sheets a_sheets0 a_sheets0_numbers a_sheets1 a_sheets1_numbers a_sheets2 a_sheets2_numbers a_sheets3 a_sheets3_numbers a_findings v_isKept v_sheets0_bits v_sheets0_size v_sheets0_numbers v_sheets1_bits v_sheets1_size v_sheets1_numbers v_sheets2_bits v_sheets2_size v_sheets2_numbers v_sheets3_bits v_sheets3_size v_sheets3_numbers v_findings) sz) := by
  refine q_enter (Qf := fun A => (q_Ri D rr A ((fun k : Int32 × Int32 × (Nat → Int64) × Int32 × Int32 × (Nat → Int64) × Int32 × Int32 × (Nat → Int64) × Int32 × Int32 × (Nat → Int64) × (Nat → Int32) => (wX4_sheet cI cJ cZ cS a_t a_party a_kept a_tape a_telephone a_sheets a_sheets0 a_sheets0_numbers a_sheets1 a_sheets1_numbers a_sheets2 a_sheets2_numbers a_sheets3 a_sheets3_numbers a_findings v_isKept k.1 k.2.1 k.2.2.1 k.2.2.2.1 k.2.2.2.2.1 k.2.2.2.2.2.1 k.2.2.2.2.2.2.1 k.2.2.2.2.2.2.2.1 k.2.2.2.2.2.2.2.2.1 k.2.2.2.2.2.2.2.2.2.1 k.2.2.2.2.2.2.2.2.2.2.1 k.2.2.2.2.2.2.2.2.2.2.2.1 k.2.2.2.2.2.2.2.2.2.2.2.2)) kk'))) (by decide) rfl (Nat.le_of_ble_eq_true rfl) ?_
  intro p e s m below meth c A ls fx hname h hl
  have hx := fx.1
  have hb := fx.2.1
  have hl : lv_has ls 4 [(0, .ref a_t), (1, .int x1), (2, .int x2), (3, .int x3)] := hl
  generalize h9 : s.heap = H at h ⊢
  clear h9
  generalize h9 : ([] : List Loc) = locs at h ⊢
  clear h9
  unfold fX4_sheet at hf
  refine lv_iload_n hx hb dX4_sheet_0 rfl (lv_at hl 1 rfl) ?_
  obtain ⟨r11, k11, hg, hf⟩ := bR_inv hf
  refine q_ci (rest := []) (ws' := (wX4_sheet cI cJ cZ cS a_t a_party a_kept a_tape a_telephone a_sheets a_sheets0 a_sheets0_numbers a_sheets1 a_sheets1_numbers a_sheets2 a_sheets2_numbers a_sheets3 a_sheets3_numbers a_findings v_isKept v_sheets0_bits v_sheets0_size v_sheets0_numbers v_sheets1_bits v_sheets1_size v_sheets1_numbers v_sheets2_bits v_sheets2_size v_sheets2_numbers v_sheets3_bits v_sheets3_size v_sheets3_numbers v_findings)) (w1 := (wX4_isSheet cI cJ cZ cS)) fx h [] rfl rfl rfl rfl (q_runS fx h hl.1 [] rfl rfl (tX4_isSheet l D cI cJ cZ cS tb H.size x1 r11 k11 hg) msX4_isSheet k_536 ⟨rfl, rfl⟩ ⟨Nat.le_of_ble_eq_true rfl, Nat.le_of_ble_eq_true rfl⟩ rfl rfl (Nat.le_of_ble_eq_true rfl) dX4_sheet_1 ⟨Nat.le_of_ble_eq_true rfl, Nat.le_of_ble_eq_true rfl⟩) (fun H locs h => ?_)
  refine lv_if_eq (tgt := 29) hx hb dX4_sheet_4 (by decide) (fun c12 => ?_) (fun c12 => ?_)
  · have hf := it_t c12 hf
    exact LX4_sheet_29 fx h (lv_sub hl [0] rfl) hf
  have hf := it_f c12 hf
  refine lv_iload_n hx hb dX4_sheet_7 rfl (lv_at hl 2 rfl) ?_
  refine lv_if_eq (tgt := 36) hx hb dX4_sheet_8 (by decide) (fun c13 => ?_) (fun c13 => ?_)
  · have hf := it_t c13 hf
    exact LX4_sheet_36 fx h (lv_sub hl [0, 1, 2, 3] rfl) hf
  have hf := it_f c13 hf
  refine lv_iload_n hx hb dX4_sheet_11 rfl (lv_at hl 2 rfl) ?_
  refine lv_bipush (v := 8) hx hb dX4_sheet_12 (by decide) ?_
  refine lv_icmp_eq (tgt := 36) hx hb dX4_sheet_14 (by decide) (fun c14 => ?_) (fun c14 => ?_)
  · have hf := it_t c14 hf
    exact LX4_sheet_36 fx h (lv_sub hl [0, 1, 2, 3] rfl) hf
  have hf := it_f c14 hf
  refine lv_iload_n hx hb dX4_sheet_17 rfl (lv_at hl 2 rfl) ?_
  refine lv_bipush (v := 16) hx hb dX4_sheet_18 (by decide) ?_
  refine lv_icmp_eq (tgt := 36) hx hb dX4_sheet_20 (by decide) (fun c15 => ?_) (fun c15 => ?_)
  · have hf := it_t c15 hf
    exact LX4_sheet_36 fx h (lv_sub hl [0, 1, 2, 3] rfl) hf
  have hf := it_f c15 hf
  refine lv_iload_n hx hb dX4_sheet_23 rfl (lv_at hl 2 rfl) ?_
  refine lv_bipush (v := 64) hx hb dX4_sheet_24 (by decide) ?_
  refine lv_icmp_eq (tgt := 36) hx hb dX4_sheet_26 (by decide) (fun c16 => ?_) (fun c16 => ?_)
  · have hf := it_t c16 hf
    exact LX4_sheet_36 fx h (lv_sub hl [0, 1, 2, 3] rfl) hf
  have hf := it_f c16 hf
  exact LX4_sheet_29 fx h (lv_sub hl [0] rfl) hf
/-! X1_isMissing -/
abbrev wX1_isMissing (cI cJ cZ cS : ClassId) (a_t a_numbers : Nat) (v_bits : Int32) (v_size : Int32) : va_W := [(a_t, .inr (1, [.int v_bits, .int v_size, .ref a_numbers]))]
abbrev rX1_isMissing : Room := { frames := 0, cells := 0, slots := 0, locals := 0 }
def fX1_isMissing (v_bits : Int32) : Option (Int32 × Unit) :=
  (if v_bits = 0 then (
  some (1, ()))
  else (
  some (0, ())))
set_option maxRecDepth 100000 in
set_option maxHeartbeats 4000000 in
theorem tX1_isMissing (l : Launch) (D : va_G) (cI cJ cZ cS : ClassId) (tb : Nat) (a_t a_numbers : Nat) (sz : Nat) (v_bits : Int32) (v_size : Int32) (rr : Int32) (kk' : Unit) (hf : fX1_isMissing v_bits = some (rr, kk')) : Met l yX1_isMissing (Cond.code yX1_isMissing cX1_isMissing 1 (some .boolean) :: wA) rX1_isMissing (q_Pre D cI cJ cZ cS tb [.ref a_t] sz (wX1_isMissing cI cJ cZ cS a_t a_numbers v_bits v_size)) (q_Ri D rr (va_A (wX1_isMissing cI cJ cZ cS a_t a_numbers v_bits v_size) sz) ((fun k : Unit => (wX1_isMissing cI cJ cZ cS a_t a_numbers v_bits v_size)) kk')) 0 0 (va_A (wX1_isMissing cI cJ cZ cS a_t a_numbers v_bits v_size) sz) := by
  refine q_enter (Qf := fun A => (q_Ri D rr A ((fun k : Unit => (wX1_isMissing cI cJ cZ cS a_t a_numbers v_bits v_size)) kk'))) (by decide) rfl (Nat.le_of_ble_eq_true rfl) ?_
  intro p e s m below meth c A ls fx hname h hl
  have hx := fx.1
  have hb := fx.2.1
  have hl : lv_has ls 1 [(0, .ref a_t)] := hl
  generalize h9 : s.heap = H at h ⊢
  clear h9
  generalize h9 : ([] : List Loc) = locs at h ⊢
  clear h9
  unfold fX1_isMissing at hf
  refine lv_aload_n hx hb dX1_isMissing_0 rfl (lv_at hl 0 rfl) ?_
  refine q_get (v := .int v_bits) fx inX1 h 0 rfl rfl 0 (by decide) k_161 rfl dX1_isMissing_1 ?_
  refine lv_if_ne (tgt := 11) hx hb dX1_isMissing_4 (by decide) (fun c1 => ?_) (fun c1 => ?_)
  · have hf := it_f c1 hf
    refine lv_iconst (v := 0) hx hb dX1_isMissing_11 (by decide) ?_
    exact q_retz (fun k : Unit => (wX1_isMissing cI cJ cZ cS a_t a_numbers v_bits v_size)) fx rfl hf h dX1_isMissing_12
  have hf := it_t c1 hf
  refine lv_iconst (v := 1) hx hb dX1_isMissing_7 (by decide) ?_
  refine lv_goto (tgt := 12) hx hb dX1_isMissing_8 (by decide) ?_
  exact q_retz (fun k : Unit => (wX1_isMissing cI cJ cZ cS a_t a_numbers v_bits v_size)) fx rfl hf h dX1_isMissing_12
