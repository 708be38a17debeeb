/-! shifts, and places that are known -/
abbrev jushr (x y : Int32) : Int32 := (x.toUInt32 >>> (y.toUInt32 &&& Int32.toUInt32 31)).toInt32
abbrev jshl (x y : Int32) : Int32 := x <<< (y &&& 31)
abbrev jshr (x y : Int32) : Int32 := x >>> (y &&& 31)
abbrev jlushr (x : Int64) (y : Int32) : Int64 := (x.toUInt64 >>> (y.toInt64.toUInt64 &&& Int64.toUInt64 63)).toInt64
abbrev jlshl (x : Int64) (y : Int32) : Int64 := x <<< (y.toInt64 &&& 63)
abbrev jrem (x y : Int32) : Int32 := x - x / y * y
abbrev jlrem (x y : Int64) : Int64 := x - x / y * y
abbrev jmax (x y : Int32) : Int32 := if x < y then y else x
abbrev jmin (x y : Int32) : Int32 := if y < x then y else x
theorem vinK {i : Int32} {n : Nat} (h : decide (¬ (i < 0 ∨ n ≤ i.toNatClampNeg)) = true) : vp_in i n := by
  have h2 := of_decide_eq_true h
  exact h2
section QK
variable {p : Program} {l : Launch} {e : Env} {R : Room} {s : State} {m : MethodId} {args : Array Value} {below : List Frame} {meth : Method} {c : Code} {H : Heap} {locs : List Loc} {cells slots : Nat} {Q : State → Prop}
variable {cc bytes : ByteArray} {pc nL maxL n index : Nat} {ls : Array Slot} {rest As st0 : List Value} {D : va_G} {A : Nat → Prop} {a b tb : Nat} {cI cJ cZ cS : ClassId} {ws ws' wc w1 : va_W} {own C : String} {y : MethodName} {ret ret0 : Option FieldType} {rm : Room}
theorem q_ialdK (fx : q_Fx p s m args meth c cc nL own ret0 D cI cJ cZ cS tb A) (h : q_H D A s ws H locs) (q0 : Nat) {f : Nat → Int32} (ha : ws[q0]? = some (a, .inl (cI, n, .inl f))) {i : Int32} (j : Nat) (hin : vp_in i n) (hj : i.toNatClampNeg = j) (hdg : decode cc pc = .ok (.iaload, 1))
    (kk : W p l e R s m args below meth c H locs cells slots Q (F0 m (pc + 1) ls (.int (f j) :: rest))) : W p l e R s m args below meth c H locs cells slots Q (F0 m pc ls (.int i :: .ref a :: rest)) := by
  subst hj; exact q_iald fx h q0 ha hin hdg kk
theorem q_zaldK (fx : q_Fx p s m args meth c cc nL own ret0 D cI cJ cZ cS tb A) (h : q_H D A s ws H locs) (q0 : Nat) {f : Nat → Int32} (ha : ws[q0]? = some (a, .inl (cZ, n, .inl f))) {i : Int32} (j : Nat) (hin : vp_in i n) (hj : i.toNatClampNeg = j) (hdg : decode cc pc = .ok (.baload, 1))
    (kk : W p l e R s m args below meth c H locs cells slots Q (F0 m (pc + 1) ls (.int (f j) :: rest))) : W p l e R s m args below meth c H locs cells slots Q (F0 m pc ls (.int i :: .ref a :: rest)) := by
  subst hj; exact q_zald fx h q0 ha hin hdg kk
theorem q_iastK (fx : q_Fx p s m args meth c cc nL own ret0 D cI cJ cZ cS tb A) (h : q_H D A s ws H locs) (q0 : Nat) {f : Nat → Int32} (ha : ws[q0]? = some (a, .inl (cI, n, .inl f))) {i x : Int32} (j : Nat) (hin : vp_in i n) (hj : i.toNatClampNeg = j) (hE : ws.set q0 (a, .inl (cI, n, .inl (upd f j x))) = ws') (hdg : decode cc pc = .ok (.iastore, 1))
    (kk : ∀ (H : Heap) (locs : List Loc), q_H D A s ws' H locs → W p l e R s m args below meth c H locs cells slots Q (F0 m (pc + 1) ls rest)) : W p l e R s m args below meth c H locs cells slots Q (F0 m pc ls (.int x :: .int i :: .ref a :: rest)) := by
  subst hj; exact q_iast fx h q0 ha hin hE hdg kk
theorem q_copyi (fx : q_Fx p s m args meth c cc nL own ret0 D cI cJ cZ cS tb A) (h : q_H D A s ws H locs) (hsz : ls.size = nL) (q0 q1 : Nat) {a0 n0 n1 : Nat} {f g : Nat → Int32} (ha0 : ws[q0]? = some (a0, .inl (cI, n0, .inl f))) (ha1 : ws[q1]? = some (a, .inl (cI, n1, .inl g))) (hlink : Cond.methodLink own index arraycopyName ∈ wA) (hnat : Cond.native arraycopyName ∈ wA) (hst : Cond.static arraycopyName ∈ wA) (hini : Cond.initialized RJ10 ∈ wA)
    {sp dp k : Int32} (hh : ¬ sp < 0 ∧ ¬ dp < 0 ∧ ¬ k < 0 ∧ sp.toNatClampNeg + k.toNatClampNeg ≤ n0 ∧ dp.toNatClampNeg + k.toNatClampNeg ≤ n1) (hfr : 1 ≤ R.frames) (hlo : (rest.map fun v => v.category).sum + 18 ≤ R.locals) (hE : ws.set q1 (a, .inl (cI, n1, .inl (va_cpy f g sp.toNatClampNeg dp.toNatClampNeg k.toNatClampNeg))) = ws') (hdg : decode cc pc = .ok (.invokestatic index, 3))
    (kk : ∀ (H : Heap) (locs : List Loc), q_H D A s ws' H locs → W p l e R s m args below meth c H locs cells slots Q (F0 m (pc + 3) ls rest)) : W p l e R s m args below meth c H locs cells slots Q (F0 m pc ls (.int k :: .int dp :: .ref a :: .int sp :: .ref a0 :: rest)) := by
  obtain ⟨hx, hb, hml, hown, hts, -, -, hG, -⟩ := fx
  subst hE
  exact va_copyi hx hb (hml.trans hsz.symm) hown (hts _ hlink) (hts _ hnat) (hts _ hst) (hts _ hini) hG.1 h.1 h.2.1 h.2.2 q0 q1 0 0 ha0 ha1 rfl rfl rfl hh.1 hh.2.1 hh.2.2.1 hh.2.2.2.1 hh.2.2.2.2 (fun _ _ => rfl) hfr hlo hdg (fun H1 locs1 h1 h2 h3 => kk H1 locs1 ⟨h1, h2, h3⟩)
theorem q_copyl (fx : q_Fx p s m args meth c cc nL own ret0 D cI cJ cZ cS tb A) (h : q_H D A s ws H locs) (hsz : ls.size = nL) (q0 q1 : Nat) {a0 n0 n1 : Nat} {f g : Nat → Int64} (ha0 : ws[q0]? = some (a0, .inl (cJ, n0, .inr (.inl f)))) (ha1 : ws[q1]? = some (a, .inl (cJ, n1, .inr (.inl g)))) (hlink : Cond.methodLink own index arraycopyName ∈ wA) (hnat : Cond.native arraycopyName ∈ wA) (hst : Cond.static arraycopyName ∈ wA) (hini : Cond.initialized RJ10 ∈ wA)
    {sp dp k : Int32} (hh : ¬ sp < 0 ∧ ¬ dp < 0 ∧ ¬ k < 0 ∧ sp.toNatClampNeg + k.toNatClampNeg ≤ n0 ∧ dp.toNatClampNeg + k.toNatClampNeg ≤ n1) (hfr : 1 ≤ R.frames) (hlo : (rest.map fun v => v.category).sum + 18 ≤ R.locals) (hE : ws.set q1 (a, .inl (cJ, n1, .inr (.inl (va_cpy f g sp.toNatClampNeg dp.toNatClampNeg k.toNatClampNeg)))) = ws') (hdg : decode cc pc = .ok (.invokestatic index, 3))
    (kk : ∀ (H : Heap) (locs : List Loc), q_H D A s ws' H locs → W p l e R s m args below meth c H locs cells slots Q (F0 m (pc + 3) ls rest)) : W p l e R s m args below meth c H locs cells slots Q (F0 m pc ls (.int k :: .int dp :: .ref a :: .int sp :: .ref a0 :: rest)) := by
  obtain ⟨hx, hb, hml, hown, hts, -, -, hG, -⟩ := fx
  subst hE
  exact va_copyl hx hb (hml.trans hsz.symm) hown (hts _ hlink) (hts _ hnat) (hts _ hst) (hts _ hini) hG.1 h.1 h.2.1 h.2.2 q0 q1 1 1 ha0 ha1 rfl rfl rfl hh.1 hh.2.1 hh.2.2.1 hh.2.2.2.1 hh.2.2.2.2 (fun _ _ => rfl) hfr hlo hdg (fun H1 locs1 h1 h2 h3 => kk H1 locs1 ⟨h1, h2, h3⟩)
theorem q_mmax (fx : q_Fx p s m args meth c cc nL own ret0 D cI cJ cZ cS tb A) (hsz : ls.size = nL) (hlink : Cond.methodLink own index yJ9_max_7cf53 ∈ wA) (hfr : 1 ≤ R.frames) (hlo : (rest.map fun v => v.category).sum + 13 ≤ R.locals) (hc : cells ≤ R.cells) (hs : slots ≤ R.slots) {x y : Int32} (hdg : decode cc pc = .ok (.invokestatic index, 3))
    (kk : W p l e R s m args below meth c H locs cells slots Q (F0 m (pc + 3) ls (.int (jmax x y) :: rest))) : W p l e R s m args below meth c H locs cells slots Q (F0 m pc ls (.int y :: .int x :: rest)) := by
  obtain ⟨hx, hb, hml, hown, hts, -, -, hG, -⟩ := fx
  exact va_mmax hx hb (hml.trans hsz.symm) hown (hts _ hlink) (hts _ msJ9_max_7cf53.2.1) (hts _ msJ9_max_7cf53.2.2.1) (hts _ msJ9_max_7cf53.1) hfr hlo hc hs hdg kk
theorem q_mmin (fx : q_Fx p s m args meth c cc nL own ret0 D cI cJ cZ cS tb A) (hsz : ls.size = nL) (hlink : Cond.methodLink own index yJ9_min_7cf53 ∈ wA) (hfr : 1 ≤ R.frames) (hlo : (rest.map fun v => v.category).sum + 13 ≤ R.locals) (hc : cells ≤ R.cells) (hs : slots ≤ R.slots) {x y : Int32} (hdg : decode cc pc = .ok (.invokestatic index, 3))
    (kk : W p l e R s m args below meth c H locs cells slots Q (F0 m (pc + 3) ls (.int (jmin x y) :: rest))) : W p l e R s m args below meth c H locs cells slots Q (F0 m pc ls (.int y :: .int x :: rest)) := by
  obtain ⟨hx, hb, hml, hown, hts, -, -, hG, -⟩ := fx
  exact va_mmin hx hb (hml.trans hsz.symm) hown (hts _ hlink) (hts _ msJ9_min_7cf53.2.1) (hts _ msJ9_min_7cf53.2.2.1) (hts _ msJ9_min_7cf53.1) hfr hlo hc hs hdg kk
end QK
