/-! my kit: one list of words for all methods, a world's bundle, calls in one row, and the pure words that a method is told in -/
theorem wA_ex : ∃ l : List Cond, l = lw_tbl.filter goodWord := ⟨_, rfl⟩
noncomputable def wA : List Cond := wA_ex.choose
theorem wA_eq : wA = lw_tbl.filter goodWord := wA_ex.choose_spec
theorem wA_in {w : Cond} (h : w ∈ lw_tbl) (g : goodWord w = true) : w ∈ wA := wA_eq ▸ List.mem_filter.mpr ⟨h, g⟩
theorem wA_tbl {w : Cond} (h : w ∈ wA) : w ∈ lw_tbl := (List.mem_filter.mp (wA_eq ▸ h)).1
theorem wA_good (w : Cond) (h : w ∈ wA) : GoodIn wA (w :: wA) := by
  intro x hx
  have hx' : x ∈ wA := (List.mem_cons.mp hx).elim (fun e => e ▸ h) id
  exact ⟨hx', good_of_word (List.mem_filter.mp (wA_eq ▸ hx')).2⟩
/-- pure words -/
def gIn {β : Type} (i : Int32) (n : Nat) (k : Option β) : Option β := if i < 0 ∨ n ≤ i.toNatClampNeg then none else k
theorem gIn_inv {β : Type} {i : Int32} {n : Nat} {k : Option β} {r : β} (h : gIn i n k = some r) : vp_in i n ∧ k = some r := by
  unfold gIn at h
  by_cases c : i < 0 ∨ n ≤ i.toNatClampNeg
  · rw [if_pos c] at h; cases h
  · rw [if_neg c] at h; exact ⟨c, h⟩
def gNz {β : Type} (y : Int32) (k : Option β) : Option β := if y = 0 then none else k
theorem gNz_inv {β : Type} {y : Int32} {k : Option β} {r : β} (h : gNz y k = some r) : ¬ y = 0 ∧ k = some r := by
  unfold gNz at h
  by_cases c : y = 0
  · rw [if_pos c] at h; cases h
  · rw [if_neg c] at h; exact ⟨c, h⟩
def gNzL {β : Type} (y : Int64) (k : Option β) : Option β := if y = 0 then none else k
theorem gNzL_inv {β : Type} {y : Int64} {k : Option β} {r : β} (h : gNzL y k = some r) : ¬ y = 0 ∧ k = some r := by
  unfold gNzL at h
  by_cases c : y = 0
  · rw [if_pos c] at h; cases h
  · rw [if_neg c] at h; exact ⟨c, h⟩
/-- an answer of kind boolean is 0 or 1 -/
def gB {β : Type} (v : Int32) (k : Option β) : Option β := if v = 0 ∨ v = 1 then k else none
theorem gB_inv {β : Type} {v : Int32} {k : Option β} {r : β} (h : gB v k = some r) : narrow .boolean (.int v) = .int v ∧ k = some r := by
  unfold gB at h
  by_cases c : v = 0 ∨ v = 1
  · rw [if_pos c] at h
    refine ⟨?_, h⟩
    rcases c with rfl | rfl <;> rfl
  · rw [if_neg c] at h; cases h
def gCp {β : Type} (sp dp n : Int32) (n0 n1 : Nat) (k : Option β) : Option β := if sp < 0 ∨ dp < 0 ∨ n < 0 ∨ n0 < sp.toNatClampNeg + n.toNatClampNeg ∨ n1 < dp.toNatClampNeg + n.toNatClampNeg then none else k
theorem gCp_inv {β : Type} {sp dp n : Int32} {n0 n1 : Nat} {k : Option β} {r : β} (h : gCp sp dp n n0 n1 k = some r) : (¬ sp < 0 ∧ ¬ dp < 0 ∧ ¬ n < 0 ∧ sp.toNatClampNeg + n.toNatClampNeg ≤ n0 ∧ dp.toNatClampNeg + n.toNatClampNeg ≤ n1) ∧ k = some r := by
  unfold gCp at h
  by_cases c : sp < 0 ∨ dp < 0 ∨ n < 0 ∨ n0 < sp.toNatClampNeg + n.toNatClampNeg ∨ n1 < dp.toNatClampNeg + n.toNatClampNeg
  · rw [if_pos c] at h; cases h
  · rw [if_neg c] at h
    simp only [not_or, Nat.not_lt] at c
    exact ⟨c, h⟩
def sel4 {β : Type} (i : Int32) (k0 k1 k2 k3 : Option β) : Option β := if i = 0 then k0 else if i = 1 then k1 else if i = 2 then k2 else if i = 3 then k3 else none
theorem sel4_inv {β : Type} {i : Int32} {k0 k1 k2 k3 : Option β} {r : β} (h : sel4 i k0 k1 k2 k3 = some r) : (i = 0 ∧ k0 = some r) ∨ (i = 1 ∧ k1 = some r) ∨ (i = 2 ∧ k2 = some r) ∨ (i = 3 ∧ k3 = some r) := by
  unfold sel4 at h
  by_cases c : i = 0
  · rw [if_pos c] at h; exact Or.inl ⟨c, h⟩
  rw [if_neg c] at h
  by_cases c : i = 1
  · rw [if_pos c] at h; exact Or.inr (Or.inl ⟨c, h⟩)
  rw [if_neg c] at h
  by_cases c : i = 2
  · rw [if_pos c] at h; exact Or.inr (Or.inr (Or.inl ⟨c, h⟩))
  rw [if_neg c] at h
  by_cases c : i = 3
  · rw [if_pos c] at h; exact Or.inr (Or.inr (Or.inr ⟨c, h⟩))
  rw [if_neg c] at h; cases h
def bR {α κ β : Type} (o : Option (α × κ)) (k : α → κ → Option β) : Option β := match o with
  | none => none
  | some q => k q.1 q.2
theorem bR_inv {α κ β : Type} {o : Option (α × κ)} {k : α → κ → Option β} {r : β} (h : bR o k = some r) : ∃ a x, o = some (a, x) ∧ k a x = some r := by
  cases o with
  | none => cases h
  | some q => exact ⟨q.1, q.2, rfl, h⟩
theorem bR_some {α κ β : Type} (a : α) (x : κ) (k : α → κ → Option β) : bR (some (a, x)) k = k a x := rfl
theorem bR_of {α κ β : Type} {o : Option (α × κ)} {a : α} {x : κ} (k : α → κ → Option β) (h : o = some (a, x)) : bR o k = k a x := by rw [h]; rfl
def bV {κ β : Type} (o : Option κ) (k : κ → Option β) : Option β := match o with
  | none => none
  | some q => k q
theorem bV_inv {κ β : Type} {o : Option κ} {k : κ → Option β} {r : β} (h : bV o k = some r) : ∃ x, o = some x ∧ k x = some r := by
  cases o with
  | none => cases h
  | some q => exact ⟨q, rfl, h⟩
theorem bV_of {κ β : Type} {o : Option κ} {x : κ} (k : κ → Option β) (h : o = some x) : bV o k = k x := by rw [h]; rfl
def nm {α β : Type} (e : α) (k : α → Option β) : Option β := k e
theorem nm_inv {α β : Type} {e : α} {k : α → Option β} {r : β} (h : nm e k = some r) : ∃ x, x = e ∧ k x = some r := ⟨e, rfl, h⟩
theorem nm_of {α β : Type} (e : α) (k : α → Option β) : nm e k = k e := rfl
theorem it_t {c : Prop} [Decidable c] {α : Type} {a b x : α} (h : c) (e : (if c then a else b) = x) : a = x := by rw [if_pos h] at e; exact e
theorem it_f {c : Prop} [Decidable c] {α : Type} {a b x : α} (h : ¬ c) (e : (if c then a else b) = x) : b = x := by rw [if_neg h] at e; exact e
theorem it_or {c : Prop} [Decidable c] {α : Type} {a b x : α} (e : (if c then a else b) = x) : (c ∧ a = x) ∨ (¬ c ∧ b = x) := by
  by_cases h : c
  · exact Or.inl ⟨h, it_t h e⟩
  · exact Or.inr ⟨h, it_f h e⟩
/-- how often a loop may go round -/
def qF : Nat := 1024
/-- the class's own table of words -/
def q_tb : Nat → Int64 := fun j => match j with
  | 0 => -6148914691236517206
  | 1 => -3689348814741910324
  | 2 => -1085102592571150096
  | 3 => -71777214294589696
  | 4 => -281470681808896
  | _ => -4294967296
def q_tab : Nat → Value := fun j => .long (q_tb j)
def q_sh (s0 s1 s2 s3 : Nat) : Nat → Option Nat := fun j => match j with
  | 0 => some s0
  | 1 => some s1
  | 2 => some s2
  | 3 => some s3
  | _ => none
/-- what the tables say of the nest -/
def q_N (U : State) : Prop := (∀ q ∈ nF, va_Nw (.fieldLinkNest q.1 q.2.1 q.2.2.1 q.2.2.2.1 q.2.2.2.2.1 q.2.2.2.2.2) U) ∧ ∀ q ∈ nM, va_Nw (.methodLinkNest q.1 q.2.1 q.2.2.1 q.2.2.2) U
theorem q_N.warm {s U : State} (h : q_N s) (hW : s.WarmedH U.vm) : q_N U := ⟨fun q hq => va_Nw.warmF hW (h.1 q hq), fun q hq => va_Nw.warmM hW (h.2 q hq)⟩
theorem q_N.same {s U : State} (h : q_N s) (e : s.vm = U.vm) : q_N U := ⟨fun q hq => va_Nw.same rfl e (h.1 q hq), fun q hq => va_Nw.same rfl e (h.2 q hq)⟩
abbrev q_ty (cI cJ cZ cS : ClassId) : List (ClassId × FieldType) := [(cI, .int), (cJ, .long), (cZ, .boolean), (cS, .object "ComeIfShe$Sheet")]
/-- what never changes: the tables, the nest, the static row -/
def q_G (D : va_G) (cI cJ cZ cS : ClassId) (tb : Nat) (A : Nat → Prop) (U : State) : Prop :=
  va_K D vwCl (q_ty cI cJ cZ cS) U ∧ q_N U ∧ va_AO "ComeIfShe$Sheet" U ∧ va_Z "ComeIfShe" "LISTS_WITH" "[J" (.ref tb) A U U.heap ∧ va_T .long tb 6 q_tab A U U.heap
/-- the cells now -/
def q_H (D : va_G) (A : Nat → Prop) (s : State) (ws : va_W) (H : Heap) (locs : List Loc) : Prop := va_P D vwCl ws H ∧ va_D A ws ∧ va_S A s.heap H locs
def q_Pre (D : va_G) (cI cJ cZ cS : ClassId) (tb : Nat) (av : List Value) (sz : Nat) (W0 : va_W) : Array Value → State → Prop :=
  va_Pc av (fun U => U.heap.size = sz ∧ va_P D vwCl W0 U.heap ∧ q_G D cI cJ cZ cS tb (va_A W0 sz) U ∧ va_D (fun _ => True) W0)
def q_Qi (D : va_G) (r : Int32) (W0 W1 : va_W) (sz : Nat) : Array Value → State → Outcome → State → Prop :=
  va_Qi (fun x (_ : Unit) => x = r) (fun _ t => va_P D vwCl W1 t.heap ∧ va_D (va_A W0 sz) W1) (va_A W0 sz)
def q_Ql (D : va_G) (r : Int64) (W0 W1 : va_W) (sz : Nat) : Array Value → State → Outcome → State → Prop :=
  va_Ql (fun x (_ : Unit) => x = r) (fun _ t => va_P D vwCl W1 t.heap ∧ va_D (va_A W0 sz) W1) (va_A W0 sz)
def q_Qv (D : va_G) (W0 W1 : va_W) (sz : Nat) : Array Value → State → Outcome → State → Prop :=
  va_Qv (fun (_ : Unit) => True) (fun _ t => va_P D vwCl W1 t.heap ∧ va_D (va_A W0 sz) W1) (va_A W0 sz)
/-- a constructor: new cells, their addresses u -/
def q_Qn (D : va_G) (W0 : va_W) (W1 : (Nat → Nat) → va_W) (sz : Nat) : Array Value → State → Outcome → State → Prop :=
  va_Qv (fun (_ : Nat → Nat) => True) (fun u t => va_P D vwCl (W1 u) t.heap ∧ va_D (va_A W0 sz) (W1 u)) (va_A W0 sz)
theorem q_blind {D : va_G} {cI cJ cZ cS : ClassId} {tb : Nat} {av : List Value} {sz : Nat} {W0 : va_W} : FrameBlind (q_Pre D cI cJ cZ cS tb av sz W0) := by
  intro a U g mk q
  obtain ⟨q0, q1, q2, ⟨g1, g2, g3, g4, g5⟩, q4⟩ := q
  have hvm : U.vm.Alike (U.calling g mk a).vm := Vm.Alike.refl U.vm
  exact ⟨q0, q1, q2, ⟨va_K.moved hvm g1, q_N.same g2 rfl, va_AO.moved hvm g3, va_Z.moved hvm g4, va_T.moved hvm g5⟩, q4⟩
/-- the fixed facts inside a method -/
def q_Fx (p : Program) (s : State) (m : MethodId) (args : Array Value) (meth : Method) (c : Code) (cc : ByteArray) (nL : Nat) (own : String) (ret : Option FieldType) (D : va_G) (cI cJ cZ cS : ClassId) (tb : Nat) (A : Nat → Prop) : Prop :=
  p.tables.exec = Jvm.exec ∧ c.code = cc ∧ c.maxLocals = nL ∧ s.vm.findClass own = some m.cls ∧ (∀ w ∈ wA, w.before args s = true) ∧ meth.sig.returnType = ret ∧ meth.locks = false ∧ q_G D cI cJ cZ cS tb A s ∧ (∀ q, s.heap.size ≤ q → A q)
/-- a list of cells with some put anew -/
def q_upd : va_W → List Nat → va_W → va_W
  | ws, i :: is, x :: xs => q_upd (ws.set i x) is xs
  | ws, _, _ => ws
theorem q_upd_get : ∀ (is : List Nat) (xs ws : va_W), is.length = xs.length → ∀ (j : Nat) (q : Nat × va_E), (q_upd ws is xs)[j]? = some q → (∃ k : Nat, xs[k]? = some q ∧ is[k]? = some j) ∨ (ws[j]? = some q ∧ j ∉ is)
  | [], [], ws, _, j, q, h => Or.inr ⟨h, List.not_mem_nil⟩
  | [], x :: xs, ws, e, _, _, _ => by simp at e
  | i :: is, [], ws, e, _, _, _ => by simp at e
  | i :: is, x :: xs, ws, e, j, q, h => by
    rcases q_upd_get is xs (ws.set i x) (by simpa using e) j q h with ⟨k, h1, h2⟩ | ⟨h1, h2⟩
    · exact Or.inl ⟨k + 1, by simpa using h1, by simpa using h2⟩
    · by_cases c : i = j
      · subst c
        rw [List.getElem?_set] at h1
        by_cases hl : i < ws.length
        · simp [hl] at h1
          exact Or.inl ⟨0, by simp [h1], by simp⟩
        · simp [hl] at h1
      · rw [List.getElem?_set_ne c] at h1
        exact Or.inr ⟨h1, by simp only [List.mem_cons, not_or]; exact ⟨fun e => c e.symm, h2⟩⟩
theorem q_Dsame {A : Nat → Prop} {ws ws' : va_W} (hD : va_D A ws) (e : ws'.map Prod.fst = ws.map Prod.fst) : va_D A ws' := by
  have key : ∀ (i : Nat) (p : Nat × va_E), ws'[i]? = some p → ∃ p0, ws[i]? = some p0 ∧ p0.1 = p.1 := by
    intro i p h
    have h1 : (ws'.map Prod.fst)[i]? = some p.1 := by rw [List.getElem?_map, h]; rfl
    rw [e, List.getElem?_map] at h1
    cases h2 : ws[i]? with
    | none => rw [h2] at h1; cases h1
    | some p0 => rw [h2] at h1; exact ⟨p0, rfl, Option.some.inj h1⟩
  refine ⟨fun i j p q hp hq hpq => ?_, fun k q hq => ?_⟩
  · obtain ⟨p0, a1, a2⟩ := key i p hp
    obtain ⟨q0, b1, b2⟩ := key j q hq
    exact hD.1 i j p0 q0 a1 b1 (by rw [a2, b2, hpq])
  · obtain ⟨q0, b1, b2⟩ := key k q hq
    rw [← b2]
    exact hD.2 k q0 b1
theorem q_Psub {D : va_G} {cl : List vw_C} {ws wc : va_W} {H : Heap} (hP : va_P D cl ws H) {is : List Nat} (hC : is.map (fun i => ws[i]?) = wc.map some) : va_P D cl wc H := by
  intro k q hq
  have h1 : (is.map (fun i => ws[i]?))[k]? = some (some q) := by rw [hC, List.getElem?_map, hq]; rfl
  rw [List.getElem?_map] at h1
  cases hi : is[k]? with
  | none => rw [hi] at h1; cases h1
  | some i => rw [hi] at h1; exact hP i q (Option.some.inj h1)
/-- behind a call: the callee's cells as it left them, all others as they were -/
theorem q_back {D : va_G} {A : Nat → Prop} {s : State} {ws wc w1 ws' : va_W} {H H1 : Heap} {locs : List Loc} {is : List Nat} (h : q_H D A s ws H locs) (hC : is.map (fun i => ws[i]?) = wc.map some) (hF : w1.length = is.length) (hE : q_upd ws is w1 = ws') (hfst : ws'.map Prod.fst = ws.map Prod.fst)
    (hk : ∀ q : Nat, q < H.size → ¬ va_A wc H.size q → H1[q]? = H[q]?) (hP1 : va_P D vwCl w1 H1) : va_P D vwCl ws' H1 ∧ va_D A ws' := by
  obtain ⟨hP, hD, -⟩ := h
  subst hE
  refine ⟨fun j q hq => ?_, q_Dsame hD hfst⟩
  rcases q_upd_get is w1 ws hF.symm j q hq with ⟨k, h1, h2⟩ | ⟨h1, h2⟩
  · exact hP1 k q h1
  · refine (hP j q h1).kept (hk q.1 (hP j q h1).lt ?_)
    rintro (⟨k2, e2, h3⟩ | h3)
    · have h4 : (is.map (fun i => ws[i]?))[k2]? = some (some (q.1, e2)) := by rw [hC, List.getElem?_map, h3]; rfl
      rw [List.getElem?_map] at h4
      cases hi : is[k2]? with
      | none => rw [hi] at h4; cases h4
      | some i =>
        rw [hi] at h4
        have hij := hD.1 j i q (q.1, e2) h1 (Option.some.inj h4) rfl
        subst hij
        exact h2 (List.mem_of_getElem? hi)
    · have := (hP j q h1).lt
      omega
/-- what a callee wants of the caller's state -/
theorem q_give {D : va_G} {cI cJ cZ cS : ClassId} {tb : Nat} {A : Nat → Prop} {s : State} {ws wc : va_W} {H : Heap} {locs : List Loc} {is : List Nat} {av : List Value} (hG : q_G D cI cJ cZ cS tb A s) (hA : ∀ q, s.heap.size ≤ q → A q) (h : q_H D A s ws H locs) (hC : is.map (fun i => ws[i]?) = wc.map some) (hn : va_nd is = true) :
    ∀ U : State, U.heap = H → s.WarmedH U.vm → q_Pre D cI cJ cZ cS tb av H.size wc av.toArray U := by
  intro U hU hW
  obtain ⟨hP, hD, hS⟩ := h
  obtain ⟨g1, g2, g3, g4, g5⟩ := hG
  have hFc := va_free (wc := wc) hD hS hA is hC
  have hal := hW.alike
  refine ⟨rfl, by rw [hU], by rw [hU]; exact q_Psub hP hC, ⟨va_K.moved hal g1, g2.warm hW, va_AO.moved hal g3, ?_, ?_⟩, (hD.sub is hn hC).weaken (fun _ _ _ _ => trivial)⟩
  · rw [hU]
    exact va_Z.moved hal ((g4.kept (fun a h1 h2 => hS.2.1 a h1 h2)).narrow hFc)
  · rw [hU]
    exact va_T.moved hal ((g5.kept (fun a h1 h2 => hS.2.1 a h1 h2)).narrow hFc)
section QR
variable {p : Program} {l : Launch} {e : Env} {R : Room} {s : State} {m : MethodId} {args : Array Value} {below : List Frame} {meth : Method} {c : Code} {H : Heap} {locs : List Loc} {cells slots : Nat} {Q : State → Prop}
variable {cc bytes : ByteArray} {pc nL maxL n mc ms index : Nat} {ls : Array Slot} {rest As : List Value} {D : va_G} {A : Nat → Prop} {a b tb : Nat} {cI cJ cZ cS : ClassId} {ws ws' wc w1 : va_W} {own C : String} {y : MethodName} {ret ret0 : Option FieldType} {rm : Room}
theorem lv_eqi {x y : Int32} (h : y = x) (k : W p l e R s m args below meth c H locs cells slots Q (F0 m pc ls (.int y :: rest))) : W p l e R s m args below meth c H locs cells slots Q (F0 m pc ls (.int x :: rest)) := h ▸ k
theorem lv_eql {x y : Int64} (h : y = x) (k : W p l e R s m args below meth c H locs cells slots Q (F0 m pc ls (.long y :: rest))) : W p l e R s m args below meth c H locs cells slots Q (F0 m pc ls (.long x :: rest)) := h ▸ k
theorem q_get (fx : q_Fx p s m args meth c cc nL own ret0 D cI cJ cZ cS tb A) {T : u_T} {N ci : Nat} (hin : ∀ w ∈ u_ws C T N, w ∈ wA) (h : q_H D A s ws H locs) (q0 : Nat) {fs : List Value} (he : ws[q0]? = some (a, .inr (ci, fs))) (hc : vwCl[ci]? = some (C, T, N)) (k : Nat) (hk : k < N) (hlink : Cond.fieldLink own index (T k).1 (T k).2.1 (T k).2.2.1 ∈ wA) {v : Value} (hv : fs[k]? = some v) (hdg : decode cc pc = .ok (.getfield index, 3))
    (kk : W p l e R s m args below meth c H locs cells slots Q (F0 m (pc + 3) ls (v :: rest))) : W p l e R s m args below meth c H locs cells slots Q (F0 m pc ls (.ref a :: rest)) := by
  obtain ⟨hx, hb, -, hown, hts, -, -, hG, -⟩ := fx
  exact va_get hx hb hts hin hown hG.1 h.1 q0 he hc k hk (hts _ hlink) (fun _ h => h) hv hdg kk
theorem q_getN (fx : q_Fx p s m args meth c cc nL own ret0 D cI cJ cZ cS tb A) {T : u_T} {N ci : Nat} {host : String} (hin : ∀ w ∈ u_ws C T N, w ∈ wA) (h : q_H D A s ws H locs) (q0 : Nat) {fs : List Value} (he : ws[q0]? = some (a, .inr (ci, fs))) (hc : vwCl[ci]? = some (C, T, N)) (k : Nat) (hk : k < N) (hlink : (own, index, (T k).1, (T k).2.1, (T k).2.2.1, host) ∈ nF) {v : Value} (hv : fs[k]? = some v) (hdg : decode cc pc = .ok (.getfield index, 3))
    (kk : W p l e R s m args below meth c H locs cells slots Q (F0 m (pc + 3) ls (v :: rest))) : W p l e R s m args below meth c H locs cells slots Q (F0 m pc ls (.ref a :: rest)) := by
  obtain ⟨hx, hb, -, hown, hts, -, -, hG, -⟩ := fx
  have hnest := hG.2.1.1 _ hlink
  exact va_getN hx hb hts hin hown hG.1 h.1 q0 he hc k hk (va_Nw.use rfl hnest) (fun _ h => h) hv hdg kk
theorem q_put (fx : q_Fx p s m args meth c cc nL own ret0 D cI cJ cZ cS tb A) {T : u_T} {N ci : Nat} (hin : ∀ w ∈ u_ws C T N, w ∈ wA) (ty0 : Nat → FieldType) (hty : ∀ k, k < N → parseFieldDescriptor (T k).2.2.1 = some (ty0 k)) (hnm : ∀ a, a < N → ∀ b, b < N → a ≠ b → (T a).2.1 ≠ (T b).2.1) (h : q_H D A s ws H locs) (q0 : Nat) {fs : List Value} (he : ws[q0]? = some (a, .inr (ci, fs))) (hc : vwCl[ci]? = some (C, T, N)) (k : Nat) (hk : k < N) (hlink : Cond.fieldLink own index (T k).1 (T k).2.1 (T k).2.2.1 ∈ wA) (hfin : (T k).2.2.2 = false) {v : Value} (hn : narrow (ty0 k) v = v) (hfit : fits (ty0 k) v = true) (hl : k < fs.length) (hE : ws.set q0 (a, .inr (ci, fs.set k v)) = ws')
    (hdg : decode cc pc = .ok (.putfield index, 3)) (kk : ∀ (H : Heap) (locs : List Loc), q_H D A s ws' H locs → W p l e R s m args below meth c H locs cells slots Q (F0 m (pc + 3) ls rest)) : W p l e R s m args below meth c H locs cells slots Q (F0 m pc ls (v :: .ref a :: rest)) := by
  obtain ⟨hx, hb, -, hown, hts, -, -, hG, -⟩ := fx
  subst hE
  exact va_put hx hb hts hin ty0 hty hnm hown hG.1 h.1 h.2.1 h.2.2 q0 he hc k hk (hts _ hlink) (fun _ h => h) hfin (hty k hk) hn hfit hl hdg (fun H1 locs1 h1 h2 h3 => kk H1 locs1 ⟨h1, h2, h3⟩)
theorem q_putN (fx : q_Fx p s m args meth c cc nL own ret0 D cI cJ cZ cS tb A) {T : u_T} {N ci : Nat} {host : String} (hin : ∀ w ∈ u_ws C T N, w ∈ wA) (ty0 : Nat → FieldType) (hty : ∀ k, k < N → parseFieldDescriptor (T k).2.2.1 = some (ty0 k)) (hnm : ∀ a, a < N → ∀ b, b < N → a ≠ b → (T a).2.1 ≠ (T b).2.1) (h : q_H D A s ws H locs) (q0 : Nat) {fs : List Value} (he : ws[q0]? = some (a, .inr (ci, fs))) (hc : vwCl[ci]? = some (C, T, N)) (k : Nat) (hk : k < N) (hlink : (own, index, (T k).1, (T k).2.1, (T k).2.2.1, host) ∈ nF) (hfin : (T k).2.2.2 = false) {v : Value} (hn : narrow (ty0 k) v = v) (hfit : fits (ty0 k) v = true) (hl : k < fs.length) (hE : ws.set q0 (a, .inr (ci, fs.set k v)) = ws')
    (hdg : decode cc pc = .ok (.putfield index, 3)) (kk : ∀ (H : Heap) (locs : List Loc), q_H D A s ws' H locs → W p l e R s m args below meth c H locs cells slots Q (F0 m (pc + 3) ls rest)) : W p l e R s m args below meth c H locs cells slots Q (F0 m pc ls (v :: .ref a :: rest)) := by
  obtain ⟨hx, hb, -, hown, hts, -, -, hG, -⟩ := fx
  subst hE
  have hnest := hG.2.1.1 _ hlink
  exact va_putN hx hb hts hin ty0 hty hnm hown hG.1 h.1 h.2.1 h.2.2 q0 he hc k hk (va_Nw.use rfl hnest) (fun _ h => h) hfin (hty k hk) hn hfit hl hdg (fun H1 locs1 h1 h2 h3 => kk H1 locs1 ⟨h1, h2, h3⟩)
theorem q_putF (fx : q_Fx p s m args meth c cc nL own ret0 D cI cJ cZ cS tb A) (hin2 : meth.name = "<init>") {T : u_T} {N ci : Nat} (hin : ∀ w ∈ u_ws C T N, w ∈ wA) (ty0 : Nat → FieldType) (hty : ∀ k, k < N → parseFieldDescriptor (T k).2.2.1 = some (ty0 k)) (hnm : ∀ a, a < N → ∀ b, b < N → a ≠ b → (T a).2.1 ≠ (T b).2.1) (h : q_H D A s ws H locs) (q0 : Nat) {fs : List Value} (he : ws[q0]? = some (a, .inr (ci, fs))) (hc : vwCl[ci]? = some (C, T, N)) (k : Nat) (hk : k < N) (hlink : Cond.fieldLink own index (T k).1 (T k).2.1 (T k).2.2.1 ∈ wA) (hfin : (T k).2.2.2 = true) (hdecl : (T k).1 = own) {v : Value} (hn : narrow (ty0 k) v = v) (hfit : fits (ty0 k) v = true) (hl : k < fs.length) (hE : ws.set q0 (a, .inr (ci, fs.set k v)) = ws')
    (hdg : decode cc pc = .ok (.putfield index, 3)) (kk : ∀ (H : Heap) (locs : List Loc), q_H D A s ws' H locs → W p l e R s m args below meth c H locs cells slots Q (F0 m (pc + 3) ls rest)) : W p l e R s m args below meth c H locs cells slots Q (F0 m pc ls (v :: .ref a :: rest)) := by
  obtain ⟨hx, hb, -, hown, hts, -, -, hG, -⟩ := fx
  subst hE
  exact va_putF hx hb hts hin ty0 hty hnm hown hG.1 h.1 h.2.1 h.2.2 q0 he hc k hk (hts _ hlink) (fun _ h => h) hfin hin2 hdecl (hty k hk) hn hfit hl hdg (fun H1 locs1 h1 h2 h3 => kk H1 locs1 ⟨h1, h2, h3⟩)
theorem q_iald (fx : q_Fx p s m args meth c cc nL own ret0 D cI cJ cZ cS tb A) (h : q_H D A s ws H locs) (q0 : Nat) {f : Nat → Int32} (ha : ws[q0]? = some (a, .inl (cI, n, .inl f))) {i : Int32} (hin : vp_in i n) (hdg : decode cc pc = .ok (.iaload, 1))
    (kk : W p l e R s m args below meth c H locs cells slots Q (F0 m (pc + 1) ls (.int (f i.toNatClampNeg) :: rest))) : W p l e R s m args below meth c H locs cells slots Q (F0 m pc ls (.int i :: .ref a :: rest)) :=
  va_iald fx.1 fx.2.1 fx.2.2.2.2.2.2.2.1.1 h.1 q0 0 ha rfl hin hdg kk
theorem q_lald (fx : q_Fx p s m args meth c cc nL own ret0 D cI cJ cZ cS tb A) (h : q_H D A s ws H locs) (q0 : Nat) {f : Nat → Int64} (ha : ws[q0]? = some (a, .inl (cJ, n, .inr (.inl f)))) {i : Int32} (hin : vp_in i n) (hdg : decode cc pc = .ok (.laload, 1))
    (kk : W p l e R s m args below meth c H locs cells slots Q (F0 m (pc + 1) ls (.long (f i.toNatClampNeg) :: rest))) : W p l e R s m args below meth c H locs cells slots Q (F0 m pc ls (.int i :: .ref a :: rest)) :=
  va_lald fx.1 fx.2.1 fx.2.2.2.2.2.2.2.1.1 h.1 q0 1 ha rfl hin hdg kk
theorem q_zald (fx : q_Fx p s m args meth c cc nL own ret0 D cI cJ cZ cS tb A) (h : q_H D A s ws H locs) (q0 : Nat) {f : Nat → Int32} (ha : ws[q0]? = some (a, .inl (cZ, n, .inl f))) {i : Int32} (hin : vp_in i n) (hdg : decode cc pc = .ok (.baload, 1))
    (kk : W p l e R s m args below meth c H locs cells slots Q (F0 m (pc + 1) ls (.int (f i.toNatClampNeg) :: rest))) : W p l e R s m args below meth c H locs cells slots Q (F0 m pc ls (.int i :: .ref a :: rest)) :=
  va_zald fx.1 fx.2.1 fx.2.2.2.2.2.2.2.1.1 h.1 q0 2 ha rfl hin hdg kk
theorem q_iast (fx : q_Fx p s m args meth c cc nL own ret0 D cI cJ cZ cS tb A) (h : q_H D A s ws H locs) (q0 : Nat) {f : Nat → Int32} (ha : ws[q0]? = some (a, .inl (cI, n, .inl f))) {i x : Int32} (hin : vp_in i n) (hE : ws.set q0 (a, .inl (cI, n, .inl (upd f i.toNatClampNeg x))) = ws') (hdg : decode cc pc = .ok (.iastore, 1))
    (kk : ∀ (H : Heap) (locs : List Loc), q_H D A s ws' H locs → W p l e R s m args below meth c H locs cells slots Q (F0 m (pc + 1) ls rest)) : W p l e R s m args below meth c H locs cells slots Q (F0 m pc ls (.int x :: .int i :: .ref a :: rest)) := by
  subst hE
  exact va_iast fx.1 fx.2.1 fx.2.2.2.2.2.2.2.1.1 h.1 h.2.1 h.2.2 q0 0 ha rfl hin hdg (fun H1 locs1 h1 h2 h3 => kk H1 locs1 ⟨h1, h2, h3⟩)
theorem q_zast (fx : q_Fx p s m args meth c cc nL own ret0 D cI cJ cZ cS tb A) (h : q_H D A s ws H locs) (q0 : Nat) {f : Nat → Int32} (ha : ws[q0]? = some (a, .inl (cZ, n, .inl f))) {i x : Int32} (hin : vp_in i n) (hE : ws.set q0 (a, .inl (cZ, n, .inl (upd f i.toNatClampNeg (vp_nar .boolean x)))) = ws') (hdg : decode cc pc = .ok (.bastore, 1))
    (kk : ∀ (H : Heap) (locs : List Loc), q_H D A s ws' H locs → W p l e R s m args below meth c H locs cells slots Q (F0 m (pc + 1) ls rest)) : W p l e R s m args below meth c H locs cells slots Q (F0 m pc ls (.int x :: .int i :: .ref a :: rest)) := by
  subst hE
  exact va_zast fx.1 fx.2.1 fx.2.2.2.2.2.2.2.1.1 h.1 h.2.1 h.2.2 q0 2 ha rfl hin hdg (fun H1 locs1 h1 h2 h3 => kk H1 locs1 ⟨h1, h2, h3⟩)
theorem q_last (fx : q_Fx p s m args meth c cc nL own ret0 D cI cJ cZ cS tb A) (h : q_H D A s ws H locs) (q0 : Nat) {f : Nat → Int64} (ha : ws[q0]? = some (a, .inl (cJ, n, .inr (.inl f)))) {i : Int32} {x : Int64} (hin : vp_in i n) (hE : ws.set q0 (a, .inl (cJ, n, .inr (.inl (vp_updL f i.toNatClampNeg x)))) = ws') (hdg : decode cc pc = .ok (.lastore, 1))
    (kk : ∀ (H : Heap) (locs : List Loc), q_H D A s ws' H locs → W p l e R s m args below meth c H locs cells slots Q (F0 m (pc + 1) ls rest)) : W p l e R s m args below meth c H locs cells slots Q (F0 m pc ls (.long x :: .int i :: .ref a :: rest)) := by
  subst hE
  exact va_last fx.1 fx.2.1 fx.2.2.2.2.2.2.2.1.1 h.1 h.2.1 h.2.2 q0 1 ha rfl hin hdg (fun H1 locs1 h1 h2 h3 => kk H1 locs1 ⟨h1, h2, h3⟩)
theorem q_alenI (fx : q_Fx p s m args meth c cc nL own ret0 D cI cJ cZ cS tb A) (h : q_H D A s ws H locs) (q0 : Nat) {f : Nat → Int32} (ha : ws[q0]? = some (a, .inl (cI, n, .inl f))) (hdg : decode cc pc = .ok (.arraylength, 1))
    (kk : W p l e R s m args below meth c H locs cells slots Q (F0 m (pc + 1) ls (.int (Int32.ofNat n) :: rest))) : W p l e R s m args below meth c H locs cells slots Q (F0 m pc ls (.ref a :: rest)) :=
  va_alen fx.1 fx.2.1 fx.2.2.2.2.2.2.2.1.1 h.1 q0 0 ha rfl rfl hdg kk
theorem q_alenL (fx : q_Fx p s m args meth c cc nL own ret0 D cI cJ cZ cS tb A) (h : q_H D A s ws H locs) (q0 : Nat) {f : Nat → Int64} (ha : ws[q0]? = some (a, .inl (cJ, n, .inr (.inl f)))) (hdg : decode cc pc = .ok (.arraylength, 1))
    (kk : W p l e R s m args below meth c H locs cells slots Q (F0 m (pc + 1) ls (.int (Int32.ofNat n) :: rest))) : W p l e R s m args below meth c H locs cells slots Q (F0 m pc ls (.ref a :: rest)) :=
  va_alen fx.1 fx.2.1 fx.2.2.2.2.2.2.2.1.1 h.1 q0 1 ha rfl rfl hdg kk
/-- a sheet out of the row of sheets -/
theorem q_aald (fx : q_Fx p s m args meth c cc nL own ret0 D cI cJ cZ cS tb A) (h : q_H D A s ws H locs) (q0 : Nat) {s0 s1 s2 s3 : Nat} (ha : ws[q0]? = some (a, .inl (cS, 4, .inr (.inr (.inr (.inr (q_sh s0 s1 s2 s3))))))) {i k : Int32} (hi : i = k) {v : Nat} (hin : vp_in k 4) (hv : va_rf (q_sh s0 s1 s2 s3 k.toNatClampNeg) = .ref v) (hdg : decode cc pc = .ok (.aaload, 1))
    (kk : W p l e R s m args below meth c H locs cells slots Q (F0 m (pc + 1) ls (.ref v :: rest))) : W p l e R s m args below meth c H locs cells slots Q (F0 m pc ls (.int i :: .ref a :: rest)) := by
  subst hi
  refine va_aldq (C := "ComeIfShe$Sheet") fx.1 fx.2.1 fx.2.2.2.2.2.2.2.1.1 h.1 q0 3 ha rfl hin hdg ?_
  rw [hv]
  exact kk
theorem q_tabN (fx : q_Fx p s m args meth c cc nL own ret0 D cI cJ cZ cS tb A) (h : q_H D A s ws H locs) {host : String} (hlink : (own, index, "ComeIfShe", "LISTS_WITH", "[J", host) ∈ nF) (hdg : decode cc pc = .ok (.getstatic index, 3))
    (kk : W p l e R s m args below meth c H locs cells slots Q (F0 m (pc + 3) ls (.ref tb :: rest))) : W p l e R s m args below meth c H locs cells slots Q (F0 m pc ls rest) := by
  obtain ⟨hx, hb, -, hown, hts, -, -, hG, -⟩ := fx
  have hnest := hG.2.1.1 _ hlink
  exact va_getsN hx hb hG.2.2.2.1 h.2.2 hown (va_Nw.use rfl hnest) (fun _ h => h) hdg kk
theorem q_tabL (fx : q_Fx p s m args meth c cc nL own ret0 D cI cJ cZ cS tb A) (h : q_H D A s ws H locs) (hdg : decode cc pc = .ok (.arraylength, 1))
    (kk : W p l e R s m args below meth c H locs cells slots Q (F0 m (pc + 1) ls (.int 6 :: rest))) : W p l e R s m args below meth c H locs cells slots Q (F0 m pc ls (.ref tb :: rest)) :=
  va_tlen fx.1 fx.2.1 fx.2.2.2.2.2.2.2.1.2.2.2.2 h.2.2 rfl hdg kk
theorem q_tabA (fx : q_Fx p s m args meth c cc nL own ret0 D cI cJ cZ cS tb A) (h : q_H D A s ws H locs) {i : Int32} (hin : vp_in i 6) (hdg : decode cc pc = .ok (.laload, 1))
    (kk : W p l e R s m args below meth c H locs cells slots Q (F0 m (pc + 1) ls (.long (q_tb i.toNatClampNeg) :: rest))) : W p l e R s m args below meth c H locs cells slots Q (F0 m pc ls (.int i :: .ref tb :: rest)) :=
  va_tl fx.1 fx.2.1 fx.2.2.2.2.2.2.2.1.2.2.2.2 h.2.2 hin rfl hdg kk
theorem q_ldc (fx : q_Fx p s m args meth c cc nL own ret0 D cI cJ cZ cS tb A) {v : Int32} (hk : Cond.constant own index v ∈ wA) (hdg : decode cc pc = .ok (.ldc index, 2)) (kk : W p l e R s m args below meth c H locs cells slots Q (F0 m (pc + 2) ls (.int v :: rest))) : W p l e R s m args below meth c H locs cells slots Q (F0 m pc ls rest) :=
  lv_ldc fx.1 fx.2.1 fx.2.2.2.1 (fx.2.2.2.2.1 _ hk) hdg kk
theorem q_ldcw (fx : q_Fx p s m args meth c cc nL own ret0 D cI cJ cZ cS tb A) {v : Int32} (hk : Cond.constant own index v ∈ wA) (hdg : decode cc pc = .ok (.ldc_w index, 3)) (kk : W p l e R s m args below meth c H locs cells slots Q (F0 m (pc + 3) ls (.int v :: rest))) : W p l e R s m args below meth c H locs cells slots Q (F0 m pc ls rest) :=
  lv_ldcw fx.1 fx.2.1 fx.2.2.2.1 (fx.2.2.2.2.1 _ hk) hdg kk
theorem q_ldc2 (fx : q_Fx p s m args meth c cc nL own ret0 D cI cJ cZ cS tb A) {v : Int64} (hk : Cond.constantLong own index v ∈ wA) (hdg : decode cc pc = .ok (.ldc2_w index, 3)) (kk : W p l e R s m args below meth c H locs cells slots Q (F0 m (pc + 3) ls (.long v :: rest))) : W p l e R s m args below meth c H locs cells slots Q (F0 m pc ls rest) :=
  lv_ldc2 fx.1 fx.2.1 fx.2.2.2.1 (fx.2.2.2.2.1 _ hk) hdg kk
end QR
/-! my kit: calls, returns, entry -/
def q_Ri (D : va_G) (r : Int32) (A : Nat → Prop) (W1 : va_W) : Array Value → State → Outcome → State → Prop :=
  va_Qi (fun x (_ : Unit) => x = r) (fun _ t => va_P D vwCl W1 t.heap ∧ va_D A W1) A
def q_Rl (D : va_G) (r : Int64) (A : Nat → Prop) (W1 : va_W) : Array Value → State → Outcome → State → Prop :=
  va_Ql (fun x (_ : Unit) => x = r) (fun _ t => va_P D vwCl W1 t.heap ∧ va_D A W1) A
def q_Rv (D : va_G) (A : Nat → Prop) (W1 : va_W) : Array Value → State → Outcome → State → Prop :=
  va_Qv (fun (_ : Unit) => True) (fun _ t => va_P D vwCl W1 t.heap ∧ va_D A W1) A
def q_Rn (D : va_G) (A : Nat → Prop) (W1 : (Nat → Nat) → va_W) : Array Value → State → Outcome → State → Prop :=
  va_Qv (fun (_ : Nat → Nat) => True) (fun u t => va_P D vwCl (W1 u) t.heap ∧ va_D A (W1 u)) A
/-- an instance method's words; a static one's; a constructor's -/
def q_MV (y : MethodName) (bytes : ByteArray) (maxL : Nat) (ret : Option FieldType) (C : String) (n : Nat) : Prop :=
  Cond.code y bytes maxL ret ∈ wA ∧ Cond.instanceMethod y ∈ wA ∧ Cond.selects C y y ∈ wA ∧ Cond.initialized C ∈ wA ∧ (y.cls = C ∧ y.cls ≠ "java/lang/invoke/MethodHandle" ∧ y.cls ≠ "java/lang/invoke/VarHandle" ∧ (parseMethodDescriptor y.desc).map (fun d => d.parameters.length) = some n)
def q_MS (y : MethodName) (bytes : ByteArray) (maxL : Nat) (ret : Option FieldType) (n : Nat) : Prop :=
  Cond.code y bytes maxL ret ∈ wA ∧ Cond.static y ∈ wA ∧ Cond.initialized y.cls ∈ wA ∧ (y.cls ≠ "java/lang/invoke/MethodHandle" ∧ y.cls ≠ "java/lang/invoke/VarHandle" ∧ (parseMethodDescriptor y.desc).map (fun d => d.parameters.length) = some n)
def q_MI (y : MethodName) (bytes : ByteArray) (maxL : Nat) (n : Nat) : Prop :=
  Cond.code y bytes maxL none ∈ wA ∧ Cond.instanceMethod y ∈ wA ∧ Cond.initialized y.cls ∈ wA ∧ y.name = "<init>" ∧ (y.cls ≠ "java/lang/invoke/MethodHandle" ∧ y.cls ≠ "java/lang/invoke/VarHandle" ∧ (parseMethodDescriptor y.desc).map (fun d => d.parameters.length) = some n)
section QC
variable {p : Program} {l : Launch} {e : Env} {R : Room} {s : State} {m : MethodId} {args : Array Value} {below : List Frame} {meth : Method} {c : Code} {H : Heap} {locs : List Loc} {cells slots : Nat} {Q : State → Prop}
variable {cc bytes : ByteArray} {pc nL maxL n mc ms index : Nat} {ls : Array Slot} {rest As st0 : List Value} {D : va_G} {A : Nat → Prop} {a b tb : Nat} {cI cJ cZ cS : ClassId} {ws ws' wc w1 : va_W} {own C : String} {y : MethodName} {ret ret0 : Option FieldType} {rm : Room}
theorem q_runV {Qc : Array Value → State → Outcome → State → Prop} (fx : q_Fx p s m args meth c cc nL own ret0 D cI cJ cZ cS tb A) (h : q_H D A s ws H locs) (hsz : ls.size = nL) (is : List Nat) (hC : is.map (fun i => ws[i]?) = wc.map some) (hn : va_nd is = true)
    (hM : Met l y (Cond.code y bytes maxL ret :: wA) rm (q_Pre D cI cJ cZ cS tb (.ref b :: As) H.size wc) Qc mc ms (va_A wc H.size)) (hy : q_MV y bytes maxL ret C n) (hlink : Cond.methodLink own index y ∈ wA) (hrm : rm.cells = mc ∧ rm.slots = ms) (hR : rm.frames + 1 ≤ R.frames ∧ 8 + (maxL + 11) + rm.locals ≤ R.locals)
    {ci : Nat} {fs : List Value} {T : u_T} {N : Nat} (hq : wc[0]? = some (b, .inr (ci, fs))) (hcl : vwCl[ci]? = some (C, T, N)) (hAs : As.length = n) (hst : st0 = As.reverse ++ .ref b :: rest) (hroom : (rest.map fun v => v.category).sum ≤ 8) (hdg : decode cc pc = .ok (.invokevirtual index, 3)) (hce : cells + mc ≤ R.cells ∧ slots + ms ≤ R.slots) :
    va_Run p l e R s m args below meth c H locs cells slots mc ms (F0 m pc ls st0) rest (Qc (Value.ref b :: As).toArray) (va_A wc H.size) := by
  obtain ⟨hx, hb, hml, hown, hts, -, -, hG, hA⟩ := fx
  obtain ⟨y1, y2, y3, y4, y5⟩ := hy
  refine va_runV (g := F0 m pc ls st0) ⟨hx, hb, hml, hown, hts⟩ hM ⟨callB_of n hts (wA_good _ y1) rfl hrm.1 hrm.2 (y5.1 ▸ hts _ y4) (hts _ hlink) y5.2 hR, hts _ y2, hts _ y3⟩ ⟨q_blind, va_recv hG.1 (q_Psub h.1 hC) hcl hq, q_give hG hA h hC hn⟩ rfl hAs hsz hst (lv_room hroom) hdg hce
theorem q_runVN {Qc : Array Value → State → Outcome → State → Prop} {host : String} (fx : q_Fx p s m args meth c cc nL own ret0 D cI cJ cZ cS tb A) (h : q_H D A s ws H locs) (hsz : ls.size = nL) (is : List Nat) (hC : is.map (fun i => ws[i]?) = wc.map some) (hn : va_nd is = true)
    (hM : Met l y (Cond.code y bytes maxL ret :: wA) rm (q_Pre D cI cJ cZ cS tb (.ref b :: As) H.size wc) Qc mc ms (va_A wc H.size)) (hy : q_MV y bytes maxL ret C n) (hlink : (own, index, y, host) ∈ nM) (hrm : rm.cells = mc ∧ rm.slots = ms) (hR : rm.frames + 1 ≤ R.frames ∧ 8 + (maxL + 11) + rm.locals ≤ R.locals)
    {ci : Nat} {fs : List Value} {T : u_T} {N : Nat} (hq : wc[0]? = some (b, .inr (ci, fs))) (hcl : vwCl[ci]? = some (C, T, N)) (hAs : As.length = n) (hst : st0 = As.reverse ++ .ref b :: rest) (hroom : (rest.map fun v => v.category).sum ≤ 8) (hdg : decode cc pc = .ok (.invokevirtual index, 3)) (hce : cells + mc ≤ R.cells ∧ slots + ms ≤ R.slots) :
    va_Run p l e R s m args below meth c H locs cells slots mc ms (F0 m pc ls st0) rest (Qc (Value.ref b :: As).toArray) (va_A wc H.size) := by
  obtain ⟨hx, hb, hml, hown, hts, -, -, hG, hA⟩ := fx
  obtain ⟨y1, y2, y3, y4, y5⟩ := hy
  have hnest := hG.2.1.2 _ hlink
  refine va_runVN (host := host) (g := F0 m pc ls st0) ⟨hx, hb, hml, hown, hts⟩ hM ⟨va_cnB n hts (wA_good _ y1) rfl hrm.1 hrm.2 hnest (y5.1 ▸ hts _ y4) y5.2 hR, hts _ y2, hts _ y3⟩ ⟨q_blind, va_recv hG.1 (q_Psub h.1 hC) hcl hq, q_give hG hA h hC hn⟩ rfl hAs hsz hst (lv_room hroom) hdg hce
theorem q_runS {Qc : Array Value → State → Outcome → State → Prop} (fx : q_Fx p s m args meth c cc nL own ret0 D cI cJ cZ cS tb A) (h : q_H D A s ws H locs) (hsz : ls.size = nL) (is : List Nat) (hC : is.map (fun i => ws[i]?) = wc.map some) (hn : va_nd is = true)
    (hM : Met l y (Cond.code y bytes maxL ret :: wA) rm (q_Pre D cI cJ cZ cS tb As H.size wc) Qc mc ms (va_A wc H.size)) (hy : q_MS y bytes maxL ret n) (hlink : Cond.methodLink own index y ∈ wA) (hrm : rm.cells = mc ∧ rm.slots = ms) (hR : rm.frames + 1 ≤ R.frames ∧ 8 + (maxL + 11) + rm.locals ≤ R.locals)
    (hAs : As.length = n) (hst : st0 = As.reverse ++ rest) (hroom : (rest.map fun v => v.category).sum ≤ 8) (hdg : decode cc pc = .ok (.invokestatic index, 3)) (hce : cells + mc ≤ R.cells ∧ slots + ms ≤ R.slots) :
    va_Run p l e R s m args below meth c H locs cells slots mc ms (F0 m pc ls st0) rest (Qc As.toArray) (va_A wc H.size) := by
  obtain ⟨hx, hb, hml, hown, hts, -, -, hG, hA⟩ := fx
  obtain ⟨y1, y2, y3, y4⟩ := hy
  refine va_runS (g := F0 m pc ls st0) ⟨hx, hb, hml, hown, hts⟩ hM ⟨callB_of n hts (wA_good _ y1) rfl hrm.1 hrm.2 (hts _ y3) (hts _ hlink) y4 hR, hts _ y2⟩ ⟨q_blind, q_give hG hA h hC hn⟩ rfl hAs hsz hst (lv_room hroom) hdg hce
theorem q_runSN {Qc : Array Value → State → Outcome → State → Prop} {host : String} (fx : q_Fx p s m args meth c cc nL own ret0 D cI cJ cZ cS tb A) (h : q_H D A s ws H locs) (hsz : ls.size = nL) (is : List Nat) (hC : is.map (fun i => ws[i]?) = wc.map some) (hn : va_nd is = true)
    (hM : Met l y (Cond.code y bytes maxL ret :: wA) rm (q_Pre D cI cJ cZ cS tb As H.size wc) Qc mc ms (va_A wc H.size)) (hy : q_MS y bytes maxL ret n) (hlink : (own, index, y, host) ∈ nM) (hrm : rm.cells = mc ∧ rm.slots = ms) (hR : rm.frames + 1 ≤ R.frames ∧ 8 + (maxL + 11) + rm.locals ≤ R.locals)
    (hAs : As.length = n) (hst : st0 = As.reverse ++ rest) (hroom : (rest.map fun v => v.category).sum ≤ 8) (hdg : decode cc pc = .ok (.invokestatic index, 3)) (hce : cells + mc ≤ R.cells ∧ slots + ms ≤ R.slots) :
    va_Run p l e R s m args below meth c H locs cells slots mc ms (F0 m pc ls st0) rest (Qc As.toArray) (va_A wc H.size) := by
  obtain ⟨hx, hb, hml, hown, hts, -, -, hG, hA⟩ := fx
  obtain ⟨y1, y2, y3, y4⟩ := hy
  have hnest := hG.2.1.2 _ hlink
  refine va_runSN (host := host) (g := F0 m pc ls st0) ⟨hx, hb, hml, hown, hts⟩ hM ⟨va_cnB n hts (wA_good _ y1) rfl hrm.1 hrm.2 hnest (hts _ y3) y4 hR, hts _ y2, trivial⟩ ⟨q_blind, q_give hG hA h hC hn⟩ rfl hAs hsz hst (lv_room hroom) hdg hce
theorem q_runI {Qc : Array Value → State → Outcome → State → Prop} (fx : q_Fx p s m args meth c cc nL own ret0 D cI cJ cZ cS tb A) (h : q_H D A s ws H locs) (hsz : ls.size = nL) (is : List Nat) (hC : is.map (fun i => ws[i]?) = wc.map some) (hn : va_nd is = true)
    (hM : Met l y (Cond.code y bytes maxL none :: wA) rm (q_Pre D cI cJ cZ cS tb (.ref b :: As) H.size wc) Qc mc ms (va_A wc H.size)) (hy : q_MI y bytes maxL n) (hlink : Cond.methodLink own index y ∈ wA) (hrm : rm.cells = mc ∧ rm.slots = ms) (hR : rm.frames + 1 ≤ R.frames ∧ 8 + (maxL + 11) + rm.locals ≤ R.locals)
    (hAs : As.length = n) (hst : st0 = As.reverse ++ .ref b :: rest) (hroom : (rest.map fun v => v.category).sum ≤ 8) (hdg : decode cc pc = .ok (.invokespecial index, 3)) (hce : cells + mc ≤ R.cells ∧ slots + ms ≤ R.slots) :
    va_Run p l e R s m args below meth c H locs cells slots mc ms (F0 m pc ls st0) rest (Qc (Value.ref b :: As).toArray) (va_A wc H.size) := by
  obtain ⟨hx, hb, hml, hown, hts, -, -, hG, hA⟩ := fx
  obtain ⟨y1, y2, y3, y4, y5⟩ := hy
  refine va_runI (g := F0 m pc ls st0) ⟨hx, hb, hml, hown, hts⟩ hM ⟨callB_of n hts (wA_good _ y1) rfl hrm.1 hrm.2 (hts _ y3) (hts _ hlink) y5 hR, y4, hts _ y2⟩ ⟨q_blind, q_give hG hA h hC hn⟩ rfl hAs hsz hst (lv_room hroom) hdg hce
/-- behind a call that makes nothing -/
theorem q_ci {r : Int32} {av : Array Value} (fx : q_Fx p s m args meth c cc nL own ret0 D cI cJ cZ cS tb A) (h : q_H D A s ws H locs) (is : List Nat) (hC : is.map (fun i => ws[i]?) = wc.map some) (hF : w1.length = is.length) (hE : q_upd ws is w1 = ws') (hfst : ws'.map Prod.fst = ws.map Prod.fst)
    (hr : va_Run p l e R s m args below meth c H locs cells slots 0 0 (F0 m pc ls st0) rest (q_Ri D r (va_A wc H.size) w1 av) (va_A wc H.size))
    (kk : ∀ (H : Heap) (locs : List Loc), q_H D A s ws' H locs → W p l e R s m args below meth c H locs cells slots Q (F0 m (pc + 3) ls (.int r :: rest))) : W p l e R s m args below meth c H locs cells slots Q (F0 m pc ls st0) := by
  have hFc := va_free (wc := wc) h.2.1 h.2.2 fx.2.2.2.2.2.2.2.2 is hC
  refine va_calli hr h.2.2 (fun q _ hq => hFc q hq) hFc (fun r1 u t H1 locs1 ht hvm hw hB hz1 hk1 hS1 => ?_)
  subst hw
  have hPD := q_back h hC hF hE hfst hk1 (by rw [← ht]; exact hB.1)
  exact kk H1 locs1 ⟨hPD.1, hPD.2, hS1⟩
theorem q_cl {r : Int64} {av : Array Value} (fx : q_Fx p s m args meth c cc nL own ret0 D cI cJ cZ cS tb A) (h : q_H D A s ws H locs) (is : List Nat) (hC : is.map (fun i => ws[i]?) = wc.map some) (hF : w1.length = is.length) (hE : q_upd ws is w1 = ws') (hfst : ws'.map Prod.fst = ws.map Prod.fst)
    (hr : va_Run p l e R s m args below meth c H locs cells slots 0 0 (F0 m pc ls st0) rest (q_Rl D r (va_A wc H.size) w1 av) (va_A wc H.size))
    (kk : ∀ (H : Heap) (locs : List Loc), q_H D A s ws' H locs → W p l e R s m args below meth c H locs cells slots Q (F0 m (pc + 3) ls (.long r :: rest))) : W p l e R s m args below meth c H locs cells slots Q (F0 m pc ls st0) := by
  have hFc := va_free (wc := wc) h.2.1 h.2.2 fx.2.2.2.2.2.2.2.2 is hC
  refine va_calll hr h.2.2 (fun q _ hq => hFc q hq) hFc (fun r1 u t H1 locs1 ht hvm hw hB hz1 hk1 hS1 => ?_)
  subst hw
  have hPD := q_back h hC hF hE hfst hk1 (by rw [← ht]; exact hB.1)
  exact kk H1 locs1 ⟨hPD.1, hPD.2, hS1⟩
theorem q_cv {av : Array Value} (fx : q_Fx p s m args meth c cc nL own ret0 D cI cJ cZ cS tb A) (h : q_H D A s ws H locs) (is : List Nat) (hC : is.map (fun i => ws[i]?) = wc.map some) (hF : w1.length = is.length) (hE : q_upd ws is w1 = ws') (hfst : ws'.map Prod.fst = ws.map Prod.fst)
    (hr : va_Run p l e R s m args below meth c H locs cells slots 0 0 (F0 m pc ls st0) rest (q_Rv D (va_A wc H.size) w1 av) (va_A wc H.size))
    (kk : ∀ (H : Heap) (locs : List Loc), q_H D A s ws' H locs → W p l e R s m args below meth c H locs cells slots Q (F0 m (pc + 3) ls rest)) : W p l e R s m args below meth c H locs cells slots Q (F0 m pc ls st0) := by
  have hFc := va_free (wc := wc) h.2.1 h.2.2 fx.2.2.2.2.2.2.2.2 is hC
  refine va_callv hr h.2.2 (fun q _ hq => hFc q hq) hFc (fun u t H1 locs1 ht hvm hw hB hz1 hk1 hS1 => ?_)
  have hPD := q_back h hC hF hE hfst hk1 (by rw [← ht]; exact hB.1)
  exact kk H1 locs1 ⟨hPD.1, hPD.2, hS1⟩
/-- returns -/
theorem q_reti {K : Type} (Wf : K → va_W) {k k' : K} {v r : Int32} (fx : q_Fx p s m args meth c cc nL own (some .int) D cI cJ cZ cS tb A) (hf : (some (v, k) : Option (Int32 × K)) = some (r, k')) (h : q_H D A s (Wf k) H locs) (hdg : decode cc pc = .ok (.ireturn, 1)) : W p l e R s m args below meth c H locs 0 0 (MQ below (q_Ri D r A (Wf k')) args s 0 0 A) (F0 m pc ls [.int v]) := by
  cases hf
  obtain ⟨hx, hb, hml, hown, hts, hr, hlocks, hG, hA⟩ := fx
  exact W.iret hx hb hr (fun t ht hW => ⟨⟨v, (), rfl, rfl, by rw [ht]; exact h.1, h.2.1⟩, h.2.2.F ht⟩) h.2.2.2.2 hdg hlocks
theorem q_retz {K : Type} (Wf : K → va_W) {k k' : K} {v r : Int32} (fx : q_Fx p s m args meth c cc nL own (some .boolean) D cI cJ cZ cS tb A) (hn : narrow .boolean (.int v) = .int v) (hf : (some (v, k) : Option (Int32 × K)) = some (r, k')) (h : q_H D A s (Wf k) H locs) (hdg : decode cc pc = .ok (.ireturn, 1)) : W p l e R s m args below meth c H locs 0 0 (MQ below (q_Ri D r A (Wf k')) args s 0 0 A) (F0 m pc ls [.int v]) := by
  cases hf
  obtain ⟨hx, hb, hml, hown, hts, hr, hlocks, hG, hA⟩ := fx
  exact W.zret hx hb hr hn (fun t ht hW => ⟨⟨v, (), rfl, rfl, by rw [ht]; exact h.1, h.2.1⟩, h.2.2.F ht⟩) h.2.2.2.2 hdg hlocks
theorem q_retl {K : Type} (Wf : K → va_W) {k k' : K} {v r : Int64} (fx : q_Fx p s m args meth c cc nL own (some .long) D cI cJ cZ cS tb A) (hf : (some (v, k) : Option (Int64 × K)) = some (r, k')) (h : q_H D A s (Wf k) H locs) (hdg : decode cc pc = .ok (.lreturn, 1)) : W p l e R s m args below meth c H locs 0 0 (MQ below (q_Rl D r A (Wf k')) args s 0 0 A) (F0 m pc ls [.long v]) := by
  cases hf
  obtain ⟨hx, hb, hml, hown, hts, hr, hlocks, hG, hA⟩ := fx
  exact W.lret hx hb hr (fun t ht hW => ⟨⟨v, (), rfl, rfl, by rw [ht]; exact h.1, h.2.1⟩, h.2.2.F ht⟩) h.2.2.2.2 hdg hlocks
theorem q_retv {K : Type} (Wf : K → va_W) {k k' : K} (fx : q_Fx p s m args meth c cc nL own none D cI cJ cZ cS tb A) (hf : (some k : Option K) = some k') (h : q_H D A s (Wf k) H locs) (hdg : decode cc pc = .ok (.return_, 1)) : W p l e R s m args below meth c H locs 0 0 (MQ below (q_Rv D A (Wf k')) args s 0 0 A) (F0 m pc ls []) := by
  cases hf
  obtain ⟨hx, hb, hml, hown, hts, hr, hlocks, hG, hA⟩ := fx
  exact W.vret hx hb hr (fun t ht hW => ⟨⟨(), rfl, trivial, by rw [ht]; exact h.1, h.2.1⟩, h.2.2.F ht⟩) h.2.2.2.2 hdg hlocks
/-- a method, from its entry -/
theorem q_enter {av : List Value} {sz : Nat} {W0 : va_W} {Qf : (Nat → Prop) → Array Value → State → Outcome → State → Prop} (hy : plainName y.cls = true) (hcls : y.cls = own) (hlen : (lg_sl av).length ≤ maxL)
    (body : ∀ (p : Program) (e : Env) (s : State) (m : MethodId) (below : List Frame) (meth : Method) (c : Code) (A : Nat → Prop) (ls : Array Slot), q_Fx p s m av.toArray meth c bytes maxL own ret D cI cJ cZ cS tb A → meth.name = y.name → q_H D A s W0 s.heap [] → lv_has ls maxL (lv_args 0 av) →
      W p l e rm s m av.toArray below meth c s.heap [] 0 0 (MQ below (Qf A) av.toArray s mc ms A) (F0 m 0 ls [])) :
    Met l y (Cond.code y bytes maxL ret :: wA) rm (q_Pre D cI cJ cZ cS tb av sz W0) (Qf (va_A W0 sz)) mc ms (va_A W0 sz) := by
  refine Met.ofW (cc := bytes) (maxL := maxL) (ret := ret) hy rfl ?_
  intro p e s m args below meth c s₁ B hml hv
  obtain ⟨rfl, hsz, hP, hG, hD0⟩ := hv
  have hts := atoms_spec (ws := Cond.code y bytes maxL ret :: wA) B.pre
  have hown : s.vm.findClass own = some m.cls := hcls ▸ findClass_of_methodNamed B.named
  subst hsz
  have hl := lv_entry av (n := maxL) hlen
  rw [lg_entry_eq]
  exact body p e s m below meth c (va_A W0 s.heap.size) _ ⟨B.exec, B.bytes, hml, hown, fun w hw => hts w (List.mem_cons_of_mem _ hw), B.returns, B.notSynchronized, hG, fun q h => Or.inr h⟩ (name_of_methodNamed B.named B.method).1 ⟨hP, hD0.self, va_S.rf⟩ hl
end QC
