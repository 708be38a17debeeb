/-- what the tables say of the nest -/
def q_N (U : State) : Prop := (∀ q ∈ nF, va_Nw (.fieldLinkNest q.1 q.2.1 q.2.2.1 q.2.2.2.1 q.2.2.2.2.1 q.2.2.2.2.2) U) ∧ ∀ q ∈ nM, va_Nw (.methodLinkNest q.1 q.2.1 q.2.2.1 q.2.2.2) U
theorem q_N.warm {s U : State} (h : q_N s) (hW : s.WarmedH U.vm) : q_N U := ⟨fun q hq => va_Nw.warmF hW (h.1 q hq), fun q hq => va_Nw.warmM hW (h.2 q hq)⟩
theorem q_N.same {s U : State} (h : q_N s) (e : s.vm = U.vm) : q_N U := ⟨fun q hq => va_Nw.same rfl e (h.1 q hq), fun q hq => va_Nw.same rfl e (h.2 q hq)⟩
abbrev q_ty (cI cJ cZ cS : ClassId) : List (ClassId × FieldType) := [(cI, .int), (cJ, .long), (cZ, .boolean), (cS, .object "ComeIfShe$Sheet")]
/-- what never changes: the tables, the nest, the static row -/
def q_G (D : va_G) (cI cJ cZ cS : ClassId) (tb : Nat) (A : Nat → Prop) (U : State) : Prop :=
  va_K D vwCl (q_ty cI cJ cZ cS) U ∧ q_N U ∧ va_AO "ComeIfShe$Sheet" U ∧ va_Z "ComeIfShe" "LISTS_WITH" "[J" (.ref tb) A U U.heap ∧ va_T .long tb 6 q_tab A U U.heap
/-- the cells now -/
def q_H (D : va_G) (A : Nat → Prop) (s : State) (ws : va_W) (H : Heap) (locs : List Loc) : Prop := va_P D vwCl ws H ∧ va_D A ws ∧ va_S A s.heap H locs
def q_Pre (D : va_G) (cI cJ cZ cS : ClassId) (tb : Nat) (av : List Value) (sz : Nat) (W0 : va_W) : Array Value → State → Prop :=
  va_Pc av (fun U => U.heap.size = sz ∧ va_P D vwCl W0 U.heap ∧ q_G D cI cJ cZ cS tb (va_A W0 sz) U ∧ va_D (fun _ => True) W0)
def q_Qi (D : va_G) (r : Int32) (W0 W1 : va_W) (sz : Nat) : Array Value → State → Outcome → State → Prop :=
  va_Qi (fun x (_ : Unit) => x = r) (fun _ t => va_P D vwCl W1 t.heap ∧ va_D (va_A W0 sz) W1) (va_A W0 sz)
def q_Ql (D : va_G) (r : Int64) (W0 W1 : va_W) (sz : Nat) : Array Value → State → Outcome → State → Prop :=
  va_Ql (fun x (_ : Unit) => x = r) (fun _ t => va_P D vwCl W1 t.heap ∧ va_D (va_A W0 sz) W1) (va_A W0 sz)
def q_Qv (D : va_G) (W0 W1 : va_W) (sz : Nat) : Array Value → State → Outcome → State → Prop :=
  va_Qv (fun (_ : Unit) => True) (fun _ t => va_P D vwCl W1 t.heap ∧ va_D (va_A W0 sz) W1) (va_A W0 sz)
/-- a constructor: new cells, their addresses u -/
def q_Qn (D : va_G) (W0 : va_W) (W1 : (Nat → Nat) → va_W) (sz : Nat) : Array Value → State → Outcome → State → Prop :=
  va_Qv (fun (_ : Nat → Nat) => True) (fun u t => va_P D vwCl (W1 u) t.heap ∧ va_D (va_A W0 sz) (W1 u)) (va_A W0 sz)
theorem q_blind {D : va_G} {cI cJ cZ cS : ClassId} {tb : Nat} {av : List Value} {sz : Nat} {W0 : va_W} : FrameBlind (q_Pre D cI cJ cZ cS tb av sz W0) := by
  intro a U g mk q
  obtain ⟨q0, q1, q2, ⟨g1, g2, g3, g4, g5⟩, q4⟩ := q
  have hvm : U.vm.Alike (U.calling g mk a).vm := Vm.Alike.refl U.vm
  exact ⟨q0, q1, q2, ⟨va_K.moved hvm g1, q_N.same g2 rfl, va_AO.moved hvm g3, va_Z.moved hvm g4, va_T.moved hvm g5⟩, q4⟩
/-- the fixed facts inside a method -/
def q_Fx (p : Program) (s : State) (m : MethodId) (args : Array Value) (meth : Method) (c : Code) (cc : ByteArray) (nL : Nat) (own : String) (ret : Option FieldType) (D : va_G) (cI cJ cZ cS : ClassId) (tb : Nat) (A : Nat → Prop) : Prop :=
  p.tables.exec = Jvm.exec ∧ c.code = cc ∧ c.maxLocals = nL ∧ s.vm.findClass own = some m.cls ∧ (∀ w ∈ wA, w.before args s = true) ∧ meth.sig.returnType = ret ∧ meth.locks = false ∧ q_G D cI cJ cZ cS tb A s ∧ (∀ q, s.heap.size ≤ q → A q)
/-- a list of cells with some put anew -/
def q_upd : va_W → List Nat → va_W → va_W
  | ws, i :: is, x :: xs => q_upd (ws.set i x) is xs
  | ws, _, _ => ws
theorem q_upd_get : ∀ (is : List Nat) (xs ws : va_W), is.length = xs.length → ∀ (j : Nat) (q : Nat × va_E), (q_upd ws is xs)[j]? = some q → (∃ k : Nat, xs[k]? = some q ∧ is[k]? = some j) ∨ (ws[j]? = some q ∧ j ∉ is)
  | [], [], ws, _, j, q, h => Or.inr ⟨h, List.not_mem_nil⟩
  | [], x :: xs, ws, e, _, _, _ => by simp at e
  | i :: is, [], ws, e, _, _, _ => by simp at e
  | i :: is, x :: xs, ws, e, j, q, h => by
    rcases q_upd_get is xs (ws.set i x) (by simpa using e) j q h with ⟨k, h1, h2⟩ | ⟨h1, h2⟩
    · exact Or.inl ⟨k + 1, by simpa using h1, by simpa using h2⟩
    · by_cases c : i = j
      · subst c
        rw [List.getElem?_set] at h1
        by_cases hl : i < ws.length
        · simp [hl] at h1
          exact Or.inl ⟨0, by simp [h1], by simp⟩
        · simp [hl] at h1
      · rw [List.getElem?_set_ne c] at h1
        exact Or.inr ⟨h1, by simp only [List.mem_cons, not_or]; exact ⟨fun e => c e.symm, h2⟩⟩
