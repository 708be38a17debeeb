section
/-! the nest's words -/
def nF : List (String × Nat × String × String × String × String) := [(RX4, 56, "ComeIfShe$Party", "size", "I", "ComeIfShe"), (RX3, 41, "ComeIfShe$Party", "size", "I", "ComeIfShe"), (RX3, 27, "ComeIfShe$Party", "list", "I", "ComeIfShe"), (RX4, 74, "ComeIfShe$Party", "list", "I", "ComeIfShe"), (RX4, 236, "ComeIfShe$Party", "told", "I", "ComeIfShe"), (RX4, 68, "ComeIfShe$Party", "kinds", "[I", "ComeIfShe"), (RX4, 71, "ComeIfShe$Party", "costs", "[I", "ComeIfShe"), (RX4, 109, "ComeIfShe$Tape", "length", "I", "ComeIfShe"), (RX4, 102, "ComeIfShe$Tape", "fault", "I", "ComeIfShe"), (RX4, 205, "ComeIfShe$Sheet", "bits", "I", "ComeIfShe"), (RX4, 195, "ComeIfShe$Sheet", "size", "I", "ComeIfShe"), (RX4, 211, "ComeIfShe$Sheet", "numbers", "[J", "ComeIfShe"), (RX2, 69, "ComeIfShe", "LISTS_WITH", "[J", "ComeIfShe")]
def nM : List (String × Nat × MethodName × String) := [(RX0, 63, yX4_othersOn, "ComeIfShe"), (RX2, 73, yX4_isOn, "ComeIfShe"), (RX2, 83, yX4_oneIf, "ComeIfShe"), (RX0, 56, yX4_isOn, "ComeIfShe"), (RX0, 79, yX4_oneIf, "ComeIfShe")]
theorem nf_0 : (RX4, 56, "ComeIfShe$Party", "size", "I", "ComeIfShe") ∈ nF := List.mem_of_getElem? (i := 0) rfl
theorem nf_1 : (RX3, 41, "ComeIfShe$Party", "size", "I", "ComeIfShe") ∈ nF := List.mem_of_getElem? (i := 1) rfl
theorem nf_2 : (RX3, 27, "ComeIfShe$Party", "list", "I", "ComeIfShe") ∈ nF := List.mem_of_getElem? (i := 2) rfl
theorem nf_3 : (RX4, 74, "ComeIfShe$Party", "list", "I", "ComeIfShe") ∈ nF := List.mem_of_getElem? (i := 3) rfl
theorem nf_4 : (RX4, 236, "ComeIfShe$Party", "told", "I", "ComeIfShe") ∈ nF := List.mem_of_getElem? (i := 4) rfl
theorem nf_5 : (RX4, 68, "ComeIfShe$Party", "kinds", "[I", "ComeIfShe") ∈ nF := List.mem_of_getElem? (i := 5) rfl
theorem nf_6 : (RX4, 71, "ComeIfShe$Party", "costs", "[I", "ComeIfShe") ∈ nF := List.mem_of_getElem? (i := 6) rfl
theorem nf_7 : (RX4, 109, "ComeIfShe$Tape", "length", "I", "ComeIfShe") ∈ nF := List.mem_of_getElem? (i := 7) rfl
theorem nf_8 : (RX4, 102, "ComeIfShe$Tape", "fault", "I", "ComeIfShe") ∈ nF := List.mem_of_getElem? (i := 8) rfl
theorem nf_9 : (RX4, 205, "ComeIfShe$Sheet", "bits", "I", "ComeIfShe") ∈ nF := List.mem_of_getElem? (i := 9) rfl
theorem nf_10 : (RX4, 195, "ComeIfShe$Sheet", "size", "I", "ComeIfShe") ∈ nF := List.mem_of_getElem? (i := 10) rfl
theorem nf_11 : (RX4, 211, "ComeIfShe$Sheet", "numbers", "[J", "ComeIfShe") ∈ nF := List.mem_of_getElem? (i := 11) rfl
theorem nf_12 : (RX2, 69, "ComeIfShe", "LISTS_WITH", "[J", "ComeIfShe") ∈ nF := List.mem_of_getElem? (i := 12) rfl
theorem nm_0 : (RX0, 63, yX4_othersOn, "ComeIfShe") ∈ nM := List.mem_of_getElem? (i := 0) rfl
theorem nm_1 : (RX2, 73, yX4_isOn, "ComeIfShe") ∈ nM := List.mem_of_getElem? (i := 1) rfl
theorem nm_2 : (RX2, 83, yX4_oneIf, "ComeIfShe") ∈ nM := List.mem_of_getElem? (i := 2) rfl
theorem nm_3 : (RX0, 56, yX4_isOn, "ComeIfShe") ∈ nM := List.mem_of_getElem? (i := 3) rfl
theorem nm_4 : (RX0, 79, yX4_oneIf, "ComeIfShe") ∈ nM := List.mem_of_getElem? (i := 4) rfl
theorem nF_in : ∀ q ∈ nF, Cond.fieldLinkNest q.1 q.2.1 q.2.2.1 q.2.2.2.1 q.2.2.2.2.1 q.2.2.2.2.2 ∈ lw_tbl := by
  intro q hq
  simp only [nF, List.mem_cons, List.not_mem_nil, or_false] at hq
  rcases hq with rfl | rfl | rfl | rfl | rfl | rfl | rfl | rfl | rfl | rfl | rfl | rfl | rfl
  · exact List.mem_of_getElem? (i := 81) (by decide +kernel)
  · exact List.mem_of_getElem? (i := 82) (by decide +kernel)
  · exact List.mem_of_getElem? (i := 83) (by decide +kernel)
  · exact List.mem_of_getElem? (i := 84) (by decide +kernel)
  · exact List.mem_of_getElem? (i := 87) (by decide +kernel)
  · exact List.mem_of_getElem? (i := 89) (by decide +kernel)
  · exact List.mem_of_getElem? (i := 91) (by decide +kernel)
  · exact List.mem_of_getElem? (i := 119) (by decide +kernel)
  · exact List.mem_of_getElem? (i := 122) (by decide +kernel)
  · exact List.mem_of_getElem? (i := 162) (by decide +kernel)
  · exact List.mem_of_getElem? (i := 164) (by decide +kernel)
  · exact List.mem_of_getElem? (i := 166) (by decide +kernel)
  · exact List.mem_of_getElem? (i := 298) (by decide +kernel)
theorem nM_in : ∀ q ∈ nM, Cond.methodLinkNest q.1 q.2.1 q.2.2.1 q.2.2.2 ∈ lw_tbl := by
  intro q hq
  simp only [nM, List.mem_cons, List.not_mem_nil, or_false] at hq
  rcases hq with rfl | rfl | rfl | rfl | rfl
  · exact List.mem_of_getElem? (i := 236) (by decide +kernel)
  · exact List.mem_of_getElem? (i := 300) (by decide +kernel)
  · exact List.mem_of_getElem? (i := 308) (by decide +kernel)
  · exact List.mem_of_getElem? (i := 367) (by decide +kernel)
  · exact List.mem_of_getElem? (i := 380) (by decide +kernel)
end
section
/-! my kit: one list of words for all methods, a world's bundle, calls in one row, and the pure words that a method is told in -/
theorem wA_ex : ∃ l : List Cond, l = lw_tbl.filter goodWord := ⟨_, rfl⟩
noncomputable def wA : List Cond := wA_ex.choose
theorem wA_eq : wA = lw_tbl.filter goodWord := wA_ex.choose_spec
theorem wA_in {w : Cond} (h : w ∈ lw_tbl) (g : goodWord w = true) : w ∈ wA := wA_eq ▸ List.mem_filter.mpr ⟨h, g⟩
theorem wA_tbl {w : Cond} (h : w ∈ wA) : w ∈ lw_tbl := (List.mem_filter.mp (wA_eq ▸ h)).1
theorem wA_good (w : Cond) (h : w ∈ wA) : GoodIn wA (w :: wA) := by
  intro x hx
  have hx' : x ∈ wA := (List.mem_cons.mp hx).elim (fun e => e ▸ h) id
  exact ⟨hx', good_of_word (List.mem_filter.mp (wA_eq ▸ hx')).2⟩
/-- pure words -/
def gIn {β : Type} (i : Int32) (n : Nat) (k : Option β) : Option β := if i < 0 ∨ n ≤ i.toNatClampNeg then none else k
theorem gIn_inv {β : Type} {i : Int32} {n : Nat} {k : Option β} {r : β} (h : gIn i n k = some r) : vp_in i n ∧ k = some r := by
  unfold gIn at h
  by_cases c : i < 0 ∨ n ≤ i.toNatClampNeg
  · rw [if_pos c] at h; cases h
  · rw [if_neg c] at h; exact ⟨c, h⟩
def gNz {β : Type} (y : Int32) (k : Option β) : Option β := if y = 0 then none else k
theorem gNz_inv {β : Type} {y : Int32} {k : Option β} {r : β} (h : gNz y k = some r) : ¬ y = 0 ∧ k = some r := by
  unfold gNz at h
  by_cases c : y = 0
  · rw [if_pos c] at h; cases h
  · rw [if_neg c] at h; exact ⟨c, h⟩
def gNzL {β : Type} (y : Int64) (k : Option β) : Option β := if y = 0 then none else k
theorem gNzL_inv {β : Type} {y : Int64} {k : Option β} {r : β} (h : gNzL y k = some r) : ¬ y = 0 ∧ k = some r := by
  unfold gNzL at h
  by_cases c : y = 0
  · rw [if_pos c] at h; cases h
  · rw [if_neg c] at h; exact ⟨c, h⟩
/-- an answer of kind boolean is 0 or 1 -/
def gB {β : Type} (v : Int32) (k : Option β) : Option β := if v = 0 ∨ v = 1 then k else none
theorem gB_inv {β : Type} {v : Int32} {k : Option β} {r : β} (h : gB v k = some r) : narrow .boolean (.int v) = .int v ∧ k = some r := by
  unfold gB at h
  by_cases c : v = 0 ∨ v = 1
  · rw [if_pos c] at h
    refine ⟨?_, h⟩
    rcases c with rfl | rfl <;> rfl
  · rw [if_neg c] at h; cases h
def gCp {β : Type} (sp dp n : Int32) (n0 n1 : Nat) (k : Option β) : Option β := if sp < 0 ∨ dp < 0 ∨ n < 0 ∨ n0 < sp.toNatClampNeg + n.toNatClampNeg ∨ n1 < dp.toNatClampNeg + n.toNatClampNeg then none else k
theorem gCp_inv {β : Type} {sp dp n : Int32} {n0 n1 : Nat} {k : Option β} {r : β} (h : gCp sp dp n n0 n1 k = some r) : (¬ sp < 0 ∧ ¬ dp < 0 ∧ ¬ n < 0 ∧ sp.toNatClampNeg + n.toNatClampNeg ≤ n0 ∧ dp.toNatClampNeg + n.toNatClampNeg ≤ n1) ∧ k = some r := by
  unfold gCp at h
  by_cases c : sp < 0 ∨ dp < 0 ∨ n < 0 ∨ n0 < sp.toNatClampNeg + n.toNatClampNeg ∨ n1 < dp.toNatClampNeg + n.toNatClampNeg
  · rw [if_pos c] at h; cases h
  · rw [if_neg c] at h
    simp only [not_or, Nat.not_lt] at c
    exact ⟨c, h⟩
def sel4 {β : Type} (i : Int32) (k0 k1 k2 k3 : Option β) : Option β := if i = 0 then k0 else if i = 1 then k1 else if i = 2 then k2 else if i = 3 then k3 else none
theorem sel4_inv {β : Type} {i : Int32} {k0 k1 k2 k3 : Option β} {r : β} (h : sel4 i k0 k1 k2 k3 = some r) : (i = 0 ∧ k0 = some r) ∨ (i = 1 ∧ k1 = some r) ∨ (i = 2 ∧ k2 = some r) ∨ (i = 3 ∧ k3 = some r) := by
  unfold sel4 at h
  by_cases c : i = 0
  · rw [if_pos c] at h; exact Or.inl ⟨c, h⟩
  rw [if_neg c] at h
  by_cases c : i = 1
  · rw [if_pos c] at h; exact Or.inr (Or.inl ⟨c, h⟩)
  rw [if_neg c] at h
  by_cases c : i = 2
  · rw [if_pos c] at h; exact Or.inr (Or.inr (Or.inl ⟨c, h⟩))
  rw [if_neg c] at h
  by_cases c : i = 3
  · rw [if_pos c] at h; exact Or.inr (Or.inr (Or.inr ⟨c, h⟩))
  rw [if_neg c] at h; cases h
def bR {α κ β : Type} (o : Option (α × κ)) (k : α → κ → Option β) : Option β := match o with
  | none => none
  | some q => k q.1 q.2
theorem bR_inv {α κ β : Type} {o : Option (α × κ)} {k : α → κ → Option β} {r : β} (h : bR o k = some r) : ∃ a x, o = some (a, x) ∧ k a x = some r := by
  cases o with
  | none => cases h
  | some q => exact ⟨q.1, q.2, rfl, h⟩
theorem bR_some {α κ β : Type} (a : α) (x : κ) (k : α → κ → Option β) : bR (some (a, x)) k = k a x := rfl
theorem bR_of {α κ β : Type} {o : Option (α × κ)} {a : α} {x : κ} (k : α → κ → Option β) (h : o = some (a, x)) : bR o k = k a x := by rw [h]; rfl
def bV {κ β : Type} (o : Option κ) (k : κ → Option β) : Option β := match o with
  | none => none
  | some q => k q
theorem bV_inv {κ β : Type} {o : Option κ} {k : κ → Option β} {r : β} (h : bV o k = some r) : ∃ x, o = some x ∧ k x = some r := by
  cases o with
  | none => cases h
  | some q => exact ⟨q, rfl, h⟩
theorem bV_of {κ β : Type} {o : Option κ} {x : κ} (k : κ → Option β) (h : o = some x) : bV o k = k x := by rw [h]; rfl
def nm {α β : Type} (e : α) (k : α → Option β) : Option β := k e
theorem nm_inv {α β : Type} {e : α} {k : α → Option β} {r : β} (h : nm e k = some r) : ∃ x, x = e ∧ k x = some r := ⟨e, rfl, h⟩
theorem nm_of {α β : Type} (e : α) (k : α → Option β) : nm e k = k e := rfl
theorem it_t {c : Prop} [Decidable c] {α : Type} {a b x : α} (h : c) (e : (if c then a else b) = x) : a = x := by rw [if_pos h] at e; exact e
theorem it_f {c : Prop} [Decidable c] {α : Type} {a b x : α} (h : ¬ c) (e : (if c then a else b) = x) : b = x := by rw [if_neg h] at e; exact e
theorem it_or {c : Prop} [Decidable c] {α : Type} {a b x : α} (e : (if c then a else b) = x) : (c ∧ a = x) ∨ (¬ c ∧ b = x) := by
  by_cases h : c
  · exact Or.inl ⟨h, it_t h e⟩
  · exact Or.inr ⟨h, it_f h e⟩
/-- how often a loop may go round -/
def qF : Nat := 1024
/-- the class's own table of words -/
def q_tb : Nat → Int64 := fun j => match j with
  | 0 => -6148914691236517206
  | 1 => -3689348814741910324
  | 2 => -1085102592571150096
  | 3 => -71777214294589696
  | 4 => -281470681808896
  | _ => -4294967296
def q_tab : Nat → Value := fun j => .long (q_tb j)
def q_sh (s0 s1 s2 s3 : Nat) : Nat → Option Nat := fun j => match j with
  | 0 => some s0
  | 1 => some s1
  | 2 => some s2
  | 3 => some s3
  | _ => none
/-- what the tables say of the nest -/
def q_N (U : State) : Prop := (∀ q ∈ nF, va_Nw (.fieldLinkNest q.1 q.2.1 q.2.2.1 q.2.2.2.1 q.2.2.2.2.1 q.2.2.2.2.2) U) ∧ ∀ q ∈ nM, va_Nw (.methodLinkNest q.1 q.2.1 q.2.2.1 q.2.2.2) U
theorem q_N.warm {s U : State} (h : q_N s) (hW : s.WarmedH U.vm) : q_N U := ⟨fun q hq => va_Nw.warmF hW (h.1 q hq), fun q hq => va_Nw.warmM hW (h.2 q hq)⟩
theorem q_N.same {s U : State} (h : q_N s) (e : s.vm = U.vm) : q_N U := ⟨fun q hq => va_Nw.same rfl e (h.1 q hq), fun q hq => va_Nw.same rfl e (h.2 q hq)⟩
abbrev q_ty (cI cJ cZ cS : ClassId) : List (ClassId × FieldType) := [(cI, .int), (cJ, .long), (cZ, .boolean), (cS, .object "ComeIfShe$Sheet")]
/-- what never changes: the tables, the nest, the static row -/
def q_G (D : va_G) (cI cJ cZ cS : ClassId) (tb : Nat) (A : Nat → Prop) (U : State) : Prop :=
  va_K D vwCl (q_ty cI cJ cZ cS) U ∧ q_N U ∧ va_AO "ComeIfShe$Sheet" U ∧ va_Z "ComeIfShe" "LISTS_WITH" "[J" (.ref tb) A U U.heap ∧ va_T .long tb 6 q_tab A U U.heap
/-- the cells now -/
def q_H (D : va_G) (A : Nat → Prop) (s : State) (ws : va_W) (H : Heap) (locs : List Loc) : Prop := va_P D vwCl ws H ∧ va_D A ws ∧ va_S A s.heap H locs
def q_Pre (D : va_G) (cI cJ cZ cS : ClassId) (tb : Nat) (av : List Value) (sz : Nat) (W0 : va_W) : Array Value → State → Prop :=
  va_Pc av (fun U => U.heap.size = sz ∧ va_P D vwCl W0 U.heap ∧ q_G D cI cJ cZ cS tb (va_A W0 sz) U ∧ va_D (fun _ => True) W0)
def q_Qi (D : va_G) (r : Int32) (W0 W1 : va_W) (sz : Nat) : Array Value → State → Outcome → State → Prop :=
  va_Qi (fun x (_ : Unit) => x = r) (fun _ t => va_P D vwCl W1 t.heap ∧ va_D (va_A W0 sz) W1) (va_A W0 sz)
def q_Ql (D : va_G) (r : Int64) (W0 W1 : va_W) (sz : Nat) : Array Value → State → Outcome → State → Prop :=
  va_Ql (fun x (_ : Unit) => x = r) (fun _ t => va_P D vwCl W1 t.heap ∧ va_D (va_A W0 sz) W1) (va_A W0 sz)
def q_Qv (D : va_G) (W0 W1 : va_W) (sz : Nat) : Array Value → State → Outcome → State → Prop :=
  va_Qv (fun (_ : Unit) => True) (fun _ t => va_P D vwCl W1 t.heap ∧ va_D (va_A W0 sz) W1) (va_A W0 sz)
/-- a constructor: new cells, their addresses u -/
def q_Qn (D : va_G) (W0 : va_W) (W1 : (Nat → Nat) → va_W) (sz : Nat) : Array Value → State → Outcome → State → Prop :=
  va_Qv (fun (_ : Nat → Nat) => True) (fun u t => va_P D vwCl (W1 u) t.heap ∧ va_D (va_A W0 sz) (W1 u)) (va_A W0 sz)
theorem q_blind {D : va_G} {cI cJ cZ cS : ClassId} {tb : Nat} {av : List Value} {sz : Nat} {W0 : va_W} : FrameBlind (q_Pre D cI cJ cZ cS tb av sz W0) := by
  intro a U g mk q
  obtain ⟨q0, q1, q2, ⟨g1, g2, g3, g4, g5⟩, q4⟩ := q
  have hvm : U.vm.Alike (U.calling g mk a).vm := Vm.Alike.refl U.vm
  exact ⟨q0, q1, q2, ⟨va_K.moved hvm g1, q_N.same g2 rfl, va_AO.moved hvm g3, va_Z.moved hvm g4, va_T.moved hvm g5⟩, q4⟩
/-- the fixed facts inside a method -/
def q_Fx (p : Program) (s : State) (m : MethodId) (args : Array Value) (meth : Method) (c : Code) (cc : ByteArray) (nL : Nat) (own : String) (ret : Option FieldType) (D : va_G) (cI cJ cZ cS : ClassId) (tb : Nat) (A : Nat → Prop) : Prop :=
  p.tables.exec = Jvm.exec ∧ c.code = cc ∧ c.maxLocals = nL ∧ s.vm.findClass own = some m.cls ∧ (∀ w ∈ wA, w.before args s = true) ∧ meth.sig.returnType = ret ∧ meth.locks = false ∧ q_G D cI cJ cZ cS tb A s ∧ (∀ q, s.heap.size ≤ q → A q)
/-- a list of cells with some put anew -/
def q_upd : va_W → List Nat → va_W → va_W
  | ws, i :: is, x :: xs => q_upd (ws.set i x) is xs
  | ws, _, _ => ws
theorem q_upd_get : ∀ (is : List Nat) (xs ws : va_W), is.length = xs.length → ∀ (j : Nat) (q : Nat × va_E), (q_upd ws is xs)[j]? = some q → (∃ k : Nat, xs[k]? = some q ∧ is[k]? = some j) ∨ (ws[j]? = some q ∧ j ∉ is)
  | [], [], ws, _, j, q, h => Or.inr ⟨h, List.not_mem_nil⟩
  | [], x :: xs, ws, e, _, _, _ => by simp at e
  | i :: is, [], ws, e, _, _, _ => by simp at e
  | i :: is, x :: xs, ws, e, j, q, h => by
    rcases q_upd_get is xs (ws.set i x) (by simpa using e) j q h with ⟨k, h1, h2⟩ | ⟨h1, h2⟩
    · exact Or.inl ⟨k + 1, by simpa using h1, by simpa using h2⟩
    · by_cases c : i = j
      · subst c
        rw [List.getElem?_set] at h1
        by_cases hl : i < ws.length
        · simp [hl] at h1
          exact Or.inl ⟨0, by simp [h1], by simp⟩
        · simp [hl] at h1
      · rw [List.getElem?_set_ne c] at h1
        exact Or.inr ⟨h1, by simp only [List.mem_cons, not_or]; exact ⟨fun e => c e.symm, h2⟩⟩
theorem q_Dsame {A : Nat → Prop} {ws ws' : va_W} (hD : va_D A ws) (e : ws'.map Prod.fst = ws.map Prod.fst) : va_D A ws' := by
  have key : ∀ (i : Nat) (p : Nat × va_E), ws'[i]? = some p → ∃ p0, ws[i]? = some p0 ∧ p0.1 = p.1 := by
    intro i p h
    have h1 : (ws'.map Prod.fst)[i]? = some p.1 := by rw [List.getElem?_map, h]; rfl
    rw [e, List.getElem?_map] at h1
    cases h2 : ws[i]? with
    | none => rw [h2] at h1; cases h1
    | some p0 => rw [h2] at h1; exact ⟨p0, rfl, Option.some.inj h1⟩
  refine ⟨fun i j p q hp hq hpq => ?_, fun k q hq => ?_⟩
  · obtain ⟨p0, a1, a2⟩ := key i p hp
    obtain ⟨q0, b1, b2⟩ := key j q hq
    exact hD.1 i j p0 q0 a1 b1 (by rw [a2, b2, hpq])
  · obtain ⟨q0, b1, b2⟩ := key k q hq
    rw [← b2]
    exact hD.2 k q0 b1
theorem q_Psub {D : va_G} {cl : List vw_C} {ws wc : va_W} {H : Heap} (hP : va_P D cl ws H) {is : List Nat} (hC : is.map (fun i => ws[i]?) = wc.map some) : va_P D cl wc H := by
  intro k q hq
  have h1 : (is.map (fun i => ws[i]?))[k]? = some (some q) := by rw [hC, List.getElem?_map, hq]; rfl
  rw [List.getElem?_map] at h1
  cases hi : is[k]? with
  | none => rw [hi] at h1; cases h1
  | some i => rw [hi] at h1; exact hP i q (Option.some.inj h1)
/-- behind a call: the callee's cells as it left them, all others as they were -/
theorem q_back {D : va_G} {A : Nat → Prop} {s : State} {ws wc w1 ws' : va_W} {H H1 : Heap} {locs : List Loc} {is : List Nat} (h : q_H D A s ws H locs) (hC : is.map (fun i => ws[i]?) = wc.map some) (hF : w1.length = is.length) (hE : q_upd ws is w1 = ws') (hfst : ws'.map Prod.fst = ws.map Prod.fst)
    (hk : ∀ q : Nat, q < H.size → ¬ va_A wc H.size q → H1[q]? = H[q]?) (hP1 : va_P D vwCl w1 H1) : va_P D vwCl ws' H1 ∧ va_D A ws' := by
  obtain ⟨hP, hD, -⟩ := h
  subst hE
  refine ⟨fun j q hq => ?_, q_Dsame hD hfst⟩
  rcases q_upd_get is w1 ws hF.symm j q hq with ⟨k, h1, h2⟩ | ⟨h1, h2⟩
  · exact hP1 k q h1
  · refine (hP j q h1).kept (hk q.1 (hP j q h1).lt ?_)
    rintro (⟨k2, e2, h3⟩ | h3)
    · have h4 : (is.map (fun i => ws[i]?))[k2]? = some (some (q.1, e2)) := by rw [hC, List.getElem?_map, h3]; rfl
      rw [List.getElem?_map] at h4
      cases hi : is[k2]? with
      | none => rw [hi] at h4; cases h4
      | some i =>
        rw [hi] at h4
        have hij := hD.1 j i q (q.1, e2) h1 (Option.some.inj h4) rfl
        subst hij
        exact h2 (List.mem_of_getElem? hi)
    · have := (hP j q h1).lt
      omega
/-- what a callee wants of the caller's state -/
theorem q_give {D : va_G} {cI cJ cZ cS : ClassId} {tb : Nat} {A : Nat → Prop} {s : State} {ws wc : va_W} {H : Heap} {locs : List Loc} {is : List Nat} {av : List Value} (hG : q_G D cI cJ cZ cS tb A s) (hA : ∀ q, s.heap.size ≤ q → A q) (h : q_H D A s ws H locs) (hC : is.map (fun i => ws[i]?) = wc.map some) (hn : va_nd is = true) :
    ∀ U : State, U.heap = H → s.WarmedH U.vm → q_Pre D cI cJ cZ cS tb av H.size wc av.toArray U := by
  intro U hU hW
  obtain ⟨hP, hD, hS⟩ := h
  obtain ⟨g1, g2, g3, g4, g5⟩ := hG
  have hFc := va_free (wc := wc) hD hS hA is hC
  have hal := hW.alike
  refine ⟨rfl, by rw [hU], by rw [hU]; exact q_Psub hP hC, ⟨va_K.moved hal g1, g2.warm hW, va_AO.moved hal g3, ?_, ?_⟩, (hD.sub is hn hC).weaken (fun _ _ _ _ => trivial)⟩
  · rw [hU]
    exact va_Z.moved hal ((g4.kept (fun a h1 h2 => hS.2.1 a h1 h2)).narrow hFc)
  · rw [hU]
    exact va_T.moved hal ((g5.kept (fun a h1 h2 => hS.2.1 a h1 h2)).narrow hFc)
section QR
variable {p : Program} {l : Launch} {e : Env} {R : Room} {s : State} {m : MethodId} {args : Array Value} {below : List Frame} {meth : Method} {c : Code} {H : Heap} {locs : List Loc} {cells slots : Nat} {Q : State → Prop}
variable {cc bytes : ByteArray} {pc nL maxL n mc ms index : Nat} {ls : Array Slot} {rest As : List Value} {D : va_G} {A : Nat → Prop} {a b tb : Nat} {cI cJ cZ cS : ClassId} {ws ws' wc w1 : va_W} {own C : String} {y : MethodName} {ret ret0 : Option FieldType} {rm : Room}
theorem lv_eqi {x y : Int32} (h : y = x) (k : W p l e R s m args below meth c H locs cells slots Q (F0 m pc ls (.int y :: rest))) : W p l e R s m args below meth c H locs cells slots Q (F0 m pc ls (.int x :: rest)) := h ▸ k
theorem lv_eql {x y : Int64} (h : y = x) (k : W p l e R s m args below meth c H locs cells slots Q (F0 m pc ls (.long y :: rest))) : W p l e R s m args below meth c H locs cells slots Q (F0 m pc ls (.long x :: rest)) := h ▸ k
theorem q_get (fx : q_Fx p s m args meth c cc nL own ret0 D cI cJ cZ cS tb A) {T : u_T} {N ci : Nat} (hin : ∀ w ∈ u_ws C T N, w ∈ wA) (h : q_H D A s ws H locs) (q0 : Nat) {fs : List Value} (he : ws[q0]? = some (a, .inr (ci, fs))) (hc : vwCl[ci]? = some (C, T, N)) (k : Nat) (hk : k < N) (hlink : Cond.fieldLink own index (T k).1 (T k).2.1 (T k).2.2.1 ∈ wA) {v : Value} (hv : fs[k]? = some v) (hdg : decode cc pc = .ok (.getfield index, 3))
    (kk : W p l e R s m args below meth c H locs cells slots Q (F0 m (pc + 3) ls (v :: rest))) : W p l e R s m args below meth c H locs cells slots Q (F0 m pc ls (.ref a :: rest)) := by
  obtain ⟨hx, hb, -, hown, hts, -, -, hG, -⟩ := fx
  exact va_get hx hb hts hin hown hG.1 h.1 q0 he hc k hk (hts _ hlink) (fun _ h => h) hv hdg kk
theorem q_getN (fx : q_Fx p s m args meth c cc nL own ret0 D cI cJ cZ cS tb A) {T : u_T} {N ci : Nat} {host : String} (hin : ∀ w ∈ u_ws C T N, w ∈ wA) (h : q_H D A s ws H locs) (q0 : Nat) {fs : List Value} (he : ws[q0]? = some (a, .inr (ci, fs))) (hc : vwCl[ci]? = some (C, T, N)) (k : Nat) (hk : k < N) (hlink : (own, index, (T k).1, (T k).2.1, (T k).2.2.1, host) ∈ nF) {v : Value} (hv : fs[k]? = some v) (hdg : decode cc pc = .ok (.getfield index, 3))
    (kk : W p l e R s m args below meth c H locs cells slots Q (F0 m (pc + 3) ls (v :: rest))) : W p l e R s m args below meth c H locs cells slots Q (F0 m pc ls (.ref a :: rest)) := by
  obtain ⟨hx, hb, -, hown, hts, -, -, hG, -⟩ := fx
  have hnest := hG.2.1.1 _ hlink
  exact va_getN hx hb hts hin hown hG.1 h.1 q0 he hc k hk (va_Nw.use rfl hnest) (fun _ h => h) hv hdg kk
theorem q_put (fx : q_Fx p s m args meth c cc nL own ret0 D cI cJ cZ cS tb A) {T : u_T} {N ci : Nat} (hin : ∀ w ∈ u_ws C T N, w ∈ wA) (ty0 : Nat → FieldType) (hty : ∀ k, k < N → parseFieldDescriptor (T k).2.2.1 = some (ty0 k)) (hnm : ∀ a, a < N → ∀ b, b < N → a ≠ b → (T a).2.1 ≠ (T b).2.1) (h : q_H D A s ws H locs) (q0 : Nat) {fs : List Value} (he : ws[q0]? = some (a, .inr (ci, fs))) (hc : vwCl[ci]? = some (C, T, N)) (k : Nat) (hk : k < N) (hlink : Cond.fieldLink own index (T k).1 (T k).2.1 (T k).2.2.1 ∈ wA) (hfin : (T k).2.2.2 = false) {v : Value} (hn : narrow (ty0 k) v = v) (hfit : fits (ty0 k) v = true) (hl : k < fs.length) (hE : ws.set q0 (a, .inr (ci, fs.set k v)) = ws')
    (hdg : decode cc pc = .ok (.putfield index, 3)) (kk : ∀ (H : Heap) (locs : List Loc), q_H D A s ws' H locs → W p l e R s m args below meth c H locs cells slots Q (F0 m (pc + 3) ls rest)) : W p l e R s m args below meth c H locs cells slots Q (F0 m pc ls (v :: .ref a :: rest)) := by
  obtain ⟨hx, hb, -, hown, hts, -, -, hG, -⟩ := fx
  subst hE
  exact va_put hx hb hts hin ty0 hty hnm hown hG.1 h.1 h.2.1 h.2.2 q0 he hc k hk (hts _ hlink) (fun _ h => h) hfin (hty k hk) hn hfit hl hdg (fun H1 locs1 h1 h2 h3 => kk H1 locs1 ⟨h1, h2, h3⟩)
theorem q_putN (fx : q_Fx p s m args meth c cc nL own ret0 D cI cJ cZ cS tb A) {T : u_T} {N ci : Nat} {host : String} (hin : ∀ w ∈ u_ws C T N, w ∈ wA) (ty0 : Nat → FieldType) (hty : ∀ k, k < N → parseFieldDescriptor (T k).2.2.1 = some (ty0 k)) (hnm : ∀ a, a < N → ∀ b, b < N → a ≠ b → (T a).2.1 ≠ (T b).2.1) (h : q_H D A s ws H locs) (q0 : Nat) {fs : List Value} (he : ws[q0]? = some (a, .inr (ci, fs))) (hc : vwCl[ci]? = some (C, T, N)) (k : Nat) (hk : k < N) (hlink : (own, index, (T k).1, (T k).2.1, (T k).2.2.1, host) ∈ nF) (hfin : (T k).2.2.2 = false) {v : Value} (hn : narrow (ty0 k) v = v) (hfit : fits (ty0 k) v = true) (hl : k < fs.length) (hE : ws.set q0 (a, .inr (ci, fs.set k v)) = ws')
    (hdg : decode cc pc = .ok (.putfield index, 3)) (kk : ∀ (H : Heap) (locs : List Loc), q_H D A s ws' H locs → W p l e R s m args below meth c H locs cells slots Q (F0 m (pc + 3) ls rest)) : W p l e R s m args below meth c H locs cells slots Q (F0 m pc ls (v :: .ref a :: rest)) := by
  obtain ⟨hx, hb, -, hown, hts, -, -, hG, -⟩ := fx
  subst hE
  have hnest := hG.2.1.1 _ hlink
  exact va_putN hx hb hts hin ty0 hty hnm hown hG.1 h.1 h.2.1 h.2.2 q0 he hc k hk (va_Nw.use rfl hnest) (fun _ h => h) hfin (hty k hk) hn hfit hl hdg (fun H1 locs1 h1 h2 h3 => kk H1 locs1 ⟨h1, h2, h3⟩)
theorem q_putF (fx : q_Fx p s m args meth c cc nL own ret0 D cI cJ cZ cS tb A) (hin2 : meth.name = "<init>") {T : u_T} {N ci : Nat} (hin : ∀ w ∈ u_ws C T N, w ∈ wA) (ty0 : Nat → FieldType) (hty : ∀ k, k < N → parseFieldDescriptor (T k).2.2.1 = some (ty0 k)) (hnm : ∀ a, a < N → ∀ b, b < N → a ≠ b → (T a).2.1 ≠ (T b).2.1) (h : q_H D A s ws H locs) (q0 : Nat) {fs : List Value} (he : ws[q0]? = some (a, .inr (ci, fs))) (hc : vwCl[ci]? = some (C, T, N)) (k : Nat) (hk : k < N) (hlink : Cond.fieldLink own index (T k).1 (T k).2.1 (T k).2.2.1 ∈ wA) (hfin : (T k).2.2.2 = true) (hdecl : (T k).1 = own) {v : Value} (hn : narrow (ty0 k) v = v) (hfit : fits (ty0 k) v = true) (hl : k < fs.length) (hE : ws.set q0 (a, .inr (ci, fs.set k v)) = ws')
    (hdg : decode cc pc = .ok (.putfield index, 3)) (kk : ∀ (H : Heap) (locs : List Loc), q_H D A s ws' H locs → W p l e R s m args below meth c H locs cells slots Q (F0 m (pc + 3) ls rest)) : W p l e R s m args below meth c H locs cells slots Q (F0 m pc ls (v :: .ref a :: rest)) := by
  obtain ⟨hx, hb, -, hown, hts, -, -, hG, -⟩ := fx
  subst hE
  exact va_putF hx hb hts hin ty0 hty hnm hown hG.1 h.1 h.2.1 h.2.2 q0 he hc k hk (hts _ hlink) (fun _ h => h) hfin hin2 hdecl (hty k hk) hn hfit hl hdg (fun H1 locs1 h1 h2 h3 => kk H1 locs1 ⟨h1, h2, h3⟩)
theorem q_iald (fx : q_Fx p s m args meth c cc nL own ret0 D cI cJ cZ cS tb A) (h : q_H D A s ws H locs) (q0 : Nat) {f : Nat → Int32} (ha : ws[q0]? = some (a, .inl (cI, n, .inl f))) {i : Int32} (hin : vp_in i n) (hdg : decode cc pc = .ok (.iaload, 1))
    (kk : W p l e R s m args below meth c H locs cells slots Q (F0 m (pc + 1) ls (.int (f i.toNatClampNeg) :: rest))) : W p l e R s m args below meth c H locs cells slots Q (F0 m pc ls (.int i :: .ref a :: rest)) :=
  va_iald fx.1 fx.2.1 fx.2.2.2.2.2.2.2.1.1 h.1 q0 0 ha rfl hin hdg kk
theorem q_lald (fx : q_Fx p s m args meth c cc nL own ret0 D cI cJ cZ cS tb A) (h : q_H D A s ws H locs) (q0 : Nat) {f : Nat → Int64} (ha : ws[q0]? = some (a, .inl (cJ, n, .inr (.inl f)))) {i : Int32} (hin : vp_in i n) (hdg : decode cc pc = .ok (.laload, 1))
    (kk : W p l e R s m args below meth c H locs cells slots Q (F0 m (pc + 1) ls (.long (f i.toNatClampNeg) :: rest))) : W p l e R s m args below meth c H locs cells slots Q (F0 m pc ls (.int i :: .ref a :: rest)) :=
  va_lald fx.1 fx.2.1 fx.2.2.2.2.2.2.2.1.1 h.1 q0 1 ha rfl hin hdg kk
theorem q_zald (fx : q_Fx p s m args meth c cc nL own ret0 D cI cJ cZ cS tb A) (h : q_H D A s ws H locs) (q0 : Nat) {f : Nat → Int32} (ha : ws[q0]? = some (a, .inl (cZ, n, .inl f))) {i : Int32} (hin : vp_in i n) (hdg : decode cc pc = .ok (.baload, 1))
    (kk : W p l e R s m args below meth c H locs cells slots Q (F0 m (pc + 1) ls (.int (f i.toNatClampNeg) :: rest))) : W p l e R s m args below meth c H locs cells slots Q (F0 m pc ls (.int i :: .ref a :: rest)) :=
  va_zald fx.1 fx.2.1 fx.2.2.2.2.2.2.2.1.1 h.1 q0 2 ha rfl hin hdg kk
theorem q_iast (fx : q_Fx p s m args meth c cc nL own ret0 D cI cJ cZ cS tb A) (h : q_H D A s ws H locs) (q0 : Nat) {f : Nat → Int32} (ha : ws[q0]? = some (a, .inl (cI, n, .inl f))) {i x : Int32} (hin : vp_in i n) (hE : ws.set q0 (a, .inl (cI, n, .inl (upd f i.toNatClampNeg x))) = ws') (hdg : decode cc pc = .ok (.iastore, 1))
    (kk : ∀ (H : Heap) (locs : List Loc), q_H D A s ws' H locs → W p l e R s m args below meth c H locs cells slots Q (F0 m (pc + 1) ls rest)) : W p l e R s m args below meth c H locs cells slots Q (F0 m pc ls (.int x :: .int i :: .ref a :: rest)) := by
  subst hE
  exact va_iast fx.1 fx.2.1 fx.2.2.2.2.2.2.2.1.1 h.1 h.2.1 h.2.2 q0 0 ha rfl hin hdg (fun H1 locs1 h1 h2 h3 => kk H1 locs1 ⟨h1, h2, h3⟩)
theorem q_zast (fx : q_Fx p s m args meth c cc nL own ret0 D cI cJ cZ cS tb A) (h : q_H D A s ws H locs) (q0 : Nat) {f : Nat → Int32} (ha : ws[q0]? = some (a, .inl (cZ, n, .inl f))) {i x : Int32} (hin : vp_in i n) (hE : ws.set q0 (a, .inl (cZ, n, .inl (upd f i.toNatClampNeg (vp_nar .boolean x)))) = ws') (hdg : decode cc pc = .ok (.bastore, 1))
    (kk : ∀ (H : Heap) (locs : List Loc), q_H D A s ws' H locs → W p l e R s m args below meth c H locs cells slots Q (F0 m (pc + 1) ls rest)) : W p l e R s m args below meth c H locs cells slots Q (F0 m pc ls (.int x :: .int i :: .ref a :: rest)) := by
  subst hE
  exact va_zast fx.1 fx.2.1 fx.2.2.2.2.2.2.2.1.1 h.1 h.2.1 h.2.2 q0 2 ha rfl hin hdg (fun H1 locs1 h1 h2 h3 => kk H1 locs1 ⟨h1, h2, h3⟩)
theorem q_last (fx : q_Fx p s m args meth c cc nL own ret0 D cI cJ cZ cS tb A) (h : q_H D A s ws H locs) (q0 : Nat) {f : Nat → Int64} (ha : ws[q0]? = some (a, .inl (cJ, n, .inr (.inl f)))) {i : Int32} {x : Int64} (hin : vp_in i n) (hE : ws.set q0 (a, .inl (cJ, n, .inr (.inl (vp_updL f i.toNatClampNeg x)))) = ws') (hdg : decode cc pc = .ok (.lastore, 1))
    (kk : ∀ (H : Heap) (locs : List Loc), q_H D A s ws' H locs → W p l e R s m args below meth c H locs cells slots Q (F0 m (pc + 1) ls rest)) : W p l e R s m args below meth c H locs cells slots Q (F0 m pc ls (.long x :: .int i :: .ref a :: rest)) := by
  subst hE
  exact va_last fx.1 fx.2.1 fx.2.2.2.2.2.2.2.1.1 h.1 h.2.1 h.2.2 q0 1 ha rfl hin hdg (fun H1 locs1 h1 h2 h3 => kk H1 locs1 ⟨h1, h2, h3⟩)
theorem q_alenI (fx : q_Fx p s m args meth c cc nL own ret0 D cI cJ cZ cS tb A) (h : q_H D A s ws H locs) (q0 : Nat) {f : Nat → Int32} (ha : ws[q0]? = some (a, .inl (cI, n, .inl f))) (hdg : decode cc pc = .ok (.arraylength, 1))
    (kk : W p l e R s m args below meth c H locs cells slots Q (F0 m (pc + 1) ls (.int (Int32.ofNat n) :: rest))) : W p l e R s m args below meth c H locs cells slots Q (F0 m pc ls (.ref a :: rest)) :=
  va_alen fx.1 fx.2.1 fx.2.2.2.2.2.2.2.1.1 h.1 q0 0 ha rfl rfl hdg kk
theorem q_alenL (fx : q_Fx p s m args meth c cc nL own ret0 D cI cJ cZ cS tb A) (h : q_H D A s ws H locs) (q0 : Nat) {f : Nat → Int64} (ha : ws[q0]? = some (a, .inl (cJ, n, .inr (.inl f)))) (hdg : decode cc pc = .ok (.arraylength, 1))
    (kk : W p l e R s m args below meth c H locs cells slots Q (F0 m (pc + 1) ls (.int (Int32.ofNat n) :: rest))) : W p l e R s m args below meth c H locs cells slots Q (F0 m pc ls (.ref a :: rest)) :=
  va_alen fx.1 fx.2.1 fx.2.2.2.2.2.2.2.1.1 h.1 q0 1 ha rfl rfl hdg kk
/-- a sheet out of the row of sheets -/
theorem q_aald (fx : q_Fx p s m args meth c cc nL own ret0 D cI cJ cZ cS tb A) (h : q_H D A s ws H locs) (q0 : Nat) {s0 s1 s2 s3 : Nat} (ha : ws[q0]? = some (a, .inl (cS, 4, .inr (.inr (.inr (.inr (q_sh s0 s1 s2 s3))))))) {i k : Int32} (hi : i = k) {v : Nat} (hin : vp_in k 4) (hv : va_rf (q_sh s0 s1 s2 s3 k.toNatClampNeg) = .ref v) (hdg : decode cc pc = .ok (.aaload, 1))
    (kk : W p l e R s m args below meth c H locs cells slots Q (F0 m (pc + 1) ls (.ref v :: rest))) : W p l e R s m args below meth c H locs cells slots Q (F0 m pc ls (.int i :: .ref a :: rest)) := by
  subst hi
  refine va_aldq (C := "ComeIfShe$Sheet") fx.1 fx.2.1 fx.2.2.2.2.2.2.2.1.1 h.1 q0 3 ha rfl hin hdg ?_
  rw [hv]
  exact kk
theorem q_tabN (fx : q_Fx p s m args meth c cc nL own ret0 D cI cJ cZ cS tb A) (h : q_H D A s ws H locs) {host : String} (hlink : (own, index, "ComeIfShe", "LISTS_WITH", "[J", host) ∈ nF) (hdg : decode cc pc = .ok (.getstatic index, 3))
    (kk : W p l e R s m args below meth c H locs cells slots Q (F0 m (pc + 3) ls (.ref tb :: rest))) : W p l e R s m args below meth c H locs cells slots Q (F0 m pc ls rest) := by
  obtain ⟨hx, hb, -, hown, hts, -, -, hG, -⟩ := fx
  have hnest := hG.2.1.1 _ hlink
  exact va_getsN hx hb hG.2.2.2.1 h.2.2 hown (va_Nw.use rfl hnest) (fun _ h => h) hdg kk
theorem q_tabL (fx : q_Fx p s m args meth c cc nL own ret0 D cI cJ cZ cS tb A) (h : q_H D A s ws H locs) (hdg : decode cc pc = .ok (.arraylength, 1))
    (kk : W p l e R s m args below meth c H locs cells slots Q (F0 m (pc + 1) ls (.int 6 :: rest))) : W p l e R s m args below meth c H locs cells slots Q (F0 m pc ls (.ref tb :: rest)) :=
  va_tlen fx.1 fx.2.1 fx.2.2.2.2.2.2.2.1.2.2.2.2 h.2.2 rfl hdg kk
theorem q_tabA (fx : q_Fx p s m args meth c cc nL own ret0 D cI cJ cZ cS tb A) (h : q_H D A s ws H locs) {i : Int32} (hin : vp_in i 6) (hdg : decode cc pc = .ok (.laload, 1))
    (kk : W p l e R s m args below meth c H locs cells slots Q (F0 m (pc + 1) ls (.long (q_tb i.toNatClampNeg) :: rest))) : W p l e R s m args below meth c H locs cells slots Q (F0 m pc ls (.int i :: .ref tb :: rest)) :=
  va_tl fx.1 fx.2.1 fx.2.2.2.2.2.2.2.1.2.2.2.2 h.2.2 hin rfl hdg kk
theorem q_ldc (fx : q_Fx p s m args meth c cc nL own ret0 D cI cJ cZ cS tb A) {v : Int32} (hk : Cond.constant own index v ∈ wA) (hdg : decode cc pc = .ok (.ldc index, 2)) (kk : W p l e R s m args below meth c H locs cells slots Q (F0 m (pc + 2) ls (.int v :: rest))) : W p l e R s m args below meth c H locs cells slots Q (F0 m pc ls rest) :=
  lv_ldc fx.1 fx.2.1 fx.2.2.2.1 (fx.2.2.2.2.1 _ hk) hdg kk
theorem q_ldcw (fx : q_Fx p s m args meth c cc nL own ret0 D cI cJ cZ cS tb A) {v : Int32} (hk : Cond.constant own index v ∈ wA) (hdg : decode cc pc = .ok (.ldc_w index, 3)) (kk : W p l e R s m args below meth c H locs cells slots Q (F0 m (pc + 3) ls (.int v :: rest))) : W p l e R s m args below meth c H locs cells slots Q (F0 m pc ls rest) :=
  lv_ldcw fx.1 fx.2.1 fx.2.2.2.1 (fx.2.2.2.2.1 _ hk) hdg kk
theorem q_ldc2 (fx : q_Fx p s m args meth c cc nL own ret0 D cI cJ cZ cS tb A) {v : Int64} (hk : Cond.constantLong own index v ∈ wA) (hdg : decode cc pc = .ok (.ldc2_w index, 3)) (kk : W p l e R s m args below meth c H locs cells slots Q (F0 m (pc + 3) ls (.long v :: rest))) : W p l e R s m args below meth c H locs cells slots Q (F0 m pc ls rest) :=
  lv_ldc2 fx.1 fx.2.1 fx.2.2.2.1 (fx.2.2.2.2.1 _ hk) hdg kk
end QR
/-! my kit: calls, returns, entry -/
def q_Ri (D : va_G) (r : Int32) (A : Nat → Prop) (W1 : va_W) : Array Value → State → Outcome → State → Prop :=
  va_Qi (fun x (_ : Unit) => x = r) (fun _ t => va_P D vwCl W1 t.heap ∧ va_D A W1) A
def q_Rl (D : va_G) (r : Int64) (A : Nat → Prop) (W1 : va_W) : Array Value → State → Outcome → State → Prop :=
  va_Ql (fun x (_ : Unit) => x = r) (fun _ t => va_P D vwCl W1 t.heap ∧ va_D A W1) A
def q_Rv (D : va_G) (A : Nat → Prop) (W1 : va_W) : Array Value → State → Outcome → State → Prop :=
  va_Qv (fun (_ : Unit) => True) (fun _ t => va_P D vwCl W1 t.heap ∧ va_D A W1) A
def q_Rn (D : va_G) (A : Nat → Prop) (W1 : (Nat → Nat) → va_W) : Array Value → State → Outcome → State → Prop :=
  va_Qv (fun (_ : Nat → Nat) => True) (fun u t => va_P D vwCl (W1 u) t.heap ∧ va_D A (W1 u)) A
/-- an instance method's words; a static one's; a constructor's -/
def q_MV (y : MethodName) (bytes : ByteArray) (maxL : Nat) (ret : Option FieldType) (C : String) (n : Nat) : Prop :=
  Cond.code y bytes maxL ret ∈ wA ∧ Cond.instanceMethod y ∈ wA ∧ Cond.selects C y y ∈ wA ∧ Cond.initialized C ∈ wA ∧ (y.cls = C ∧ y.cls ≠ "java/lang/invoke/MethodHandle" ∧ y.cls ≠ "java/lang/invoke/VarHandle" ∧ (parseMethodDescriptor y.desc).map (fun d => d.parameters.length) = some n)
def q_MS (y : MethodName) (bytes : ByteArray) (maxL : Nat) (ret : Option FieldType) (n : Nat) : Prop :=
  Cond.code y bytes maxL ret ∈ wA ∧ Cond.static y ∈ wA ∧ Cond.initialized y.cls ∈ wA ∧ (y.cls ≠ "java/lang/invoke/MethodHandle" ∧ y.cls ≠ "java/lang/invoke/VarHandle" ∧ (parseMethodDescriptor y.desc).map (fun d => d.parameters.length) = some n)
def q_MI (y : MethodName) (bytes : ByteArray) (maxL : Nat) (n : Nat) : Prop :=
  Cond.code y bytes maxL none ∈ wA ∧ Cond.instanceMethod y ∈ wA ∧ Cond.initialized y.cls ∈ wA ∧ y.name = "<init>" ∧ (y.cls ≠ "java/lang/invoke/MethodHandle" ∧ y.cls ≠ "java/lang/invoke/VarHandle" ∧ (parseMethodDescriptor y.desc).map (fun d => d.parameters.length) = some n)
section QC
variable {p : Program} {l : Launch} {e : Env} {R : Room} {s : State} {m : MethodId} {args : Array Value} {below : List Frame} {meth : Method} {c : Code} {H : Heap} {locs : List Loc} {cells slots : Nat} {Q : State → Prop}
variable {cc bytes : ByteArray} {pc nL maxL n mc ms index : Nat} {ls : Array Slot} {rest As st0 : List Value} {D : va_G} {A : Nat → Prop} {a b tb : Nat} {cI cJ cZ cS : ClassId} {ws ws' wc w1 : va_W} {own C : String} {y : MethodName} {ret ret0 : Option FieldType} {rm : Room}
theorem q_runV {Qc : Array Value → State → Outcome → State → Prop} (fx : q_Fx p s m args meth c cc nL own ret0 D cI cJ cZ cS tb A) (h : q_H D A s ws H locs) (hsz : ls.size = nL) (is : List Nat) (hC : is.map (fun i => ws[i]?) = wc.map some) (hn : va_nd is = true)
    (hM : Met l y (Cond.code y bytes maxL ret :: wA) rm (q_Pre D cI cJ cZ cS tb (.ref b :: As) H.size wc) Qc mc ms (va_A wc H.size)) (hy : q_MV y bytes maxL ret C n) (hlink : Cond.methodLink own index y ∈ wA) (hrm : rm.cells = mc ∧ rm.slots = ms) (hR : rm.frames + 1 ≤ R.frames ∧ 8 + (maxL + 11) + rm.locals ≤ R.locals)
    {ci : Nat} {fs : List Value} {T : u_T} {N : Nat} (hq : wc[0]? = some (b, .inr (ci, fs))) (hcl : vwCl[ci]? = some (C, T, N)) (hAs : As.length = n) (hst : st0 = As.reverse ++ .ref b :: rest) (hroom : (rest.map fun v => v.category).sum ≤ 8) (hdg : decode cc pc = .ok (.invokevirtual index, 3)) (hce : cells + mc ≤ R.cells ∧ slots + ms ≤ R.slots) :
    va_Run p l e R s m args below meth c H locs cells slots mc ms (F0 m pc ls st0) rest (Qc (Value.ref b :: As).toArray) (va_A wc H.size) := by
  obtain ⟨hx, hb, hml, hown, hts, -, -, hG, hA⟩ := fx
  obtain ⟨y1, y2, y3, y4, y5⟩ := hy
  refine va_runV (g := F0 m pc ls st0) ⟨hx, hb, hml, hown, hts⟩ hM ⟨callB_of n hts (wA_good _ y1) rfl hrm.1 hrm.2 (y5.1 ▸ hts _ y4) (hts _ hlink) y5.2 hR, hts _ y2, hts _ y3⟩ ⟨q_blind, va_recv hG.1 (q_Psub h.1 hC) hcl hq, q_give hG hA h hC hn⟩ rfl hAs hsz hst (lv_room hroom) hdg hce
theorem q_runVN {Qc : Array Value → State → Outcome → State → Prop} {host : String} (fx : q_Fx p s m args meth c cc nL own ret0 D cI cJ cZ cS tb A) (h : q_H D A s ws H locs) (hsz : ls.size = nL) (is : List Nat) (hC : is.map (fun i => ws[i]?) = wc.map some) (hn : va_nd is = true)
    (hM : Met l y (Cond.code y bytes maxL ret :: wA) rm (q_Pre D cI cJ cZ cS tb (.ref b :: As) H.size wc) Qc mc ms (va_A wc H.size)) (hy : q_MV y bytes maxL ret C n) (hlink : (own, index, y, host) ∈ nM) (hrm : rm.cells = mc ∧ rm.slots = ms) (hR : rm.frames + 1 ≤ R.frames ∧ 8 + (maxL + 11) + rm.locals ≤ R.locals)
    {ci : Nat} {fs : List Value} {T : u_T} {N : Nat} (hq : wc[0]? = some (b, .inr (ci, fs))) (hcl : vwCl[ci]? = some (C, T, N)) (hAs : As.length = n) (hst : st0 = As.reverse ++ .ref b :: rest) (hroom : (rest.map fun v => v.category).sum ≤ 8) (hdg : decode cc pc = .ok (.invokevirtual index, 3)) (hce : cells + mc ≤ R.cells ∧ slots + ms ≤ R.slots) :
    va_Run p l e R s m args below meth c H locs cells slots mc ms (F0 m pc ls st0) rest (Qc (Value.ref b :: As).toArray) (va_A wc H.size) := by
  obtain ⟨hx, hb, hml, hown, hts, -, -, hG, hA⟩ := fx
  obtain ⟨y1, y2, y3, y4, y5⟩ := hy
  have hnest := hG.2.1.2 _ hlink
  refine va_runVN (host := host) (g := F0 m pc ls st0) ⟨hx, hb, hml, hown, hts⟩ hM ⟨va_cnB n hts (wA_good _ y1) rfl hrm.1 hrm.2 hnest (y5.1 ▸ hts _ y4) y5.2 hR, hts _ y2, hts _ y3⟩ ⟨q_blind, va_recv hG.1 (q_Psub h.1 hC) hcl hq, q_give hG hA h hC hn⟩ rfl hAs hsz hst (lv_room hroom) hdg hce
theorem q_runS {Qc : Array Value → State → Outcome → State → Prop} (fx : q_Fx p s m args meth c cc nL own ret0 D cI cJ cZ cS tb A) (h : q_H D A s ws H locs) (hsz : ls.size = nL) (is : List Nat) (hC : is.map (fun i => ws[i]?) = wc.map some) (hn : va_nd is = true)
    (hM : Met l y (Cond.code y bytes maxL ret :: wA) rm (q_Pre D cI cJ cZ cS tb As H.size wc) Qc mc ms (va_A wc H.size)) (hy : q_MS y bytes maxL ret n) (hlink : Cond.methodLink own index y ∈ wA) (hrm : rm.cells = mc ∧ rm.slots = ms) (hR : rm.frames + 1 ≤ R.frames ∧ 8 + (maxL + 11) + rm.locals ≤ R.locals)
    (hAs : As.length = n) (hst : st0 = As.reverse ++ rest) (hroom : (rest.map fun v => v.category).sum ≤ 8) (hdg : decode cc pc = .ok (.invokestatic index, 3)) (hce : cells + mc ≤ R.cells ∧ slots + ms ≤ R.slots) :
    va_Run p l e R s m args below meth c H locs cells slots mc ms (F0 m pc ls st0) rest (Qc As.toArray) (va_A wc H.size) := by
  obtain ⟨hx, hb, hml, hown, hts, -, -, hG, hA⟩ := fx
  obtain ⟨y1, y2, y3, y4⟩ := hy
  refine va_runS (g := F0 m pc ls st0) ⟨hx, hb, hml, hown, hts⟩ hM ⟨callB_of n hts (wA_good _ y1) rfl hrm.1 hrm.2 (hts _ y3) (hts _ hlink) y4 hR, hts _ y2⟩ ⟨q_blind, q_give hG hA h hC hn⟩ rfl hAs hsz hst (lv_room hroom) hdg hce
theorem q_runSN {Qc : Array Value → State → Outcome → State → Prop} {host : String} (fx : q_Fx p s m args meth c cc nL own ret0 D cI cJ cZ cS tb A) (h : q_H D A s ws H locs) (hsz : ls.size = nL) (is : List Nat) (hC : is.map (fun i => ws[i]?) = wc.map some) (hn : va_nd is = true)
    (hM : Met l y (Cond.code y bytes maxL ret :: wA) rm (q_Pre D cI cJ cZ cS tb As H.size wc) Qc mc ms (va_A wc H.size)) (hy : q_MS y bytes maxL ret n) (hlink : (own, index, y, host) ∈ nM) (hrm : rm.cells = mc ∧ rm.slots = ms) (hR : rm.frames + 1 ≤ R.frames ∧ 8 + (maxL + 11) + rm.locals ≤ R.locals)
    (hAs : As.length = n) (hst : st0 = As.reverse ++ rest) (hroom : (rest.map fun v => v.category).sum ≤ 8) (hdg : decode cc pc = .ok (.invokestatic index, 3)) (hce : cells + mc ≤ R.cells ∧ slots + ms ≤ R.slots) :
    va_Run p l e R s m args below meth c H locs cells slots mc ms (F0 m pc ls st0) rest (Qc As.toArray) (va_A wc H.size) := by
  obtain ⟨hx, hb, hml, hown, hts, -, -, hG, hA⟩ := fx
  obtain ⟨y1, y2, y3, y4⟩ := hy
  have hnest := hG.2.1.2 _ hlink
  refine va_runSN (host := host) (g := F0 m pc ls st0) ⟨hx, hb, hml, hown, hts⟩ hM ⟨va_cnB n hts (wA_good _ y1) rfl hrm.1 hrm.2 hnest (hts _ y3) y4 hR, hts _ y2, trivial⟩ ⟨q_blind, q_give hG hA h hC hn⟩ rfl hAs hsz hst (lv_room hroom) hdg hce
theorem q_runI {Qc : Array Value → State → Outcome → State → Prop} (fx : q_Fx p s m args meth c cc nL own ret0 D cI cJ cZ cS tb A) (h : q_H D A s ws H locs) (hsz : ls.size = nL) (is : List Nat) (hC : is.map (fun i => ws[i]?) = wc.map some) (hn : va_nd is = true)
    (hM : Met l y (Cond.code y bytes maxL none :: wA) rm (q_Pre D cI cJ cZ cS tb (.ref b :: As) H.size wc) Qc mc ms (va_A wc H.size)) (hy : q_MI y bytes maxL n) (hlink : Cond.methodLink own index y ∈ wA) (hrm : rm.cells = mc ∧ rm.slots = ms) (hR : rm.frames + 1 ≤ R.frames ∧ 8 + (maxL + 11) + rm.locals ≤ R.locals)
    (hAs : As.length = n) (hst : st0 = As.reverse ++ .ref b :: rest) (hroom : (rest.map fun v => v.category).sum ≤ 8) (hdg : decode cc pc = .ok (.invokespecial index, 3)) (hce : cells + mc ≤ R.cells ∧ slots + ms ≤ R.slots) :
    va_Run p l e R s m args below meth c H locs cells slots mc ms (F0 m pc ls st0) rest (Qc (Value.ref b :: As).toArray) (va_A wc H.size) := by
  obtain ⟨hx, hb, hml, hown, hts, -, -, hG, hA⟩ := fx
  obtain ⟨y1, y2, y3, y4, y5⟩ := hy
  refine va_runI (g := F0 m pc ls st0) ⟨hx, hb, hml, hown, hts⟩ hM ⟨callB_of n hts (wA_good _ y1) rfl hrm.1 hrm.2 (hts _ y3) (hts _ hlink) y5 hR, y4, hts _ y2⟩ ⟨q_blind, q_give hG hA h hC hn⟩ rfl hAs hsz hst (lv_room hroom) hdg hce
/-- behind a call that makes nothing -/
theorem q_ci {r : Int32} {av : Array Value} (fx : q_Fx p s m args meth c cc nL own ret0 D cI cJ cZ cS tb A) (h : q_H D A s ws H locs) (is : List Nat) (hC : is.map (fun i => ws[i]?) = wc.map some) (hF : w1.length = is.length) (hE : q_upd ws is w1 = ws') (hfst : ws'.map Prod.fst = ws.map Prod.fst)
    (hr : va_Run p l e R s m args below meth c H locs cells slots 0 0 (F0 m pc ls st0) rest (q_Ri D r (va_A wc H.size) w1 av) (va_A wc H.size))
    (kk : ∀ (H : Heap) (locs : List Loc), q_H D A s ws' H locs → W p l e R s m args below meth c H locs cells slots Q (F0 m (pc + 3) ls (.int r :: rest))) : W p l e R s m args below meth c H locs cells slots Q (F0 m pc ls st0) := by
  have hFc := va_free (wc := wc) h.2.1 h.2.2 fx.2.2.2.2.2.2.2.2 is hC
  refine va_calli hr h.2.2 (fun q _ hq => hFc q hq) hFc (fun r1 u t H1 locs1 ht hvm hw hB hz1 hk1 hS1 => ?_)
  subst hw
  have hPD := q_back h hC hF hE hfst hk1 (by rw [← ht]; exact hB.1)
  exact kk H1 locs1 ⟨hPD.1, hPD.2, hS1⟩
theorem q_cl {r : Int64} {av : Array Value} (fx : q_Fx p s m args meth c cc nL own ret0 D cI cJ cZ cS tb A) (h : q_H D A s ws H locs) (is : List Nat) (hC : is.map (fun i => ws[i]?) = wc.map some) (hF : w1.length = is.length) (hE : q_upd ws is w1 = ws') (hfst : ws'.map Prod.fst = ws.map Prod.fst)
    (hr : va_Run p l e R s m args below meth c H locs cells slots 0 0 (F0 m pc ls st0) rest (q_Rl D r (va_A wc H.size) w1 av) (va_A wc H.size))
    (kk : ∀ (H : Heap) (locs : List Loc), q_H D A s ws' H locs → W p l e R s m args below meth c H locs cells slots Q (F0 m (pc + 3) ls (.long r :: rest))) : W p l e R s m args below meth c H locs cells slots Q (F0 m pc ls st0) := by
  have hFc := va_free (wc := wc) h.2.1 h.2.2 fx.2.2.2.2.2.2.2.2 is hC
  refine va_calll hr h.2.2 (fun q _ hq => hFc q hq) hFc (fun r1 u t H1 locs1 ht hvm hw hB hz1 hk1 hS1 => ?_)
  subst hw
  have hPD := q_back h hC hF hE hfst hk1 (by rw [← ht]; exact hB.1)
  exact kk H1 locs1 ⟨hPD.1, hPD.2, hS1⟩
theorem q_cv {av : Array Value} (fx : q_Fx p s m args meth c cc nL own ret0 D cI cJ cZ cS tb A) (h : q_H D A s ws H locs) (is : List Nat) (hC : is.map (fun i => ws[i]?) = wc.map some) (hF : w1.length = is.length) (hE : q_upd ws is w1 = ws') (hfst : ws'.map Prod.fst = ws.map Prod.fst)
    (hr : va_Run p l e R s m args below meth c H locs cells slots 0 0 (F0 m pc ls st0) rest (q_Rv D (va_A wc H.size) w1 av) (va_A wc H.size))
    (kk : ∀ (H : Heap) (locs : List Loc), q_H D A s ws' H locs → W p l e R s m args below meth c H locs cells slots Q (F0 m (pc + 3) ls rest)) : W p l e R s m args below meth c H locs cells slots Q (F0 m pc ls st0) := by
  have hFc := va_free (wc := wc) h.2.1 h.2.2 fx.2.2.2.2.2.2.2.2 is hC
  refine va_callv hr h.2.2 (fun q _ hq => hFc q hq) hFc (fun u t H1 locs1 ht hvm hw hB hz1 hk1 hS1 => ?_)
  have hPD := q_back h hC hF hE hfst hk1 (by rw [← ht]; exact hB.1)
  exact kk H1 locs1 ⟨hPD.1, hPD.2, hS1⟩
/-- returns -/
theorem q_reti {K : Type} (Wf : K → va_W) {k k' : K} {v r : Int32} (fx : q_Fx p s m args meth c cc nL own (some .int) D cI cJ cZ cS tb A) (hf : (some (v, k) : Option (Int32 × K)) = some (r, k')) (h : q_H D A s (Wf k) H locs) (hdg : decode cc pc = .ok (.ireturn, 1)) : W p l e R s m args below meth c H locs 0 0 (MQ below (q_Ri D r A (Wf k')) args s 0 0 A) (F0 m pc ls [.int v]) := by
  cases hf
  obtain ⟨hx, hb, hml, hown, hts, hr, hlocks, hG, hA⟩ := fx
  exact W.iret hx hb hr (fun t ht hW => ⟨⟨v, (), rfl, rfl, by rw [ht]; exact h.1, h.2.1⟩, h.2.2.F ht⟩) h.2.2.2.2 hdg hlocks
theorem q_retz {K : Type} (Wf : K → va_W) {k k' : K} {v r : Int32} (fx : q_Fx p s m args meth c cc nL own (some .boolean) D cI cJ cZ cS tb A) (hn : narrow .boolean (.int v) = .int v) (hf : (some (v, k) : Option (Int32 × K)) = some (r, k')) (h : q_H D A s (Wf k) H locs) (hdg : decode cc pc = .ok (.ireturn, 1)) : W p l e R s m args below meth c H locs 0 0 (MQ below (q_Ri D r A (Wf k')) args s 0 0 A) (F0 m pc ls [.int v]) := by
  cases hf
  obtain ⟨hx, hb, hml, hown, hts, hr, hlocks, hG, hA⟩ := fx
  exact W.zret hx hb hr hn (fun t ht hW => ⟨⟨v, (), rfl, rfl, by rw [ht]; exact h.1, h.2.1⟩, h.2.2.F ht⟩) h.2.2.2.2 hdg hlocks
theorem q_retl {K : Type} (Wf : K → va_W) {k k' : K} {v r : Int64} (fx : q_Fx p s m args meth c cc nL own (some .long) D cI cJ cZ cS tb A) (hf : (some (v, k) : Option (Int64 × K)) = some (r, k')) (h : q_H D A s (Wf k) H locs) (hdg : decode cc pc = .ok (.lreturn, 1)) : W p l e R s m args below meth c H locs 0 0 (MQ below (q_Rl D r A (Wf k')) args s 0 0 A) (F0 m pc ls [.long v]) := by
  cases hf
  obtain ⟨hx, hb, hml, hown, hts, hr, hlocks, hG, hA⟩ := fx
  exact W.lret hx hb hr (fun t ht hW => ⟨⟨v, (), rfl, rfl, by rw [ht]; exact h.1, h.2.1⟩, h.2.2.F ht⟩) h.2.2.2.2 hdg hlocks
theorem q_retv {K : Type} (Wf : K → va_W) {k k' : K} (fx : q_Fx p s m args meth c cc nL own none D cI cJ cZ cS tb A) (hf : (some k : Option K) = some k') (h : q_H D A s (Wf k) H locs) (hdg : decode cc pc = .ok (.return_, 1)) : W p l e R s m args below meth c H locs 0 0 (MQ below (q_Rv D A (Wf k')) args s 0 0 A) (F0 m pc ls []) := by
  cases hf
  obtain ⟨hx, hb, hml, hown, hts, hr, hlocks, hG, hA⟩ := fx
  exact W.vret hx hb hr (fun t ht hW => ⟨⟨(), rfl, trivial, by rw [ht]; exact h.1, h.2.1⟩, h.2.2.F ht⟩) h.2.2.2.2 hdg hlocks
/-- a method, from its entry -/
theorem q_enter {av : List Value} {sz : Nat} {W0 : va_W} {Qf : (Nat → Prop) → Array Value → State → Outcome → State → Prop} (hy : plainName y.cls = true) (hcls : y.cls = own) (hlen : (lg_sl av).length ≤ maxL)
    (body : ∀ (p : Program) (e : Env) (s : State) (m : MethodId) (below : List Frame) (meth : Method) (c : Code) (A : Nat → Prop) (ls : Array Slot), q_Fx p s m av.toArray meth c bytes maxL own ret D cI cJ cZ cS tb A → meth.name = y.name → q_H D A s W0 s.heap [] → lv_has ls maxL (lv_args 0 av) →
      W p l e rm s m av.toArray below meth c s.heap [] 0 0 (MQ below (Qf A) av.toArray s mc ms A) (F0 m 0 ls [])) :
    Met l y (Cond.code y bytes maxL ret :: wA) rm (q_Pre D cI cJ cZ cS tb av sz W0) (Qf (va_A W0 sz)) mc ms (va_A W0 sz) := by
  refine Met.ofW (cc := bytes) (maxL := maxL) (ret := ret) hy rfl ?_
  intro p e s m args below meth c s₁ B hml hv
  obtain ⟨rfl, hsz, hP, hG, hD0⟩ := hv
  have hts := atoms_spec (ws := Cond.code y bytes maxL ret :: wA) B.pre
  have hown : s.vm.findClass own = some m.cls := hcls ▸ findClass_of_methodNamed B.named
  subst hsz
  have hl := lv_entry av (n := maxL) hlen
  rw [lg_entry_eq]
  exact body p e s m below meth c (va_A W0 s.heap.size) _ ⟨B.exec, B.bytes, hml, hown, fun w hw => hts w (List.mem_cons_of_mem _ hw), B.returns, B.notSynchronized, hG, fun q h => Or.inr h⟩ (name_of_methodNamed B.named B.method).1 ⟨hP, hD0.self, va_S.rf⟩ hl
end QC
end
section
/-! the words by their places -/
theorem wt_0 {w : Cond} (h : w ∈ k2_sels lw_privs) : w ∈ lw_tbl := List.mem_append_left _ h
theorem wt_s {w : Cond} (h : w ∈ tables_1) : w ∈ lw_tbl := List.mem_append_right _ h
def wp_0 : List Cond := [Cond.selects RX4 yX4_found yX4_found, Cond.selects RX2 yX2_anyOf yX2_anyOf, Cond.selects RX2 yX2_allOf yX2_allOf, Cond.selects RX2 yX2_unit yX2_unit, Cond.selects RX2 yX2_sign yX2_sign, Cond.selects RX2 yX2_listsWith yX2_listsWith, Cond.selects RX2 yX2_passes yX2_passes, Cond.selects RX2 yX2_closed yX2_closed, Cond.selects RX2 yX2_fail yX2_fail, Cond.selects RX2 yX2_compared yX2_compared, Cond.selects RX2 yX2_listsWhereOthers yX2_listsWhereOthers, Cond.selects RX3 yX3_callAll yX3_callAll, Cond.selects RX4 yX4_cheapestFor yX4_cheapestFor, Cond.selects RX4 yX4_isCheaper yX4_isCheaper, Cond.selects RX4 yX4_isWellAsked yX4_isWellAsked, Cond.selects RX4 yX4_sheetLack yX4_sheetLack, Cond.selects RX1 yX1_bitsAt yX1_bitsAt, Cond.selects RX4 yX4_explains yX4_explains, Cond.selects RX5 yX5_finds yX5_finds, Cond.selects RX5 yX5_isGuest yX5_isGuest, Cond.selects RX5 yX5_comesBy yX5_comesBy, Cond.selects RX5 yX5_its yX5_its, Cond.selects RX5 yX5_holds yX5_holds, Cond.selects RX5 yX5_becomes yX5_becomes]
theorem we_0 : ((k2_sels lw_privs).drop 0).take 24 = wp_0 := rfl
theorem wi_0 {w : Cond} (h : w ∈ wp_0) : w ∈ lw_tbl := wt_0 (List.mem_of_mem_drop (List.mem_of_mem_take (we_0 ▸ h)))
def wp_1 : List Cond := [Cond.selects RX5 yX5_any yX5_any, Cond.selects RX5 yX5_every yX5_every, Cond.selects RX5 yX5_unit yX5_unit, Cond.selects RX5 yX5_look yX5_look, Cond.selects RX5 yX5_lay yX5_lay, Cond.selects RX5 yX5_counted yX5_counted, Cond.selects RX5 yX5_faulty yX5_faulty, Cond.selects RX5 yX5_opens yX5_opens, Cond.selects RX5 yX5_isList yX5_isList, Cond.selects RX5 yX5_lists yX5_lists, Cond.selects RX5 yX5_would yX5_would, Cond.selects RX5 yX5_costOf yX5_costOf, Cond.selects RX5 yX5_calling yX5_calling, Cond.selects RX5 yX5_called yX5_called, Cond.selects RX5 yX5_behind yX5_behind, Cond.selects RX5 yX5_looksAll yX5_looksAll, Cond.selects RX5 yX5_looksFar yX5_looksFar, Cond.selects RX5 yX5_orNone yX5_orNone, Cond.selects RX5 yX5_manySettled yX5_manySettled, Cond.selects RX5 yX5_looksWhere yX5_looksWhere, Cond.selects RX5 yX5_lastOf yX5_lastOf, Cond.selects RX5 yX5_bestBuy yX5_bestBuy, Cond.selects RX5 yX5_wrong yX5_wrong, Cond.selects RX5 yX5_isRow yX5_isRow]
theorem we_1 : ((k2_sels lw_privs).drop 24).take 24 = wp_1 := rfl
theorem wi_1 {w : Cond} (h : w ∈ wp_1) : w ∈ lw_tbl := wt_0 (List.mem_of_mem_drop (List.mem_of_mem_take (we_1 ▸ h)))
theorem wt_1 {w : Cond} : w ∈ tables_1_1 → w ∈ lw_tbl := fun h => wt_s (List.mem_append_left _ h)
def wp_2 : List Cond := [Cond.initialized RL, Cond.initialized RX4, Cond.initialized RX0, Cond.initialized RJ7, Cond.initialized RX2, Cond.initialized RX3, Cond.initialized RX1, Cond.initialized RX5, Cond.initialized RJ6, Cond.initialized RJ9, Cond.initialized RJ10, Cond.classLink RL 7 RX4, Cond.instantiable RX4 7, Cond.methodLink RL 9 yX4_init, Cond.instanceMethod yX4_init, Cond.code yX4_init cX4_init 2 none, Cond.methodLink RX4 3 objectInit, Cond.instanceMethod objectInit, Cond.code objectInit ⟨#[0xb1]⟩ 1 none, Cond.classLink RX4 9 RX0, Cond.instantiable RX0 7, Cond.methodLink RX4 11 yX0_init, Cond.instanceMethod yX0_init, Cond.code yX0_init cX0_init 1 none]
theorem we_2 : (tables_1_1.drop 0).take 24 = wp_2 := rfl
theorem wi_2 {w : Cond} (h : w ∈ wp_2) : w ∈ lw_tbl := wt_1 (List.mem_of_mem_drop (List.mem_of_mem_take (we_2 ▸ h)))
def wp_3 : List Cond := [Cond.methodLink RX0 3 objectInit, Cond.constantLong RX0 25 (-1), Cond.methodLink RX0 27 yJ7_fill_d0a16, Cond.static yJ7_fill_d0a16, Cond.code yJ7_fill_d0a16 cJ7_fill_d0a16 5 none, Cond.methodLink RX0 33 yJ7_fill_53178, Cond.static yJ7_fill_53178, Cond.code yJ7_fill_53178 cJ7_fill_53178 4 none, Cond.fieldLink RX0 36 "ComeIfShe$Party" "size" "I", (Jvm.Cond.fieldLinkNest "ComeIfShe" (56 : Nat) "ComeIfShe$Party" "size" "I" "ComeIfShe"), (Jvm.Cond.fieldLinkNest "ComeIfShe$Telephone" (41 : Nat) "ComeIfShe$Party" "size" "I" "ComeIfShe"), (Jvm.Cond.fieldLinkNest "ComeIfShe$Telephone" (27 : Nat) "ComeIfShe$Party" "list" "I" "ComeIfShe"), (Jvm.Cond.fieldLinkNest "ComeIfShe" (74 : Nat) "ComeIfShe$Party" "list" "I" "ComeIfShe"), Cond.fieldLink RX0 47 "ComeIfShe$Party" "list" "I", Cond.fieldLink RX0 44 "ComeIfShe$Party" "told" "I", (Jvm.Cond.fieldLinkNest "ComeIfShe" (236 : Nat) "ComeIfShe$Party" "told" "I" "ComeIfShe"), Cond.fieldLink RX0 9 "ComeIfShe$Party" "kinds" "[I", (Jvm.Cond.fieldLinkNest "ComeIfShe" (68 : Nat) "ComeIfShe$Party" "kinds" "[I" "ComeIfShe"), Cond.fieldLink RX0 15 "ComeIfShe$Party" "costs" "[I", (Jvm.Cond.fieldLinkNest "ComeIfShe" (71 : Nat) "ComeIfShe$Party" "costs" "[I" "ComeIfShe"), Cond.fieldLink RX0 18 "ComeIfShe$Party" "terms" "[J", Cond.fieldLink RX0 22 "ComeIfShe$Party" "known" "[I", (Jvm.Cond.lays "ComeIfShe$Party" "ComeIfShe$Party" "size" "I"), (Jvm.Cond.soleField "ComeIfShe$Party" "size")]
theorem we_3 : (tables_1_1.drop 24).take 24 = wp_3 := rfl
theorem wi_3 {w : Cond} (h : w ∈ wp_3) : w ∈ lw_tbl := wt_1 (List.mem_of_mem_drop (List.mem_of_mem_take (we_3 ▸ h)))
def wp_4 : List Cond := [(Jvm.Cond.lays "ComeIfShe$Party" "ComeIfShe$Party" "list" "I"), (Jvm.Cond.soleField "ComeIfShe$Party" "list"), (Jvm.Cond.lays "ComeIfShe$Party" "ComeIfShe$Party" "told" "I"), (Jvm.Cond.soleField "ComeIfShe$Party" "told"), (Jvm.Cond.laysFinal "ComeIfShe$Party" "ComeIfShe$Party" "kinds" "[I"), (Jvm.Cond.soleField "ComeIfShe$Party" "kinds"), (Jvm.Cond.laysFinal "ComeIfShe$Party" "ComeIfShe$Party" "costs" "[I"), (Jvm.Cond.soleField "ComeIfShe$Party" "costs"), (Jvm.Cond.laysFinal "ComeIfShe$Party" "ComeIfShe$Party" "terms" "[J"), (Jvm.Cond.soleField "ComeIfShe$Party" "terms"), (Jvm.Cond.laysFinal "ComeIfShe$Party" "ComeIfShe$Party" "known" "[I"), (Jvm.Cond.soleField "ComeIfShe$Party" "known"), (Jvm.Cond.superclass "ComeIfShe$Party" "java/lang/Object"), Cond.arrayClass .int, Cond.arrayClass .long, Cond.classLink RX4 19 RX2, Cond.instantiable RX2 6, Cond.methodLink RX4 21 yX2_init, Cond.instanceMethod yX2_init, Cond.code yX2_init cX2_init 1 none, Cond.methodLink RX2 3 objectInit, Cond.fieldLink RX2 9 "ComeIfShe$Tape" "bytes" "[I", Cond.fieldLink RX2 19 "ComeIfShe$Tape" "length" "I", (Jvm.Cond.fieldLinkNest "ComeIfShe" (109 : Nat) "ComeIfShe$Tape" "length" "I" "ComeIfShe")]
theorem we_4 : (tables_1_1.drop 48).take 24 = wp_4 := rfl
theorem wi_4 {w : Cond} (h : w ∈ wp_4) : w ∈ lw_tbl := wt_1 (List.mem_of_mem_drop (List.mem_of_mem_take (we_4 ▸ h)))
def wp_5 : List Cond := [Cond.fieldLink RX2 28 "ComeIfShe$Tape" "place" "I", Cond.fieldLink RX2 15 "ComeIfShe$Tape" "fault" "I", (Jvm.Cond.fieldLinkNest "ComeIfShe" (102 : Nat) "ComeIfShe$Tape" "fault" "I" "ComeIfShe"), Cond.fieldLink RX2 22 "ComeIfShe$Tape" "teller" "I", Cond.fieldLink RX2 25 "ComeIfShe$Tape" "word" "I", (Jvm.Cond.laysFinal "ComeIfShe$Tape" "ComeIfShe$Tape" "bytes" "[I"), (Jvm.Cond.soleField "ComeIfShe$Tape" "bytes"), (Jvm.Cond.lays "ComeIfShe$Tape" "ComeIfShe$Tape" "length" "I"), (Jvm.Cond.soleField "ComeIfShe$Tape" "length"), (Jvm.Cond.lays "ComeIfShe$Tape" "ComeIfShe$Tape" "place" "I"), (Jvm.Cond.soleField "ComeIfShe$Tape" "place"), (Jvm.Cond.lays "ComeIfShe$Tape" "ComeIfShe$Tape" "fault" "I"), (Jvm.Cond.soleField "ComeIfShe$Tape" "fault"), (Jvm.Cond.lays "ComeIfShe$Tape" "ComeIfShe$Tape" "teller" "I"), (Jvm.Cond.soleField "ComeIfShe$Tape" "teller"), (Jvm.Cond.lays "ComeIfShe$Tape" "ComeIfShe$Tape" "word" "I"), (Jvm.Cond.soleField "ComeIfShe$Tape" "word"), (Jvm.Cond.superclass "ComeIfShe$Tape" "java/lang/Object"), Cond.classLink RX4 26 RX3, Cond.instantiable RX3 3, Cond.methodLink RX4 28 yX3_init, Cond.instanceMethod yX3_init, Cond.code yX3_init cX3_init 1 none, Cond.methodLink RX3 3 objectInit]
theorem we_5 : (tables_1_1.drop 72).take 24 = wp_5 := rfl
theorem wi_5 {w : Cond} (h : w ∈ wp_5) : w ∈ lw_tbl := wt_1 (List.mem_of_mem_drop (List.mem_of_mem_take (we_5 ▸ h)))
def wp_6 : List Cond := [Cond.fieldLink RX3 9 "ComeIfShe$Telephone" "queue" "[I", Cond.fieldLink RX3 15 "ComeIfShe$Telephone" "callsTo" "[I", Cond.fieldLink RX3 18 "ComeIfShe$Telephone" "firstCalled" "[I", (Jvm.Cond.laysFinal "ComeIfShe$Telephone" "ComeIfShe$Telephone" "queue" "[I"), (Jvm.Cond.soleField "ComeIfShe$Telephone" "queue"), (Jvm.Cond.laysFinal "ComeIfShe$Telephone" "ComeIfShe$Telephone" "callsTo" "[I"), (Jvm.Cond.soleField "ComeIfShe$Telephone" "callsTo"), (Jvm.Cond.laysFinal "ComeIfShe$Telephone" "ComeIfShe$Telephone" "firstCalled" "[I"), (Jvm.Cond.soleField "ComeIfShe$Telephone" "firstCalled"), (Jvm.Cond.superclass "ComeIfShe$Telephone" "java/lang/Object"), Cond.classLink RX4 33 RX1, (Jvm.Cond.arrayOver (Jvm.ClassFile.FieldType.object "ComeIfShe$Sheet")), Cond.instantiable RX1 3, Cond.methodLink RX4 39 yX1_init, Cond.instanceMethod yX1_init, Cond.code yX1_init cX1_init 1 none, Cond.methodLink RX1 3 objectInit, Cond.fieldLink RX1 15 "ComeIfShe$Sheet" "bits" "I", (Jvm.Cond.fieldLinkNest "ComeIfShe" (205 : Nat) "ComeIfShe$Sheet" "bits" "I" "ComeIfShe"), Cond.fieldLink RX1 19 "ComeIfShe$Sheet" "size" "I", (Jvm.Cond.fieldLinkNest "ComeIfShe" (195 : Nat) "ComeIfShe$Sheet" "size" "I" "ComeIfShe"), Cond.fieldLink RX1 9 "ComeIfShe$Sheet" "numbers" "[J", (Jvm.Cond.fieldLinkNest "ComeIfShe" (211 : Nat) "ComeIfShe$Sheet" "numbers" "[J" "ComeIfShe"), (Jvm.Cond.lays "ComeIfShe$Sheet" "ComeIfShe$Sheet" "bits" "I")]
theorem we_6 : (tables_1_1.drop 96).take 24 = wp_6 := rfl
theorem wi_6 {w : Cond} (h : w ∈ wp_6) : w ∈ lw_tbl := wt_1 (List.mem_of_mem_drop (List.mem_of_mem_take (we_6 ▸ h)))
def wp_7 : List Cond := [(Jvm.Cond.soleField "ComeIfShe$Sheet" "bits"), (Jvm.Cond.lays "ComeIfShe$Sheet" "ComeIfShe$Sheet" "size" "I"), (Jvm.Cond.soleField "ComeIfShe$Sheet" "size"), (Jvm.Cond.laysFinal "ComeIfShe$Sheet" "ComeIfShe$Sheet" "numbers" "[J"), (Jvm.Cond.soleField "ComeIfShe$Sheet" "numbers"), (Jvm.Cond.superclass "ComeIfShe$Sheet" "java/lang/Object"), Cond.fieldLink RX4 12 "ComeIfShe" "party" "LComeIfShe$Party;", Cond.fieldLink RX4 16 "ComeIfShe" "kept" "LComeIfShe$Party;", Cond.fieldLink RX4 232 "ComeIfShe" "isKept" "Z", Cond.fieldLink RX4 22 "ComeIfShe" "tape" "LComeIfShe$Tape;", Cond.fieldLink RX4 29 "ComeIfShe" "telephone" "LComeIfShe$Telephone;", Cond.fieldLink RX4 35 "ComeIfShe" "sheets" "[LComeIfShe$Sheet;", Cond.fieldLink RX4 40 "ComeIfShe" "findings" "[I", (Jvm.Cond.laysFinal "ComeIfShe" "ComeIfShe" "party" "LComeIfShe$Party;"), (Jvm.Cond.soleField "ComeIfShe" "party"), (Jvm.Cond.laysFinal "ComeIfShe" "ComeIfShe" "kept" "LComeIfShe$Party;"), (Jvm.Cond.soleField "ComeIfShe" "kept"), (Jvm.Cond.lays "ComeIfShe" "ComeIfShe" "isKept" "Z"), (Jvm.Cond.soleField "ComeIfShe" "isKept"), (Jvm.Cond.laysFinal "ComeIfShe" "ComeIfShe" "tape" "LComeIfShe$Tape;"), (Jvm.Cond.soleField "ComeIfShe" "tape"), (Jvm.Cond.laysFinal "ComeIfShe" "ComeIfShe" "telephone" "LComeIfShe$Telephone;"), (Jvm.Cond.soleField "ComeIfShe" "telephone"), (Jvm.Cond.laysFinal "ComeIfShe" "ComeIfShe" "sheets" "[LComeIfShe$Sheet;")]
theorem we_7 : (tables_1_1.drop 120).take 24 = wp_7 := rfl
theorem wi_7 {w : Cond} (h : w ∈ wp_7) : w ∈ lw_tbl := wt_1 (List.mem_of_mem_drop (List.mem_of_mem_take (we_7 ▸ h)))
def wp_8 : List Cond := [(Jvm.Cond.soleField "ComeIfShe" "sheets"), (Jvm.Cond.laysFinal "ComeIfShe" "ComeIfShe" "findings" "[I"), (Jvm.Cond.soleField "ComeIfShe" "findings"), (Jvm.Cond.superclass "ComeIfShe" "java/lang/Object"), Cond.methodLink RL 13 yX4_guest, Cond.instanceMethod yX4_guest, Cond.selects RX4 yX4_guest yX4_guest, Cond.code yX4_guest cX4_guest 3 (some .int), Cond.methodLink RX4 44 yX4_isKind, Cond.static yX4_isKind, Cond.code yX4_isKind cX4_isKind 1 (some .boolean), Cond.methodLink RX4 48 yX4_isCost, Cond.static yX4_isCost, Cond.code yX4_isCost cX4_isCost 1 (some .boolean), Cond.constant RX4 51 (-1000000001), Cond.methodLink RX4 52 yX4_found, (Jvm.Cond.privateMethod ({ cls := "ComeIfShe", name := "found", desc := "(I)I" } : Jvm.MethodName)), Cond.instanceMethod yX4_found, Cond.code yX4_found cX4_found 3 (some .int), Cond.methodLink RX4 60 yX0_welcome, Cond.instanceMethod yX0_welcome, Cond.selects RX0 yX0_welcome yX0_welcome, Cond.code yX0_welcome cX0_welcome 4 (some .int), Cond.constant RX4 64 (-1000000002)]
theorem we_8 : (tables_1_1.drop 144).take 24 = wp_8 := rfl
theorem wi_8 {w : Cond} (h : w ∈ wp_8) : w ∈ lw_tbl := wt_1 (List.mem_of_mem_drop (List.mem_of_mem_take (we_8 ▸ h)))
def wp_9 : List Cond := [Cond.methodLink RL 18 yX4_of, Cond.instanceMethod yX4_of, Cond.selects RX4 yX4_of yX4_of, Cond.code yX4_of cX4_of 3 (some .int), Cond.methodLink RX4 65 yX0_has, Cond.instanceMethod yX0_has, Cond.selects RX0 yX0_has yX0_has, Cond.code yX0_has cX0_has 2 (some .boolean), Cond.methodLink RX4 77 yX0_comers, Cond.instanceMethod yX0_comers, Cond.selects RX0 yX0_comers yX0_comers, Cond.code yX0_comers cX0_comers 5 (some .int), Cond.methodLink RX0 67 yX0_wouldComeAs, Cond.instanceMethod yX0_wouldComeAs, Cond.selects RX0 yX0_wouldComeAs yX0_wouldComeAs, Cond.code yX0_wouldComeAs cX0_wouldComeAs 6 (some .boolean), Cond.methodLink RX0 60 yX0_termHolds, Cond.instanceMethod yX0_termHolds, Cond.selects RX0 yX0_termHolds yX0_termHolds, Cond.code yX0_termHolds cX0_termHolds 4 (some .boolean), (Jvm.Cond.methodLinkNest "ComeIfShe$Party" (63 : Nat) ({ cls := "ComeIfShe", name := "othersOn", desc := "(II)I" } : Jvm.MethodName) "ComeIfShe"), Cond.static yX4_othersOn, Cond.code yX4_othersOn cX4_othersOn 2 (some .int), Cond.methodLink RX4 118 yJ6_bitCount_0f7a4]
theorem we_9 : (tables_1_1.drop 168).take 24 = wp_9 := rfl
theorem wi_9 {w : Cond} (h : w ∈ wp_9) : w ∈ lw_tbl := wt_1 (List.mem_of_mem_drop (List.mem_of_mem_take (we_9 ▸ h)))
def wp_10 : List Cond := [Cond.static yJ6_bitCount_0f7a4, Cond.code yJ6_bitCount_0f7a4 cJ6_bitCount_0f7a4 1 (some .int), Cond.constant RJ6 265 (1431655765), Cond.constant RJ6 266 (858993459), Cond.constant RJ6 267 (252645135), Cond.methodLink RX4 80 yX0_termHolds, Cond.methodLink RX4 84 yX4_oneIf, Cond.static yX4_oneIf, Cond.code yX4_oneIf cX4_oneIf 1 (some .int), Cond.methodLink RX4 88 yX4_othersOn, Cond.methodLink RL 22 yX4_cost, Cond.instanceMethod yX4_cost, Cond.selects RX4 yX4_cost yX4_cost, Cond.code yX4_cost cX4_cost 4 (some .int), Cond.methodLink RL 26 yX4_turn, Cond.instanceMethod yX4_turn, Cond.selects RX4 yX4_turn yX4_turn, Cond.code yX4_turn cX4_turn 3 (some .int), Cond.methodLink RX4 91 yX0_turnInto, Cond.instanceMethod yX0_turnInto, Cond.selects RX0 yX0_turnInto yX0_turnInto, Cond.code yX0_turnInto cX0_turnInto 4 (some .int), Cond.methodLink RL 30 yX4_as, Cond.instanceMethod yX4_as]
theorem we_10 : (tables_1_1.drop 192).take 24 = wp_10 := rfl
theorem wi_10 {w : Cond} (h : w ∈ wp_10) : w ∈ lw_tbl := wt_1 (List.mem_of_mem_drop (List.mem_of_mem_take (we_10 ▸ h)))
def wp_11 : List Cond := [Cond.selects RX4 yX4_as yX4_as, Cond.code yX4_as cX4_as 3 (some .int), Cond.methodLink RX4 94 yX4_isUnder, Cond.static yX4_isUnder, Cond.code yX4_isUnder cX4_isUnder 2 (some .boolean), Cond.constant RX4 97 (-1000000003), Cond.methodLink RL 34 yX4_term, Cond.instanceMethod yX4_term, Cond.selects RX4 yX4_term yX4_term, Cond.code yX4_term cX4_term 6 (some .int), Cond.methodLink RX4 98 yX2_holdsBy, Cond.instanceMethod yX2_holdsBy, Cond.selects RX2 yX2_holdsBy yX2_holdsBy, Cond.code yX2_holdsBy cX2_holdsBy 5 (some .long), Cond.methodLink RX2 31 yX2_anyOf, (Jvm.Cond.privateMethod ({ cls := "ComeIfShe$Tape", name := "anyOf", desc := "(I)J" } : Jvm.MethodName)), Cond.instanceMethod yX2_anyOf, Cond.code yX2_anyOf cX2_anyOf 5 (some .long), Cond.methodLink RX2 39 yX2_allOf, (Jvm.Cond.privateMethod ({ cls := "ComeIfShe$Tape", name := "allOf", desc := "(I)J" } : Jvm.MethodName)), Cond.instanceMethod yX2_allOf, Cond.code yX2_allOf cX2_allOf 5 (some .long), Cond.methodLink RX2 46 yX2_unit, (Jvm.Cond.privateMethod ({ cls := "ComeIfShe$Tape", name := "unit", desc := "(I)J" } : Jvm.MethodName))]
theorem we_11 : (tables_1_1.drop 216).take 24 = wp_11 := rfl
theorem wi_11 {w : Cond} (h : w ∈ wp_11) : w ∈ lw_tbl := wt_1 (List.mem_of_mem_drop (List.mem_of_mem_take (we_11 ▸ h)))
theorem wt_2 {w : Cond} : w ∈ tables_1_2 → w ∈ lw_tbl := fun h => wt_s (List.mem_append_right _ (List.mem_append_left _ h))
def wp_12 : List Cond := [Cond.instanceMethod yX2_unit, Cond.code yX2_unit cX2_unit 3 (some .long), Cond.methodLink RX2 49 yX2_sign, (Jvm.Cond.privateMethod ({ cls := "ComeIfShe$Tape", name := "sign", desc := "()I" } : Jvm.MethodName)), Cond.instanceMethod yX2_sign, Cond.code yX2_sign cX2_sign 1 (some .int), Cond.methodLink RX2 53 yX2_listsWith, (Jvm.Cond.privateMethod ({ cls := "ComeIfShe$Tape", name := "listsWith", desc := "(I)J" } : Jvm.MethodName)), Cond.instanceMethod yX2_listsWith, Cond.code yX2_listsWith cX2_listsWith 2 (some .long), (Jvm.Cond.fieldLinkNest "ComeIfShe$Tape" (69 : Nat) "ComeIfShe" "LISTS_WITH" "[J" "ComeIfShe"), (Jvm.Cond.laysStatic "ComeIfShe" "LISTS_WITH" "[J"), (Jvm.Cond.methodLinkNest "ComeIfShe$Tape" (73 : Nat) ({ cls := "ComeIfShe", name := "isOn", desc := "(II)Z" } : Jvm.MethodName) "ComeIfShe"), Cond.static yX4_isOn, Cond.code yX4_isOn cX4_isOn 2 (some .boolean), Cond.constantLong RX2 56 (-1), Cond.methodLink RX2 42 yX2_passes, (Jvm.Cond.privateMethod ({ cls := "ComeIfShe$Tape", name := "passes", desc := "(C)Z" } : Jvm.MethodName)), Cond.instanceMethod yX2_passes, Cond.code yX2_passes cX2_passes 3 (some .boolean), (Jvm.Cond.methodLinkNest "ComeIfShe$Tape" (83 : Nat) ({ cls := "ComeIfShe", name := "oneIf", desc := "(Z)I" } : Jvm.MethodName) "ComeIfShe"), Cond.methodLink RX2 58 yX2_closed, (Jvm.Cond.privateMethod ({ cls := "ComeIfShe$Tape", name := "closed", desc := "(J)J" } : Jvm.MethodName)), Cond.instanceMethod yX2_closed]
theorem we_12 : (tables_1_2.drop 0).take 24 = wp_12 := rfl
theorem wi_12 {w : Cond} (h : w ∈ wp_12) : w ∈ lw_tbl := wt_2 (List.mem_of_mem_drop (List.mem_of_mem_take (we_12 ▸ h)))
def wp_13 : List Cond := [Cond.code yX2_closed cX2_closed 3 (some .long), Cond.methodLink RX2 35 yX2_fail, (Jvm.Cond.privateMethod ({ cls := "ComeIfShe$Tape", name := "fail", desc := "()J" } : Jvm.MethodName)), Cond.instanceMethod yX2_fail, Cond.code yX2_fail cX2_fail 1 (some .long), Cond.methodLink RX2 62 yX2_compared, (Jvm.Cond.privateMethod ({ cls := "ComeIfShe$Tape", name := "compared", desc := "()J" } : Jvm.MethodName)), Cond.instanceMethod yX2_compared, Cond.code yX2_compared cX2_compared 3 (some .long), Cond.methodLink RX2 65 yX2_listsWhereOthers, (Jvm.Cond.privateMethod ({ cls := "ComeIfShe$Tape", name := "listsWhereOthers", desc := "(II)J" } : Jvm.MethodName)), Cond.instanceMethod yX2_listsWhereOthers, Cond.code yX2_listsWhereOthers cX2_listsWhereOthers 9 (some .long), Cond.methodLink RX2 77 yJ6_bitCount_0f7a4, Cond.methodLink RX4 105 yX0_tell, Cond.instanceMethod yX0_tell, Cond.selects RX0 yX0_tell yX0_tell, Cond.code yX0_tell cX0_tell 5 none, Cond.methodLink RL 39 yX4_feed, Cond.instanceMethod yX4_feed, Cond.selects RX4 yX4_feed yX4_feed, Cond.code yX4_feed cX4_feed 3 (some .int), Cond.methodLink RX4 112 yX2_append, Cond.instanceMethod yX2_append]
theorem we_13 : (tables_1_2.drop 24).take 24 = wp_13 := rfl
theorem wi_13 {w : Cond} (h : w ∈ wp_13) : w ∈ lw_tbl := wt_2 (List.mem_of_mem_drop (List.mem_of_mem_take (we_13 ▸ h)))
def wp_14 : List Cond := [Cond.selects RX2 yX2_append yX2_append, Cond.code yX2_append cX2_append 4 (some .int), Cond.methodLink RL 43 yX4_wipe, Cond.instanceMethod yX4_wipe, Cond.selects RX4 yX4_wipe yX4_wipe, Cond.code yX4_wipe cX4_wipe 2 (some .int), Cond.methodLink RL 48 yX4_list, Cond.instanceMethod yX4_list, Cond.selects RX4 yX4_list yX4_list, Cond.code yX4_list cX4_list 3 (some .int), Cond.methodLink RX4 115 yX0_isSet, Cond.instanceMethod yX0_isSet, Cond.selects RX0 yX0_isSet yX0_isSet, Cond.code yX0_isSet cX0_isSet 2 (some .boolean), Cond.methodLink RX0 40 yX0_lists, Cond.instanceMethod yX0_lists, Cond.selects RX0 yX0_lists yX0_lists, Cond.code yX0_lists cX0_lists 1 (some .int), Cond.methodLink RL 52 yX4_now, Cond.instanceMethod yX4_now, Cond.selects RX4 yX4_now yX4_now, Cond.code yX4_now cX4_now 2 (some .int), Cond.methodLink RX4 123 yX0_isSettled, Cond.instanceMethod yX0_isSettled]
theorem we_14 : (tables_1_2.drop 48).take 24 = wp_14 := rfl
theorem wi_14 {w : Cond} (h : w ∈ wp_14) : w ∈ lw_tbl := wt_2 (List.mem_of_mem_drop (List.mem_of_mem_take (we_14 ▸ h)))
def wp_15 : List Cond := [Cond.selects RX0 yX0_isSettled yX0_isSettled, Cond.code yX0_isSettled cX0_isSettled 2 (some .boolean), Cond.methodLink RX0 71 yX0_comers, Cond.methodLink RX4 126 yX0_costsOf, Cond.instanceMethod yX0_costsOf, Cond.selects RX0 yX0_costsOf yX0_costsOf, Cond.code yX0_costsOf cX0_costsOf 4 (some .int), (Jvm.Cond.methodLinkNest "ComeIfShe$Party" (56 : Nat) ({ cls := "ComeIfShe", name := "isOn", desc := "(II)Z" } : Jvm.MethodName) "ComeIfShe"), Cond.methodLink RL 56 yX4_call, Cond.instanceMethod yX4_call, Cond.selects RX4 yX4_call yX4_call, Cond.code yX4_call cX4_call 2 (some .int), Cond.methodLink RX4 129 yX0_ringUp, Cond.instanceMethod yX0_ringUp, Cond.selects RX0 yX0_ringUp yX0_ringUp, Cond.code yX0_ringUp cX0_ringUp 3 (some .int), Cond.methodLink RX0 83 yX0_called, Cond.instanceMethod yX0_called, Cond.selects RX0 yX0_called yX0_called, Cond.code yX0_called cX0_called 3 (some .int), (Jvm.Cond.methodLinkNest "ComeIfShe$Party" (79 : Nat) ({ cls := "ComeIfShe", name := "oneIf", desc := "(Z)I" } : Jvm.MethodName) "ComeIfShe"), Cond.methodLink RL 60 yX4_calls, Cond.instanceMethod yX4_calls, Cond.selects RX4 yX4_calls yX4_calls]
theorem we_15 : (tables_1_2.drop 72).take 24 = wp_15 := rfl
theorem wi_15 {w : Cond} (h : w ∈ wp_15) : w ∈ lw_tbl := wt_2 (List.mem_of_mem_drop (List.mem_of_mem_take (we_15 ▸ h)))
def wp_16 : List Cond := [Cond.code yX4_calls cX4_calls 5 (some .int), Cond.methodLink RL 64 yX4_rounds, Cond.instanceMethod yX4_rounds, Cond.selects RX4 yX4_rounds yX4_rounds, Cond.code yX4_rounds cX4_rounds 2 (some .int), Cond.methodLink RX4 132 yX0_behind, Cond.instanceMethod yX0_behind, Cond.selects RX0 yX0_behind yX0_behind, Cond.code yX0_behind cX0_behind 5 (some .int), Cond.methodLink RX0 86 yX0_isSettled, Cond.methodLink RL 68 yX4_on, Cond.instanceMethod yX4_on, Cond.selects RX4 yX4_on yX4_on, Cond.code yX4_on cX4_on 2 (some .int), Cond.methodLink RL 72 yX4_when, Cond.instanceMethod yX4_when, Cond.selects RX4 yX4_when yX4_when, Cond.code yX4_when cX4_when 3 (some .int), Cond.constant RX4 135 (-1000000004), Cond.methodLink RL 76 yX4_ring, Cond.instanceMethod yX4_ring, Cond.selects RX4 yX4_ring yX4_ring, Cond.code yX4_ring cX4_ring 3 (some .int), Cond.methodLink RX4 136 yX0_ringLength]
theorem we_16 : (tables_1_2.drop 96).take 24 = wp_16 := rfl
theorem wi_16 {w : Cond} (h : w ∈ wp_16) : w ∈ lw_tbl := wt_2 (List.mem_of_mem_drop (List.mem_of_mem_take (we_16 ▸ h)))
def wp_17 : List Cond := [Cond.instanceMethod yX0_ringLength, Cond.selects RX0 yX0_ringLength yX0_ringLength, Cond.code yX0_ringLength cX0_ringLength 5 (some .int), Cond.methodLink RX0 90 yX0_behind, Cond.methodLink RX4 140 yX0_roundsToRing, Cond.instanceMethod yX0_roundsToRing, Cond.selects RX0 yX0_roundsToRing yX0_roundsToRing, Cond.code yX0_roundsToRing cX0_roundsToRing 6 (some .int), Cond.methodLink RL 80 yX4_fewest, Cond.instanceMethod yX4_fewest, Cond.selects RX4 yX4_fewest yX4_fewest, Cond.code yX4_fewest cX4_fewest 2 (some .int), Cond.methodLink RX4 143 yX3_nearestSettled, Cond.instanceMethod yX3_nearestSettled, Cond.selects RX3 yX3_nearestSettled yX3_nearestSettled, Cond.code yX3_nearestSettled cX3_nearestSettled 5 (some .int), Cond.methodLink RX3 21 yJ7_fill_53178, Cond.methodLink RX3 33 yX0_isSettled, Cond.methodLink RX3 37 yX3_callAll, (Jvm.Cond.privateMethod ({ cls := "ComeIfShe$Telephone", name := "callAll", desc := "(LComeIfShe$Party;II)I" } : Jvm.MethodName)), Cond.instanceMethod yX3_callAll, Cond.code yX3_callAll cX3_callAll 7 (some .int), Cond.methodLink RX3 44 yX0_called, Cond.methodLink RX4 147 yX3_callsTo]
theorem we_17 : (tables_1_2.drop 120).take 24 = wp_17 := rfl
theorem wi_17 {w : Cond} (h : w ∈ wp_17) : w ∈ lw_tbl := wt_2 (List.mem_of_mem_drop (List.mem_of_mem_take (we_17 ▸ h)))
def wp_18 : List Cond := [Cond.instanceMethod yX3_callsTo, Cond.selects RX3 yX3_callsTo yX3_callsTo, Cond.code yX3_callsTo cX3_callsTo 2 (some .int), Cond.methodLink RL 84 yX4_first, Cond.instanceMethod yX4_first, Cond.selects RX4 yX4_first yX4_first, Cond.code yX4_first cX4_first 3 (some .int), Cond.methodLink RX4 150 yX3_firstCalledTo, Cond.instanceMethod yX3_firstCalledTo, Cond.selects RX3 yX3_firstCalledTo yX3_firstCalledTo, Cond.code yX3_firstCalledTo cX3_firstCalledTo 2 (some .int), Cond.methodLink RL 88 yX4_settled, Cond.instanceMethod yX4_settled, Cond.selects RX4 yX4_settled yX4_settled, Cond.code yX4_settled cX4_settled 3 (some .int), Cond.methodLink RX4 153 yX0_lists, Cond.methodLink RL 92 yX4_ith, Cond.instanceMethod yX4_ith, Cond.selects RX4 yX4_ith yX4_ith, Cond.code yX4_ith cX4_ith 4 (some .int), Cond.methodLink RL 96 yX4_sure, Cond.instanceMethod yX4_sure, Cond.selects RX4 yX4_sure yX4_sure, Cond.code yX4_sure cX4_sure 7 (some .int)]
theorem we_18 : (tables_1_2.drop 144).take 24 = wp_18 := rfl
theorem wi_18 {w : Cond} (h : w ∈ wp_18) : w ∈ lw_tbl := wt_2 (List.mem_of_mem_drop (List.mem_of_mem_take (we_18 ▸ h)))
def wp_19 : List Cond := [Cond.methodLink RX4 156 yX0_everyone, Cond.instanceMethod yX0_everyone, Cond.selects RX0 yX0_everyone yX0_everyone, Cond.code yX0_everyone cX0_everyone 1 (some .int), Cond.methodLink RX4 159 yJ9_max_7cf53, Cond.static yJ9_max_7cf53, Cond.code yJ9_max_7cf53 cJ9_max_7cf53 2 (some .int), Cond.methodLink RX4 164 yJ9_min_7cf53, Cond.static yJ9_min_7cf53, Cond.code yJ9_min_7cf53 cJ9_min_7cf53 2 (some .int), Cond.methodLink RL 100 yX4_basin, Cond.instanceMethod yX4_basin, Cond.selects RX4 yX4_basin yX4_basin, Cond.code yX4_basin cX4_basin 3 (some .int), Cond.methodLink RL 104 yX4_odds, Cond.instanceMethod yX4_odds, Cond.selects RX4 yX4_odds yX4_odds, Cond.code yX4_odds cX4_odds 9 (some .long), Cond.constantLong RX4 167 (2), Cond.methodLink RL 109 yX4_last, Cond.instanceMethod yX4_last, Cond.selects RX4 yX4_last yX4_last, Cond.code yX4_last cX4_last 2 (some .int), Cond.methodLink RX4 169 yX0_lastOf]
theorem we_19 : (tables_1_2.drop 168).take 24 = wp_19 := rfl
theorem wi_19 {w : Cond} (h : w ∈ wp_19) : w ∈ lw_tbl := wt_2 (List.mem_of_mem_drop (List.mem_of_mem_take (we_19 ▸ h)))
def wp_20 : List Cond := [Cond.instanceMethod yX0_lastOf, Cond.selects RX0 yX0_lastOf yX0_lastOf, Cond.code yX0_lastOf cX0_lastOf 6 (some .int), Cond.methodLink RL 113 yX4_buys, Cond.instanceMethod yX4_buys, Cond.selects RX4 yX4_buys yX4_buys, Cond.code yX4_buys cX4_buys 3 (some .int), Cond.methodLink RX4 172 yX4_cheapestFor, (Jvm.Cond.privateMethod ({ cls := "ComeIfShe", name := "cheapestFor", desc := "(I)I" } : Jvm.MethodName)), Cond.instanceMethod yX4_cheapestFor, Cond.code yX4_cheapestFor cX4_cheapestFor 5 (some .int), Cond.methodLink RX4 239 yX4_isCheaper, (Jvm.Cond.privateMethod ({ cls := "ComeIfShe", name := "isCheaper", desc := "(II)Z" } : Jvm.MethodName)), Cond.instanceMethod yX4_isCheaper, Cond.code yX4_isCheaper cX4_isCheaper 5 (some .boolean), Cond.methodLink RL 117 yX4_price, Cond.instanceMethod yX4_price, Cond.selects RX4 yX4_price yX4_price, Cond.code yX4_price cX4_price 3 (some .int), Cond.methodLink RL 121 yX4_spoils, Cond.instanceMethod yX4_spoils, Cond.selects RX4 yX4_spoils yX4_spoils, Cond.code yX4_spoils cX4_spoils 5 (some .int), Cond.methodLink RL 125 yX4_invites]
theorem we_20 : (tables_1_2.drop 192).take 24 = wp_20 := rfl
theorem wi_20 {w : Cond} (h : w ∈ wp_20) : w ∈ lw_tbl := wt_2 (List.mem_of_mem_drop (List.mem_of_mem_take (we_20 ▸ h)))
def wp_21 : List Cond := [Cond.instanceMethod yX4_invites, Cond.selects RX4 yX4_invites yX4_invites, Cond.code yX4_invites cX4_invites 6 (some .int), Cond.methodLink RX4 175 yX4_isWellAsked, (Jvm.Cond.privateMethod ({ cls := "ComeIfShe", name := "isWellAsked", desc := "(III)Z" } : Jvm.MethodName)), Cond.instanceMethod yX4_isWellAsked, Cond.code yX4_isWellAsked cX4_isWellAsked 6 (some .boolean), Cond.methodLink RL 129 yX4_against, Cond.instanceMethod yX4_against, Cond.selects RX4 yX4_against yX4_against, Cond.code yX4_against cX4_against 9 (some .int), Cond.methodLink RX4 179 yX4_isOn, Cond.methodLink RL 133 yX4_minds, Cond.instanceMethod yX4_minds, Cond.selects RX4 yX4_minds yX4_minds, Cond.code yX4_minds cX4_minds 5 (some .int), Cond.methodLink RL 137 yX4_kind, Cond.instanceMethod yX4_kind, Cond.selects RX4 yX4_kind yX4_kind, Cond.code yX4_kind cX4_kind 6 (some .int), Cond.methodLink RX4 182 yX0_settledAs, Cond.instanceMethod yX0_settledAs, Cond.selects RX0 yX0_settledAs yX0_settledAs, Cond.code yX0_settledAs cX0_settledAs 5 (some .int)]
theorem we_21 : (tables_1_2.drop 216).take 24 = wp_21 := rfl
theorem wi_21 {w : Cond} (h : w ∈ wp_21) : w ∈ lw_tbl := wt_2 (List.mem_of_mem_drop (List.mem_of_mem_take (we_21 ▸ h)))
theorem wt_3 {w : Cond} : w ∈ tables_1_3 → w ∈ lw_tbl := fun h => wt_s (List.mem_append_right _ (List.mem_append_right _ (List.mem_append_left _ h)))
def wp_22 : List Cond := [Cond.methodLink RX0 75 yX0_comersAs, Cond.instanceMethod yX0_comersAs, Cond.selects RX0 yX0_comersAs yX0_comersAs, Cond.code yX0_comersAs cX0_comersAs 5 (some .int), Cond.methodLink RL 141 yX4_sheet, Cond.instanceMethod yX4_sheet, Cond.selects RX4 yX4_sheet yX4_sheet, Cond.code yX4_sheet cX4_sheet 4 (some .int), Cond.methodLink RX4 185 yX4_isSheet, Cond.static yX4_isSheet, Cond.code yX4_isSheet cX4_isSheet 1 (some .boolean), Cond.constant RX4 188 (-1000000007), Cond.methodLink RX4 189 yX1_lay, Cond.instanceMethod yX1_lay, Cond.selects RX1 yX1_lay yX1_lay, Cond.code yX1_lay cX1_lay 3 (some .int), Cond.methodLink RX1 22 yJ7_fill_d0a16, Cond.methodLink RL 148 yX4_write, Cond.instanceMethod yX4_write, Cond.selects RX4 yX4_write yX4_write, Cond.code yX4_write cX4_write 6 (some .long), Cond.methodLink RX4 192 yX4_sheetLack, (Jvm.Cond.privateMethod ({ cls := "ComeIfShe", name := "sheetLack", desc := "(I)I" } : Jvm.MethodName)), Cond.instanceMethod yX4_sheetLack]
theorem we_22 : (tables_1_3.drop 0).take 24 = wp_22 := rfl
theorem wi_22 {w : Cond} (h : w ∈ wp_22) : w ∈ lw_tbl := wt_3 (List.mem_of_mem_drop (List.mem_of_mem_take (we_22 ▸ h)))
def wp_23 : List Cond := [Cond.code yX4_sheetLack cX4_sheetLack 2 (some .int), Cond.methodLink RX4 200 yX1_isMissing, Cond.instanceMethod yX1_isMissing, Cond.selects RX1 yX1_isMissing yX1_isMissing, Cond.code yX1_isMissing cX1_isMissing 1 (some .boolean), Cond.constant RX4 204 (-1000000006), Cond.methodLink RX4 196 yX1_put, Cond.instanceMethod yX1_put, Cond.selects RX1 yX1_put yX1_put, Cond.code yX1_put cX1_put 6 (some .long), Cond.methodLink RL 153 yX4_copy, Cond.instanceMethod yX4_copy, Cond.selects RX4 yX4_copy yX4_copy, Cond.code yX4_copy cX4_copy 6 (some .int), Cond.methodLink RX4 208 yX1_hasRun, Cond.instanceMethod yX1_hasRun, Cond.selects RX1 yX1_hasRun yX1_hasRun, Cond.code yX1_hasRun cX1_hasRun 3 (some .boolean), Cond.methodLink RX4 215 arraycopyName, Cond.static arraycopyName, Cond.native arraycopyName, Cond.methodLink RL 158 yX4_lays, Cond.instanceMethod yX4_lays, Cond.selects RX4 yX4_lays yX4_lays]
theorem we_23 : (tables_1_3.drop 24).take 24 = wp_23 := rfl
theorem wi_23 {w : Cond} (h : w ∈ wp_23) : w ∈ lw_tbl := wt_3 (List.mem_of_mem_drop (List.mem_of_mem_take (we_23 ▸ h)))
def wp_24 : List Cond := [Cond.code yX4_lays cX4_lays 5 (some .int), Cond.methodLink RL 162 yX4_book, Cond.instanceMethod yX4_book, Cond.selects RX4 yX4_book yX4_book, Cond.code yX4_book cX4_book 5 (some .int), Cond.methodLink RL 166 yX4_read, Cond.instanceMethod yX4_read, Cond.selects RX4 yX4_read yX4_read, Cond.code yX4_read cX4_read 6 (some .int), Cond.methodLink RX4 221 yX1_holdsOnly, Cond.instanceMethod yX1_holdsOnly, Cond.selects RX1 yX1_holdsOnly yX1_holdsOnly, Cond.code yX1_holdsOnly cX1_holdsOnly 3 (some .boolean), Cond.methodLink RX1 32 yX1_bitsAt, (Jvm.Cond.privateMethod ({ cls := "ComeIfShe$Sheet", name := "bitsAt", desc := "(I)J" } : Jvm.MethodName)), Cond.instanceMethod yX1_bitsAt, Cond.code yX1_bitsAt cX1_bitsAt 2 (some .long), Cond.constantLong RX1 28 (255), Cond.constantLong RX1 30 (65535), Cond.constantLong RX1 36 (-1), Cond.methodLink RX4 224 yX4_explains, (Jvm.Cond.privateMethod ({ cls := "ComeIfShe", name := "explains", desc := "(LComeIfShe$Sheet;II)Z" } : Jvm.MethodName)), Cond.instanceMethod yX4_explains, Cond.code yX4_explains cX4_explains 5 (some .boolean)]
theorem we_24 : (tables_1_3.drop 48).take 24 = wp_24 := rfl
theorem wi_24 {w : Cond} (h : w ∈ wp_24) : w ∈ lw_tbl := wt_3 (List.mem_of_mem_drop (List.mem_of_mem_take (we_24 ▸ h)))
def wp_25 : List Cond := [Cond.methodLink RX4 242 yX1_listAt, Cond.instanceMethod yX1_listAt, Cond.selects RX1 yX1_listAt yX1_listAt, Cond.code yX1_listAt cX1_listAt 2 (some .int), Cond.methodLink RX4 245 yX0_comersAs, Cond.methodLink RL 170 yX4_image, Cond.instanceMethod yX4_image, Cond.selects RX4 yX4_image yX4_image, Cond.code yX4_image cX4_image 1 (some .int), Cond.methodLink RX4 228 yX0_take, Cond.instanceMethod yX0_take, Cond.selects RX0 yX0_take yX0_take, Cond.code yX0_take cX0_take 2 none, Cond.methodLink RX0 50 arraycopyName, Cond.methodLink RL 174 yX4_undo, Cond.instanceMethod yX4_undo, Cond.selects RX4 yX4_undo yX4_undo, Cond.code yX4_undo cX4_undo 1 (some .int), Cond.methodLink RL 178 yX4_tear, Cond.instanceMethod yX4_tear, Cond.selects RX4 yX4_tear yX4_tear, Cond.code yX4_tear cX4_tear 2 (some .int), Cond.methodLink RL 182 yX4_count, Cond.instanceMethod yX4_count]
theorem we_25 : (tables_1_3.drop 72).take 24 = wp_25 := rfl
theorem wi_25 {w : Cond} (h : w ∈ wp_25) : w ∈ lw_tbl := wt_3 (List.mem_of_mem_drop (List.mem_of_mem_take (we_25 ▸ h)))
def wp_26 : List Cond := [Cond.selects RX4 yX4_count yX4_count, Cond.code yX4_count cX4_count 2 (some .int), Cond.methodLink RL 186 yX4_status, Cond.instanceMethod yX4_status, Cond.selects RX4 yX4_status yX4_status, Cond.code yX4_status cX4_status 4 (some .int), Cond.classLink RL 10 RX5, Cond.instantiable RX5 18, Cond.methodLink RL 12 yX5_init, Cond.instanceMethod yX5_init, Cond.code yX5_init cX5_init 1 none, Cond.methodLink RX5 1 objectInit, Cond.fieldLink RX5 7 "ComeIfSheModel" "s" "[I", Cond.fieldLink RX5 13 "ComeIfSheModel" "keptS" "[I", Cond.fieldLink RX5 16 "ComeIfSheModel" "statuses" "[I", Cond.fieldLink RX5 210 "ComeIfSheModel" "isKept" "Z", Cond.fieldLink RX5 19 "ComeIfSheModel" "pile" "[Z", Cond.fieldLink RX5 23 "ComeIfSheModel" "tape" "[I", Cond.fieldLink RX5 26 "ComeIfSheModel" "steps" "[I", Cond.fieldLink RX5 99 "ComeIfSheModel" "taped" "I", Cond.fieldLink RX5 95 "ComeIfSheModel" "at" "I", Cond.fieldLink RX5 102 "ComeIfSheModel" "fault" "I", Cond.fieldLink RX5 105 "ComeIfSheModel" "laid" "I", Cond.fieldLink RX5 108 "ComeIfSheModel" "open" "I"]
theorem we_26 : (tables_1_3.drop 96).take 24 = wp_26 := rfl
theorem wi_26 {w : Cond} (h : w ∈ wp_26) : w ∈ lw_tbl := wt_3 (List.mem_of_mem_drop (List.mem_of_mem_take (we_26 ▸ h)))
def wp_27 : List Cond := [Cond.fieldLink RX5 29 "ComeIfSheModel" "wish" "[I", Cond.fieldLink RX5 32 "ComeIfSheModel" "mark" "[I", Cond.fieldLink RX5 35 "ComeIfSheModel" "bitsOf" "[I", Cond.fieldLink RX5 38 "ComeIfSheModel" "sizeOf" "[I", Cond.fieldLink RX5 41 "ComeIfSheModel" "number" "[J", Cond.fieldLink RX5 45 "ComeIfSheModel" "moved" "[J", (Jvm.Cond.laysFinal "ComeIfSheModel" "ComeIfSheModel" "s" "[I"), (Jvm.Cond.soleField "ComeIfSheModel" "s"), (Jvm.Cond.laysFinal "ComeIfSheModel" "ComeIfSheModel" "keptS" "[I"), (Jvm.Cond.soleField "ComeIfSheModel" "keptS"), (Jvm.Cond.laysFinal "ComeIfSheModel" "ComeIfSheModel" "statuses" "[I"), (Jvm.Cond.soleField "ComeIfSheModel" "statuses"), (Jvm.Cond.lays "ComeIfSheModel" "ComeIfSheModel" "isKept" "Z"), (Jvm.Cond.soleField "ComeIfSheModel" "isKept"), (Jvm.Cond.laysFinal "ComeIfSheModel" "ComeIfSheModel" "pile" "[Z"), (Jvm.Cond.soleField "ComeIfSheModel" "pile"), (Jvm.Cond.laysFinal "ComeIfSheModel" "ComeIfSheModel" "tape" "[I"), (Jvm.Cond.soleField "ComeIfSheModel" "tape"), (Jvm.Cond.laysFinal "ComeIfSheModel" "ComeIfSheModel" "steps" "[I"), (Jvm.Cond.soleField "ComeIfSheModel" "steps"), (Jvm.Cond.lays "ComeIfSheModel" "ComeIfSheModel" "taped" "I"), (Jvm.Cond.soleField "ComeIfSheModel" "taped"), (Jvm.Cond.lays "ComeIfSheModel" "ComeIfSheModel" "at" "I"), (Jvm.Cond.soleField "ComeIfSheModel" "at")]
theorem we_27 : (tables_1_3.drop 120).take 24 = wp_27 := rfl
theorem wi_27 {w : Cond} (h : w ∈ wp_27) : w ∈ lw_tbl := wt_3 (List.mem_of_mem_drop (List.mem_of_mem_take (we_27 ▸ h)))
def wp_28 : List Cond := [(Jvm.Cond.lays "ComeIfSheModel" "ComeIfSheModel" "fault" "I"), (Jvm.Cond.soleField "ComeIfSheModel" "fault"), (Jvm.Cond.lays "ComeIfSheModel" "ComeIfSheModel" "laid" "I"), (Jvm.Cond.soleField "ComeIfSheModel" "laid"), (Jvm.Cond.lays "ComeIfSheModel" "ComeIfSheModel" "open" "I"), (Jvm.Cond.soleField "ComeIfSheModel" "open"), (Jvm.Cond.laysFinal "ComeIfSheModel" "ComeIfSheModel" "wish" "[I"), (Jvm.Cond.soleField "ComeIfSheModel" "wish"), (Jvm.Cond.laysFinal "ComeIfSheModel" "ComeIfSheModel" "mark" "[I"), (Jvm.Cond.soleField "ComeIfSheModel" "mark"), (Jvm.Cond.laysFinal "ComeIfSheModel" "ComeIfSheModel" "bitsOf" "[I"), (Jvm.Cond.soleField "ComeIfSheModel" "bitsOf"), (Jvm.Cond.laysFinal "ComeIfSheModel" "ComeIfSheModel" "sizeOf" "[I"), (Jvm.Cond.soleField "ComeIfSheModel" "sizeOf"), (Jvm.Cond.laysFinal "ComeIfSheModel" "ComeIfSheModel" "number" "[J"), (Jvm.Cond.soleField "ComeIfSheModel" "number"), (Jvm.Cond.laysFinal "ComeIfSheModel" "ComeIfSheModel" "moved" "[J"), (Jvm.Cond.soleField "ComeIfSheModel" "moved"), (Jvm.Cond.superclass "ComeIfSheModel" "java/lang/Object"), Cond.arrayClass .boolean, Cond.methodLink RL 17 yX5_guest, Cond.instanceMethod yX5_guest, Cond.selects RX5 yX5_guest yX5_guest, Cond.code yX5_guest cX5_guest 4 (some .int)]
theorem we_28 : (tables_1_3.drop 144).take 24 = wp_28 := rfl
theorem wi_28 {w : Cond} (h : w ∈ wp_28) : w ∈ lw_tbl := wt_3 (List.mem_of_mem_drop (List.mem_of_mem_take (we_28 ▸ h)))
def wp_29 : List Cond := [Cond.constantLong RX5 62 (5), Cond.methodLink RX5 54 yX5_in, Cond.static yX5_in, Cond.code yX5_in cX5_in 6 (some .boolean), Cond.constantLong RX5 64 (99), Cond.constant RX5 48 (-1000000001), Cond.methodLink RX5 50 yX5_finds, (Jvm.Cond.privateMethod ({ cls := "ComeIfSheModel", name := "finds", desc := "(I)I" } : Jvm.MethodName)), Cond.instanceMethod yX5_finds, Cond.code yX5_finds cX5_finds 2 (some .int), Cond.constant RX5 66 (-1000000002), Cond.methodLink RL 21 yX5_of, Cond.instanceMethod yX5_of, Cond.selects RX5 yX5_of yX5_of, Cond.code yX5_of cX5_of 3 (some .int), Cond.methodLink RX5 87 yX5_isGuest, (Jvm.Cond.privateMethod ({ cls := "ComeIfSheModel", name := "isGuest", desc := "(I)Z" } : Jvm.MethodName)), Cond.instanceMethod yX5_isGuest, Cond.code yX5_isGuest cX5_isGuest 2 (some .boolean), Cond.methodLink RX5 84 yX5_comesBy, (Jvm.Cond.privateMethod ({ cls := "ComeIfSheModel", name := "comesBy", desc := "(II)Z" } : Jvm.MethodName)), Cond.instanceMethod yX5_comesBy, Cond.code yX5_comesBy cX5_comesBy 4 (some .boolean), Cond.methodLink RX5 78 yX5_others]
theorem we_29 : (tables_1_3.drop 168).take 24 = wp_29 := rfl
theorem wi_29 {w : Cond} (h : w ∈ wp_29) : w ∈ lw_tbl := wt_3 (List.mem_of_mem_drop (List.mem_of_mem_take (we_29 ▸ h)))
def wp_30 : List Cond := [Cond.static yX5_others, Cond.code yX5_others cX5_others 2 (some .int), Cond.methodLink RX5 67 yX5_ones, Cond.static yX5_ones, Cond.code yX5_ones cX5_ones 3 (some .int), Cond.methodLink RX5 70 yX5_its, (Jvm.Cond.privateMethod ({ cls := "ComeIfSheModel", name := "its", desc := "(II)I" } : Jvm.MethodName)), Cond.instanceMethod yX5_its, Cond.code yX5_its cX5_its 3 (some .int), Cond.methodLink RX5 81 yX5_holds, (Jvm.Cond.privateMethod ({ cls := "ComeIfSheModel", name := "holds", desc := "(II)Z" } : Jvm.MethodName)), Cond.instanceMethod yX5_holds, Cond.code yX5_holds cX5_holds 8 (some .boolean), Cond.methodLink RX5 74 yX5_has, Cond.static yX5_has, Cond.code yX5_has cX5_has 2 (some .boolean), Cond.methodLink RL 25 yX5_cost, Cond.instanceMethod yX5_cost, Cond.selects RX5 yX5_cost yX5_cost, Cond.code yX5_cost cX5_cost 3 (some .int), Cond.methodLink RX5 91 yX5_becomes, (Jvm.Cond.privateMethod ({ cls := "ComeIfSheModel", name := "becomes", desc := "(II)I" } : Jvm.MethodName)), Cond.instanceMethod yX5_becomes, Cond.code yX5_becomes cX5_becomes 4 (some .int)]
theorem we_30 : (tables_1_3.drop 192).take 24 = wp_30 := rfl
theorem wi_30 {w : Cond} (h : w ∈ wp_30) : w ∈ lw_tbl := wt_3 (List.mem_of_mem_drop (List.mem_of_mem_take (we_30 ▸ h)))
def wp_31 : List Cond := [Cond.methodLink RL 29 yX5_turn, Cond.instanceMethod yX5_turn, Cond.selects RX5 yX5_turn yX5_turn, Cond.code yX5_turn cX5_turn 3 (some .int), Cond.methodLink RL 33 yX5_as, Cond.instanceMethod yX5_as, Cond.selects RX5 yX5_as yX5_as, Cond.code yX5_as cX5_as 5 (some .int), Cond.constant RX5 94 (-1000000003), Cond.methodLink RL 38 yX5_term, Cond.instanceMethod yX5_term, Cond.selects RX5 yX5_term yX5_term, Cond.code yX5_term cX5_term 3 (some .int), Cond.methodLink RX5 139 yX5_any, (Jvm.Cond.privateMethod ({ cls := "ComeIfSheModel", name := "any", desc := "()V" } : Jvm.MethodName)), Cond.instanceMethod yX5_any, Cond.code yX5_any cX5_any 1 none, Cond.methodLink RX5 142 yX5_every, (Jvm.Cond.privateMethod ({ cls := "ComeIfSheModel", name := "every", desc := "()V" } : Jvm.MethodName)), Cond.instanceMethod yX5_every, Cond.code yX5_every cX5_every 1 none, Cond.methodLink RX5 136 yX5_unit, (Jvm.Cond.privateMethod ({ cls := "ComeIfSheModel", name := "unit", desc := "()V" } : Jvm.MethodName)), Cond.instanceMethod yX5_unit]
theorem we_31 : (tables_1_3.drop 216).take 24 = wp_31 := rfl
theorem wi_31 {w : Cond} (h : w ∈ wp_31) : w ∈ lw_tbl := wt_3 (List.mem_of_mem_drop (List.mem_of_mem_take (we_31 ▸ h)))
theorem wt_4 {w : Cond} : w ∈ tables_1_4 → w ∈ lw_tbl := fun h => wt_s (List.mem_append_right _ (List.mem_append_right _ (List.mem_append_right _ (List.mem_append_left _ h))))
def wp_32 : List Cond := [Cond.code yX5_unit cX5_unit 2 none, Cond.methodLink RX5 114 yX5_look, (Jvm.Cond.privateMethod ({ cls := "ComeIfSheModel", name := "look", desc := "()I" } : Jvm.MethodName)), Cond.instanceMethod yX5_look, Cond.code yX5_look cX5_look 1 (some .int), Cond.constantLong RX5 125 (97), Cond.constantLong RX5 127 (104), Cond.methodLink RX5 121 yX5_lay, (Jvm.Cond.privateMethod ({ cls := "ComeIfSheModel", name := "lay", desc := "(I)V" } : Jvm.MethodName)), Cond.instanceMethod yX5_lay, Cond.code yX5_lay cX5_lay 2 none, Cond.methodLink RX5 129 yX5_counted, (Jvm.Cond.privateMethod ({ cls := "ComeIfSheModel", name := "counted", desc := "()V" } : Jvm.MethodName)), Cond.instanceMethod yX5_counted, Cond.code yX5_counted cX5_counted 3 none, Cond.methodLink RX5 111 yX5_faulty, (Jvm.Cond.privateMethod ({ cls := "ComeIfSheModel", name := "faulty", desc := "()V" } : Jvm.MethodName)), Cond.instanceMethod yX5_faulty, Cond.code yX5_faulty cX5_faulty 1 none, Cond.constantLong RX5 117 (48), Cond.constantLong RX5 119 (57), Cond.methodLink RX5 132 yX5_opens, (Jvm.Cond.privateMethod ({ cls := "ComeIfSheModel", name := "opens", desc := "()Z" } : Jvm.MethodName)), Cond.instanceMethod yX5_opens]
theorem we_32 : (tables_1_4.drop 0).take 24 = wp_32 := rfl
theorem wi_32 {w : Cond} (h : w ∈ wp_32) : w ∈ lw_tbl := wt_4 (List.mem_of_mem_drop (List.mem_of_mem_take (we_32 ▸ h)))
def wp_33 : List Cond := [Cond.code yX5_opens cX5_opens 1 (some .boolean), Cond.methodLink RL 42 yX5_feed, Cond.instanceMethod yX5_feed, Cond.selects RX5 yX5_feed yX5_feed, Cond.code yX5_feed cX5_feed 4 (some .int), Cond.constantLong RX5 145 (4), Cond.methodLink RL 47 yX5_wipe, Cond.instanceMethod yX5_wipe, Cond.selects RX5 yX5_wipe yX5_wipe, Cond.code yX5_wipe cX5_wipe 2 (some .int), Cond.methodLink RL 51 yX5_list, Cond.instanceMethod yX5_list, Cond.selects RX5 yX5_list yX5_list, Cond.code yX5_list cX5_list 2 (some .int), Cond.methodLink RX5 147 yX5_isList, (Jvm.Cond.privateMethod ({ cls := "ComeIfSheModel", name := "isList", desc := "(J)Z" } : Jvm.MethodName)), Cond.instanceMethod yX5_isList, Cond.code yX5_isList cX5_isList 3 (some .boolean), Cond.methodLink RX5 58 yX5_lists, (Jvm.Cond.privateMethod ({ cls := "ComeIfSheModel", name := "lists", desc := "()I" } : Jvm.MethodName)), Cond.instanceMethod yX5_lists, Cond.code yX5_lists cX5_lists 1 (some .int), Cond.methodLink RL 55 yX5_now, Cond.instanceMethod yX5_now]
theorem we_33 : (tables_1_4.drop 24).take 24 = wp_33 := rfl
theorem wi_33 {w : Cond} (h : w ∈ wp_33) : w ∈ lw_tbl := wt_4 (List.mem_of_mem_drop (List.mem_of_mem_take (we_33 ▸ h)))
def wp_34 : List Cond := [Cond.selects RX5 yX5_now yX5_now, Cond.code yX5_now cX5_now 2 (some .int), Cond.methodLink RX5 151 yX5_would, (Jvm.Cond.privateMethod ({ cls := "ComeIfSheModel", name := "would", desc := "(I)I" } : Jvm.MethodName)), Cond.instanceMethod yX5_would, Cond.code yX5_would cX5_would 4 (some .int), Cond.methodLink RX5 154 yX5_costOf, (Jvm.Cond.privateMethod ({ cls := "ComeIfSheModel", name := "costOf", desc := "(I)I" } : Jvm.MethodName)), Cond.instanceMethod yX5_costOf, Cond.code yX5_costOf cX5_costOf 4 (some .int), Cond.methodLink RL 59 yX5_call, Cond.instanceMethod yX5_call, Cond.selects RX5 yX5_call yX5_call, Cond.code yX5_call cX5_call 2 (some .int), Cond.methodLink RX5 160 yX5_calling, (Jvm.Cond.privateMethod ({ cls := "ComeIfSheModel", name := "calling", desc := "(I)I" } : Jvm.MethodName)), Cond.instanceMethod yX5_calling, Cond.code yX5_calling cX5_calling 3 (some .int), Cond.methodLink RX5 157 yX5_called, (Jvm.Cond.privateMethod ({ cls := "ComeIfSheModel", name := "called", desc := "(II)I" } : Jvm.MethodName)), Cond.instanceMethod yX5_called, Cond.code yX5_called cX5_called 3 (some .int), Cond.methodLink RL 63 yX5_calls, Cond.instanceMethod yX5_calls]
theorem we_34 : (tables_1_4.drop 48).take 24 = wp_34 := rfl
theorem wi_34 {w : Cond} (h : w ∈ wp_34) : w ∈ lw_tbl := wt_4 (List.mem_of_mem_drop (List.mem_of_mem_take (we_34 ▸ h)))
def wp_35 : List Cond := [Cond.selects RX5 yX5_calls yX5_calls, Cond.code yX5_calls cX5_calls 5 (some .int), Cond.constantLong RX5 163 (20), Cond.methodLink RL 67 yX5_rounds, Cond.instanceMethod yX5_rounds, Cond.selects RX5 yX5_rounds yX5_rounds, Cond.code yX5_rounds cX5_rounds 2 (some .int), Cond.constantLong RX5 165 (64), Cond.methodLink RX5 167 yX5_behind, (Jvm.Cond.privateMethod ({ cls := "ComeIfSheModel", name := "behind", desc := "(II)I" } : Jvm.MethodName)), Cond.instanceMethod yX5_behind, Cond.code yX5_behind cX5_behind 5 (some .int), Cond.methodLink RL 71 yX5_on, Cond.instanceMethod yX5_on, Cond.selects RX5 yX5_on yX5_on, Cond.code yX5_on cX5_on 2 (some .int), Cond.methodLink RL 75 yX5_when, Cond.instanceMethod yX5_when, Cond.selects RX5 yX5_when yX5_when, Cond.code yX5_when cX5_when 3 (some .int), Cond.methodLink RX5 170 yX5_looksAll, (Jvm.Cond.privateMethod ({ cls := "ComeIfSheModel", name := "looksAll", desc := "()V" } : Jvm.MethodName)), Cond.instanceMethod yX5_looksAll, Cond.code yX5_looksAll cX5_looksAll 2 none]
theorem we_35 : (tables_1_4.drop 72).take 24 = wp_35 := rfl
theorem wi_35 {w : Cond} (h : w ∈ wp_35) : w ∈ lw_tbl := wt_4 (List.mem_of_mem_drop (List.mem_of_mem_take (we_35 ▸ h)))
def wp_36 : List Cond := [Cond.constant RX5 49 (-1000000004), Cond.methodLink RL 79 yX5_ring, Cond.instanceMethod yX5_ring, Cond.selects RX5 yX5_ring yX5_ring, Cond.code yX5_ring cX5_ring 4 (some .int), Cond.methodLink RL 83 yX5_fewest, Cond.instanceMethod yX5_fewest, Cond.selects RX5 yX5_fewest yX5_fewest, Cond.code yX5_fewest cX5_fewest 1 (some .int), Cond.methodLink RX5 173 yX5_looksFar, (Jvm.Cond.privateMethod ({ cls := "ComeIfSheModel", name := "looksFar", desc := "()V" } : Jvm.MethodName)), Cond.instanceMethod yX5_looksFar, Cond.code yX5_looksFar cX5_looksFar 5 none, Cond.methodLink RX5 176 yX5_orNone, (Jvm.Cond.privateMethod ({ cls := "ComeIfSheModel", name := "orNone", desc := "(I)I" } : Jvm.MethodName)), Cond.instanceMethod yX5_orNone, Cond.code yX5_orNone cX5_orNone 2 (some .int), Cond.methodLink RL 87 yX5_first, Cond.instanceMethod yX5_first, Cond.selects RX5 yX5_first yX5_first, Cond.code yX5_first cX5_first 4 (some .int), Cond.methodLink RL 91 yX5_settled, Cond.instanceMethod yX5_settled, Cond.selects RX5 yX5_settled yX5_settled]
theorem we_36 : (tables_1_4.drop 96).take 24 = wp_36 := rfl
theorem wi_36 {w : Cond} (h : w ∈ wp_36) : w ∈ lw_tbl := wt_4 (List.mem_of_mem_drop (List.mem_of_mem_take (we_36 ▸ h)))
def wp_37 : List Cond := [Cond.code yX5_settled cX5_settled 1 (some .int), Cond.methodLink RX5 179 yX5_manySettled, (Jvm.Cond.privateMethod ({ cls := "ComeIfSheModel", name := "manySettled", desc := "()I" } : Jvm.MethodName)), Cond.instanceMethod yX5_manySettled, Cond.code yX5_manySettled cX5_manySettled 3 (some .int), Cond.methodLink RL 95 yX5_ith, Cond.instanceMethod yX5_ith, Cond.selects RX5 yX5_ith yX5_ith, Cond.code yX5_ith cX5_ith 4 (some .int), Cond.methodLink RL 99 yX5_sure, Cond.instanceMethod yX5_sure, Cond.selects RX5 yX5_sure yX5_sure, Cond.code yX5_sure cX5_sure 7 (some .int), Cond.constantLong RX5 182 (3), Cond.methodLink RL 103 yX5_basin, Cond.instanceMethod yX5_basin, Cond.selects RX5 yX5_basin yX5_basin, Cond.code yX5_basin cX5_basin 3 (some .int), Cond.methodLink RX5 184 yX5_looksWhere, (Jvm.Cond.privateMethod ({ cls := "ComeIfSheModel", name := "looksWhere", desc := "()V" } : Jvm.MethodName)), Cond.instanceMethod yX5_looksWhere, Cond.code yX5_looksWhere cX5_looksWhere 4 none, Cond.methodLink RL 108 yX5_odds, Cond.instanceMethod yX5_odds]
theorem we_37 : (tables_1_4.drop 120).take 24 = wp_37 := rfl
theorem wi_37 {w : Cond} (h : w ∈ wp_37) : w ∈ lw_tbl := wt_4 (List.mem_of_mem_drop (List.mem_of_mem_take (we_37 ▸ h)))
def wp_38 : List Cond := [Cond.selects RX5 yX5_odds yX5_odds, Cond.code yX5_odds cX5_odds 5 (some .long), Cond.methodLink RL 112 yX5_last, Cond.instanceMethod yX5_last, Cond.selects RX5 yX5_last yX5_last, Cond.code yX5_last cX5_last 2 (some .int), Cond.methodLink RX5 187 yX5_lastOf, (Jvm.Cond.privateMethod ({ cls := "ComeIfSheModel", name := "lastOf", desc := "(II)I" } : Jvm.MethodName)), Cond.instanceMethod yX5_lastOf, Cond.code yX5_lastOf cX5_lastOf 5 (some .int), Cond.methodLink RL 116 yX5_buys, Cond.instanceMethod yX5_buys, Cond.selects RX5 yX5_buys yX5_buys, Cond.code yX5_buys cX5_buys 2 (some .int), Cond.constantLong RX5 190 (8), Cond.methodLink RX5 192 yX5_bestBuy, (Jvm.Cond.privateMethod ({ cls := "ComeIfSheModel", name := "bestBuy", desc := "(I)I" } : Jvm.MethodName)), Cond.instanceMethod yX5_bestBuy, Cond.code yX5_bestBuy cX5_bestBuy 5 (some .int), Cond.methodLink RL 120 yX5_price, Cond.instanceMethod yX5_price, Cond.selects RX5 yX5_price yX5_price, Cond.code yX5_price cX5_price 3 (some .int), Cond.methodLink RL 124 yX5_spoils]
theorem we_38 : (tables_1_4.drop 144).take 24 = wp_38 := rfl
theorem wi_38 {w : Cond} (h : w ∈ wp_38) : w ∈ lw_tbl := wt_4 (List.mem_of_mem_drop (List.mem_of_mem_take (we_38 ▸ h)))
def wp_39 : List Cond := [Cond.instanceMethod yX5_spoils, Cond.selects RX5 yX5_spoils yX5_spoils, Cond.code yX5_spoils cX5_spoils 5 (some .int), Cond.methodLink RL 128 yX5_invites, Cond.instanceMethod yX5_invites, Cond.selects RX5 yX5_invites yX5_invites, Cond.code yX5_invites cX5_invites 7 (some .int), Cond.methodLink RL 132 yX5_against, Cond.instanceMethod yX5_against, Cond.selects RX5 yX5_against yX5_against, Cond.code yX5_against cX5_against 8 (some .int), Cond.methodLink RL 136 yX5_minds, Cond.instanceMethod yX5_minds, Cond.selects RX5 yX5_minds yX5_minds, Cond.code yX5_minds cX5_minds 4 (some .int), Cond.methodLink RL 140 yX5_kind, Cond.instanceMethod yX5_kind, Cond.selects RX5 yX5_kind yX5_kind, Cond.code yX5_kind cX5_kind 7 (some .int), Cond.methodLink RL 145 yX5_sheet, Cond.instanceMethod yX5_sheet, Cond.selects RX5 yX5_sheet yX5_sheet, Cond.code yX5_sheet cX5_sheet 5 (some .int), Cond.methodLink RX5 195 yX5_isOne]
theorem we_39 : (tables_1_4.drop 168).take 24 = wp_39 := rfl
theorem wi_39 {w : Cond} (h : w ∈ wp_39) : w ∈ lw_tbl := wt_4 (List.mem_of_mem_drop (List.mem_of_mem_take (we_39 ▸ h)))
def wp_40 : List Cond := [Cond.static yX5_isOne, Cond.code yX5_isOne cX5_isOne 1 (some .boolean), Cond.constant RX5 198 (-1000000007), Cond.methodLink RL 152 yX5_write, Cond.instanceMethod yX5_write, Cond.selects RX5 yX5_write yX5_write, Cond.code yX5_write cX5_write 8 (some .long), Cond.methodLink RX5 200 yX5_wrong, (Jvm.Cond.privateMethod ({ cls := "ComeIfSheModel", name := "wrong", desc := "(I)I" } : Jvm.MethodName)), Cond.instanceMethod yX5_wrong, Cond.code yX5_wrong cX5_wrong 2 (some .int), Cond.constant RX5 199 (-1000000006), Cond.methodLink RX5 203 yX5_narrowed, Cond.static yX5_narrowed, Cond.code yX5_narrowed cX5_narrowed 3 (some .long), Cond.methodLink RL 157 yX5_copy, Cond.instanceMethod yX5_copy, Cond.selects RX5 yX5_copy yX5_copy, Cond.code yX5_copy cX5_copy 7 (some .int), Cond.methodLink RL 161 yX5_lays, Cond.instanceMethod yX5_lays, Cond.selects RX5 yX5_lays yX5_lays, Cond.code yX5_lays cX5_lays 5 (some .int), Cond.methodLink RL 165 yX5_book]
theorem we_40 : (tables_1_4.drop 192).take 24 = wp_40 := rfl
theorem wi_40 {w : Cond} (h : w ∈ wp_40) : w ∈ lw_tbl := wt_4 (List.mem_of_mem_drop (List.mem_of_mem_take (we_40 ▸ h)))
def wp_41 : List Cond := [Cond.instanceMethod yX5_book, Cond.selects RX5 yX5_book yX5_book, Cond.code yX5_book cX5_book 5 (some .int), Cond.methodLink RL 169 yX5_read, Cond.instanceMethod yX5_read, Cond.selects RX5 yX5_read yX5_read, Cond.code yX5_read cX5_read 7 (some .int), Cond.methodLink RX5 207 yX5_isRow, (Jvm.Cond.privateMethod ({ cls := "ComeIfSheModel", name := "isRow", desc := "(I)Z" } : Jvm.MethodName)), Cond.instanceMethod yX5_isRow, Cond.code yX5_isRow cX5_isRow 5 (some .boolean), Cond.methodLink RL 173 yX5_image, Cond.instanceMethod yX5_image, Cond.selects RX5 yX5_image yX5_image, Cond.code yX5_image cX5_image 2 (some .int), Cond.methodLink RL 177 yX5_undo, Cond.instanceMethod yX5_undo, Cond.selects RX5 yX5_undo yX5_undo, Cond.code yX5_undo cX5_undo 2 (some .int), Cond.methodLink RL 181 yX5_tear, Cond.instanceMethod yX5_tear, Cond.selects RX5 yX5_tear yX5_tear, Cond.code yX5_tear cX5_tear 2 (some .int), Cond.methodLink RL 185 yX5_count]
theorem we_41 : (tables_1_4.drop 216).take 24 = wp_41 := rfl
theorem wi_41 {w : Cond} (h : w ∈ wp_41) : w ∈ lw_tbl := wt_4 (List.mem_of_mem_drop (List.mem_of_mem_take (we_41 ▸ h)))
theorem wt_5 {w : Cond} : w ∈ tables_1_5 → w ∈ lw_tbl := fun h => wt_s (List.mem_append_right _ (List.mem_append_right _ (List.mem_append_right _ (List.mem_append_right _ (h)))))
def wp_42 : List Cond := [Cond.instanceMethod yX5_count, Cond.selects RX5 yX5_count yX5_count, Cond.code yX5_count cX5_count 4 (some .int), Cond.methodLink RL 189 yX5_status, Cond.instanceMethod yX5_status, Cond.selects RX5 yX5_status yX5_status, Cond.code yX5_status cX5_status 4 (some .int), Cond.constantLong RX5 214 (-1), Cond.constantLong RX5 216 (6), Cond.constantLong RL 146 (4294967295)]
theorem we_42 : (tables_1_5.drop 0).take 10 = wp_42 := rfl
theorem wi_42 {w : Cond} (h : w ∈ wp_42) : w ∈ lw_tbl := wt_5 (List.mem_of_mem_drop (List.mem_of_mem_take (we_42 ▸ h)))
theorem k_48 : Cond.initialized RL ∈ wA := wA_in (wi_2 (List.mem_of_getElem? (i := 0) rfl)) rfl
theorem k_49 : Cond.initialized RX4 ∈ wA := wA_in (wi_2 (List.mem_of_getElem? (i := 1) rfl)) rfl
theorem k_50 : Cond.initialized RX0 ∈ wA := wA_in (wi_2 (List.mem_of_getElem? (i := 2) rfl)) rfl
theorem k_51 : Cond.initialized RJ7 ∈ wA := wA_in (wi_2 (List.mem_of_getElem? (i := 3) rfl)) rfl
theorem k_52 : Cond.initialized RX2 ∈ wA := wA_in (wi_2 (List.mem_of_getElem? (i := 4) rfl)) rfl
theorem k_53 : Cond.initialized RX3 ∈ wA := wA_in (wi_2 (List.mem_of_getElem? (i := 5) rfl)) rfl
theorem k_54 : Cond.initialized RX1 ∈ wA := wA_in (wi_2 (List.mem_of_getElem? (i := 6) rfl)) rfl
theorem k_55 : Cond.initialized RX5 ∈ wA := wA_in (wi_2 (List.mem_of_getElem? (i := 7) rfl)) rfl
theorem k_56 : Cond.initialized RJ6 ∈ wA := wA_in (wi_2 (List.mem_of_getElem? (i := 8) rfl)) rfl
theorem k_57 : Cond.initialized RJ9 ∈ wA := wA_in (wi_2 (List.mem_of_getElem? (i := 9) rfl)) rfl
theorem k_58 : Cond.initialized RJ10 ∈ wA := wA_in (wi_2 (List.mem_of_getElem? (i := 10) rfl)) rfl
theorem k_59 : Cond.classLink RL 7 RX4 ∈ wA := wA_in (wi_2 (List.mem_of_getElem? (i := 11) rfl)) rfl
theorem k_60 : Cond.instantiable RX4 7 ∈ wA := wA_in (wi_2 (List.mem_of_getElem? (i := 12) rfl)) rfl
theorem k_61 : Cond.methodLink RL 9 yX4_init ∈ wA := wA_in (wi_2 (List.mem_of_getElem? (i := 13) rfl)) rfl
theorem k_62 : Cond.instanceMethod yX4_init ∈ wA := wA_in (wi_2 (List.mem_of_getElem? (i := 14) rfl)) rfl
theorem k_63 : Cond.code yX4_init cX4_init 2 none ∈ wA := wA_in (wi_2 (List.mem_of_getElem? (i := 15) rfl)) rfl
theorem k_64 : Cond.methodLink RX4 3 objectInit ∈ wA := wA_in (wi_2 (List.mem_of_getElem? (i := 16) rfl)) rfl
theorem k_65 : Cond.instanceMethod objectInit ∈ wA := wA_in (wi_2 (List.mem_of_getElem? (i := 17) rfl)) rfl
theorem k_66 : Cond.code objectInit ⟨#[0xb1]⟩ 1 none ∈ wA := wA_in (wi_2 (List.mem_of_getElem? (i := 18) rfl)) rfl
theorem k_67 : Cond.classLink RX4 9 RX0 ∈ wA := wA_in (wi_2 (List.mem_of_getElem? (i := 19) rfl)) rfl
theorem k_68 : Cond.instantiable RX0 7 ∈ wA := wA_in (wi_2 (List.mem_of_getElem? (i := 20) rfl)) rfl
theorem k_69 : Cond.methodLink RX4 11 yX0_init ∈ wA := wA_in (wi_2 (List.mem_of_getElem? (i := 21) rfl)) rfl
theorem k_70 : Cond.instanceMethod yX0_init ∈ wA := wA_in (wi_2 (List.mem_of_getElem? (i := 22) rfl)) rfl
theorem k_71 : Cond.code yX0_init cX0_init 1 none ∈ wA := wA_in (wi_2 (List.mem_of_getElem? (i := 23) rfl)) rfl
theorem k_72 : Cond.methodLink RX0 3 objectInit ∈ wA := wA_in (wi_3 (List.mem_of_getElem? (i := 0) rfl)) rfl
theorem k_73 : Cond.constantLong RX0 25 (-1) ∈ wA := wA_in (wi_3 (List.mem_of_getElem? (i := 1) rfl)) rfl
theorem k_74 : Cond.methodLink RX0 27 yJ7_fill_d0a16 ∈ wA := wA_in (wi_3 (List.mem_of_getElem? (i := 2) rfl)) rfl
theorem k_75 : Cond.static yJ7_fill_d0a16 ∈ wA := wA_in (wi_3 (List.mem_of_getElem? (i := 3) rfl)) rfl
theorem k_76 : Cond.code yJ7_fill_d0a16 cJ7_fill_d0a16 5 none ∈ wA := wA_in (wi_3 (List.mem_of_getElem? (i := 4) rfl)) rfl
theorem k_77 : Cond.methodLink RX0 33 yJ7_fill_53178 ∈ wA := wA_in (wi_3 (List.mem_of_getElem? (i := 5) rfl)) rfl
theorem k_78 : Cond.static yJ7_fill_53178 ∈ wA := wA_in (wi_3 (List.mem_of_getElem? (i := 6) rfl)) rfl
theorem k_79 : Cond.code yJ7_fill_53178 cJ7_fill_53178 4 none ∈ wA := wA_in (wi_3 (List.mem_of_getElem? (i := 7) rfl)) rfl
theorem k_80 : Cond.fieldLink RX0 36 "ComeIfShe$Party" "size" "I" ∈ wA := wA_in (wi_3 (List.mem_of_getElem? (i := 8) rfl)) rfl
theorem k_85 : Cond.fieldLink RX0 47 "ComeIfShe$Party" "list" "I" ∈ wA := wA_in (wi_3 (List.mem_of_getElem? (i := 13) rfl)) rfl
theorem k_86 : Cond.fieldLink RX0 44 "ComeIfShe$Party" "told" "I" ∈ wA := wA_in (wi_3 (List.mem_of_getElem? (i := 14) rfl)) rfl
theorem k_88 : Cond.fieldLink RX0 9 "ComeIfShe$Party" "kinds" "[I" ∈ wA := wA_in (wi_3 (List.mem_of_getElem? (i := 16) rfl)) rfl
theorem k_90 : Cond.fieldLink RX0 15 "ComeIfShe$Party" "costs" "[I" ∈ wA := wA_in (wi_3 (List.mem_of_getElem? (i := 18) rfl)) rfl
theorem k_92 : Cond.fieldLink RX0 18 "ComeIfShe$Party" "terms" "[J" ∈ wA := wA_in (wi_3 (List.mem_of_getElem? (i := 20) rfl)) rfl
theorem k_93 : Cond.fieldLink RX0 22 "ComeIfShe$Party" "known" "[I" ∈ wA := wA_in (wi_3 (List.mem_of_getElem? (i := 21) rfl)) rfl
theorem k_109 : Cond.arrayClass .int ∈ wA := wA_in (wi_4 (List.mem_of_getElem? (i := 13) rfl)) rfl
theorem k_110 : Cond.arrayClass .long ∈ wA := wA_in (wi_4 (List.mem_of_getElem? (i := 14) rfl)) rfl
theorem k_111 : Cond.classLink RX4 19 RX2 ∈ wA := wA_in (wi_4 (List.mem_of_getElem? (i := 15) rfl)) rfl
theorem k_112 : Cond.instantiable RX2 6 ∈ wA := wA_in (wi_4 (List.mem_of_getElem? (i := 16) rfl)) rfl
theorem k_113 : Cond.methodLink RX4 21 yX2_init ∈ wA := wA_in (wi_4 (List.mem_of_getElem? (i := 17) rfl)) rfl
theorem k_114 : Cond.instanceMethod yX2_init ∈ wA := wA_in (wi_4 (List.mem_of_getElem? (i := 18) rfl)) rfl
theorem k_115 : Cond.code yX2_init cX2_init 1 none ∈ wA := wA_in (wi_4 (List.mem_of_getElem? (i := 19) rfl)) rfl
theorem k_116 : Cond.methodLink RX2 3 objectInit ∈ wA := wA_in (wi_4 (List.mem_of_getElem? (i := 20) rfl)) rfl
theorem k_117 : Cond.fieldLink RX2 9 "ComeIfShe$Tape" "bytes" "[I" ∈ wA := wA_in (wi_4 (List.mem_of_getElem? (i := 21) rfl)) rfl
theorem k_118 : Cond.fieldLink RX2 19 "ComeIfShe$Tape" "length" "I" ∈ wA := wA_in (wi_4 (List.mem_of_getElem? (i := 22) rfl)) rfl
theorem k_120 : Cond.fieldLink RX2 28 "ComeIfShe$Tape" "place" "I" ∈ wA := wA_in (wi_5 (List.mem_of_getElem? (i := 0) rfl)) rfl
theorem k_121 : Cond.fieldLink RX2 15 "ComeIfShe$Tape" "fault" "I" ∈ wA := wA_in (wi_5 (List.mem_of_getElem? (i := 1) rfl)) rfl
theorem k_123 : Cond.fieldLink RX2 22 "ComeIfShe$Tape" "teller" "I" ∈ wA := wA_in (wi_5 (List.mem_of_getElem? (i := 3) rfl)) rfl
theorem k_124 : Cond.fieldLink RX2 25 "ComeIfShe$Tape" "word" "I" ∈ wA := wA_in (wi_5 (List.mem_of_getElem? (i := 4) rfl)) rfl
theorem k_138 : Cond.classLink RX4 26 RX3 ∈ wA := wA_in (wi_5 (List.mem_of_getElem? (i := 18) rfl)) rfl
theorem k_139 : Cond.instantiable RX3 3 ∈ wA := wA_in (wi_5 (List.mem_of_getElem? (i := 19) rfl)) rfl
theorem k_140 : Cond.methodLink RX4 28 yX3_init ∈ wA := wA_in (wi_5 (List.mem_of_getElem? (i := 20) rfl)) rfl
theorem k_141 : Cond.instanceMethod yX3_init ∈ wA := wA_in (wi_5 (List.mem_of_getElem? (i := 21) rfl)) rfl
theorem k_142 : Cond.code yX3_init cX3_init 1 none ∈ wA := wA_in (wi_5 (List.mem_of_getElem? (i := 22) rfl)) rfl
theorem k_143 : Cond.methodLink RX3 3 objectInit ∈ wA := wA_in (wi_5 (List.mem_of_getElem? (i := 23) rfl)) rfl
theorem k_144 : Cond.fieldLink RX3 9 "ComeIfShe$Telephone" "queue" "[I" ∈ wA := wA_in (wi_6 (List.mem_of_getElem? (i := 0) rfl)) rfl
theorem k_145 : Cond.fieldLink RX3 15 "ComeIfShe$Telephone" "callsTo" "[I" ∈ wA := wA_in (wi_6 (List.mem_of_getElem? (i := 1) rfl)) rfl
theorem k_146 : Cond.fieldLink RX3 18 "ComeIfShe$Telephone" "firstCalled" "[I" ∈ wA := wA_in (wi_6 (List.mem_of_getElem? (i := 2) rfl)) rfl
theorem k_154 : Cond.classLink RX4 33 RX1 ∈ wA := wA_in (wi_6 (List.mem_of_getElem? (i := 10) rfl)) rfl
theorem k_156 : Cond.instantiable RX1 3 ∈ wA := wA_in (wi_6 (List.mem_of_getElem? (i := 12) rfl)) rfl
theorem k_157 : Cond.methodLink RX4 39 yX1_init ∈ wA := wA_in (wi_6 (List.mem_of_getElem? (i := 13) rfl)) rfl
theorem k_158 : Cond.instanceMethod yX1_init ∈ wA := wA_in (wi_6 (List.mem_of_getElem? (i := 14) rfl)) rfl
theorem k_159 : Cond.code yX1_init cX1_init 1 none ∈ wA := wA_in (wi_6 (List.mem_of_getElem? (i := 15) rfl)) rfl
theorem k_160 : Cond.methodLink RX1 3 objectInit ∈ wA := wA_in (wi_6 (List.mem_of_getElem? (i := 16) rfl)) rfl
theorem k_161 : Cond.fieldLink RX1 15 "ComeIfShe$Sheet" "bits" "I" ∈ wA := wA_in (wi_6 (List.mem_of_getElem? (i := 17) rfl)) rfl
theorem k_163 : Cond.fieldLink RX1 19 "ComeIfShe$Sheet" "size" "I" ∈ wA := wA_in (wi_6 (List.mem_of_getElem? (i := 19) rfl)) rfl
theorem k_165 : Cond.fieldLink RX1 9 "ComeIfShe$Sheet" "numbers" "[J" ∈ wA := wA_in (wi_6 (List.mem_of_getElem? (i := 21) rfl)) rfl
theorem k_174 : Cond.fieldLink RX4 12 "ComeIfShe" "party" "LComeIfShe$Party;" ∈ wA := wA_in (wi_7 (List.mem_of_getElem? (i := 6) rfl)) rfl
theorem k_175 : Cond.fieldLink RX4 16 "ComeIfShe" "kept" "LComeIfShe$Party;" ∈ wA := wA_in (wi_7 (List.mem_of_getElem? (i := 7) rfl)) rfl
theorem k_176 : Cond.fieldLink RX4 232 "ComeIfShe" "isKept" "Z" ∈ wA := wA_in (wi_7 (List.mem_of_getElem? (i := 8) rfl)) rfl
theorem k_177 : Cond.fieldLink RX4 22 "ComeIfShe" "tape" "LComeIfShe$Tape;" ∈ wA := wA_in (wi_7 (List.mem_of_getElem? (i := 9) rfl)) rfl
theorem k_178 : Cond.fieldLink RX4 29 "ComeIfShe" "telephone" "LComeIfShe$Telephone;" ∈ wA := wA_in (wi_7 (List.mem_of_getElem? (i := 10) rfl)) rfl
theorem k_179 : Cond.fieldLink RX4 35 "ComeIfShe" "sheets" "[LComeIfShe$Sheet;" ∈ wA := wA_in (wi_7 (List.mem_of_getElem? (i := 11) rfl)) rfl
theorem k_180 : Cond.fieldLink RX4 40 "ComeIfShe" "findings" "[I" ∈ wA := wA_in (wi_7 (List.mem_of_getElem? (i := 12) rfl)) rfl
theorem k_196 : Cond.methodLink RL 13 yX4_guest ∈ wA := wA_in (wi_8 (List.mem_of_getElem? (i := 4) rfl)) rfl
theorem k_197 : Cond.instanceMethod yX4_guest ∈ wA := wA_in (wi_8 (List.mem_of_getElem? (i := 5) rfl)) rfl
theorem k_198 : Cond.selects RX4 yX4_guest yX4_guest ∈ wA := wA_in (wi_8 (List.mem_of_getElem? (i := 6) rfl)) rfl
theorem k_199 : Cond.code yX4_guest cX4_guest 3 (some .int) ∈ wA := wA_in (wi_8 (List.mem_of_getElem? (i := 7) rfl)) rfl
theorem k_200 : Cond.methodLink RX4 44 yX4_isKind ∈ wA := wA_in (wi_8 (List.mem_of_getElem? (i := 8) rfl)) rfl
theorem k_201 : Cond.static yX4_isKind ∈ wA := wA_in (wi_8 (List.mem_of_getElem? (i := 9) rfl)) rfl
theorem k_202 : Cond.code yX4_isKind cX4_isKind 1 (some .boolean) ∈ wA := wA_in (wi_8 (List.mem_of_getElem? (i := 10) rfl)) rfl
theorem k_203 : Cond.methodLink RX4 48 yX4_isCost ∈ wA := wA_in (wi_8 (List.mem_of_getElem? (i := 11) rfl)) rfl
theorem k_204 : Cond.static yX4_isCost ∈ wA := wA_in (wi_8 (List.mem_of_getElem? (i := 12) rfl)) rfl
theorem k_205 : Cond.code yX4_isCost cX4_isCost 1 (some .boolean) ∈ wA := wA_in (wi_8 (List.mem_of_getElem? (i := 13) rfl)) rfl
theorem k_206 : Cond.constant RX4 51 (-1000000001) ∈ wA := wA_in (wi_8 (List.mem_of_getElem? (i := 14) rfl)) rfl
theorem k_207 : Cond.methodLink RX4 52 yX4_found ∈ wA := wA_in (wi_8 (List.mem_of_getElem? (i := 15) rfl)) rfl
theorem k_209 : Cond.instanceMethod yX4_found ∈ wA := wA_in (wi_8 (List.mem_of_getElem? (i := 17) rfl)) rfl
theorem k_210 : Cond.code yX4_found cX4_found 3 (some .int) ∈ wA := wA_in (wi_8 (List.mem_of_getElem? (i := 18) rfl)) rfl
theorem k_211 : Cond.methodLink RX4 60 yX0_welcome ∈ wA := wA_in (wi_8 (List.mem_of_getElem? (i := 19) rfl)) rfl
theorem k_212 : Cond.instanceMethod yX0_welcome ∈ wA := wA_in (wi_8 (List.mem_of_getElem? (i := 20) rfl)) rfl
theorem k_213 : Cond.selects RX0 yX0_welcome yX0_welcome ∈ wA := wA_in (wi_8 (List.mem_of_getElem? (i := 21) rfl)) rfl
theorem k_214 : Cond.code yX0_welcome cX0_welcome 4 (some .int) ∈ wA := wA_in (wi_8 (List.mem_of_getElem? (i := 22) rfl)) rfl
theorem k_215 : Cond.constant RX4 64 (-1000000002) ∈ wA := wA_in (wi_8 (List.mem_of_getElem? (i := 23) rfl)) rfl
theorem k_216 : Cond.methodLink RL 18 yX4_of ∈ wA := wA_in (wi_9 (List.mem_of_getElem? (i := 0) rfl)) rfl
theorem k_217 : Cond.instanceMethod yX4_of ∈ wA := wA_in (wi_9 (List.mem_of_getElem? (i := 1) rfl)) rfl
theorem k_218 : Cond.selects RX4 yX4_of yX4_of ∈ wA := wA_in (wi_9 (List.mem_of_getElem? (i := 2) rfl)) rfl
theorem k_219 : Cond.code yX4_of cX4_of 3 (some .int) ∈ wA := wA_in (wi_9 (List.mem_of_getElem? (i := 3) rfl)) rfl
theorem k_220 : Cond.methodLink RX4 65 yX0_has ∈ wA := wA_in (wi_9 (List.mem_of_getElem? (i := 4) rfl)) rfl
theorem k_221 : Cond.instanceMethod yX0_has ∈ wA := wA_in (wi_9 (List.mem_of_getElem? (i := 5) rfl)) rfl
theorem k_222 : Cond.selects RX0 yX0_has yX0_has ∈ wA := wA_in (wi_9 (List.mem_of_getElem? (i := 6) rfl)) rfl
theorem k_223 : Cond.code yX0_has cX0_has 2 (some .boolean) ∈ wA := wA_in (wi_9 (List.mem_of_getElem? (i := 7) rfl)) rfl
theorem k_224 : Cond.methodLink RX4 77 yX0_comers ∈ wA := wA_in (wi_9 (List.mem_of_getElem? (i := 8) rfl)) rfl
theorem k_225 : Cond.instanceMethod yX0_comers ∈ wA := wA_in (wi_9 (List.mem_of_getElem? (i := 9) rfl)) rfl
theorem k_226 : Cond.selects RX0 yX0_comers yX0_comers ∈ wA := wA_in (wi_9 (List.mem_of_getElem? (i := 10) rfl)) rfl
theorem k_227 : Cond.code yX0_comers cX0_comers 5 (some .int) ∈ wA := wA_in (wi_9 (List.mem_of_getElem? (i := 11) rfl)) rfl
theorem k_228 : Cond.methodLink RX0 67 yX0_wouldComeAs ∈ wA := wA_in (wi_9 (List.mem_of_getElem? (i := 12) rfl)) rfl
theorem k_229 : Cond.instanceMethod yX0_wouldComeAs ∈ wA := wA_in (wi_9 (List.mem_of_getElem? (i := 13) rfl)) rfl
theorem k_230 : Cond.selects RX0 yX0_wouldComeAs yX0_wouldComeAs ∈ wA := wA_in (wi_9 (List.mem_of_getElem? (i := 14) rfl)) rfl
theorem k_231 : Cond.code yX0_wouldComeAs cX0_wouldComeAs 6 (some .boolean) ∈ wA := wA_in (wi_9 (List.mem_of_getElem? (i := 15) rfl)) rfl
theorem k_232 : Cond.methodLink RX0 60 yX0_termHolds ∈ wA := wA_in (wi_9 (List.mem_of_getElem? (i := 16) rfl)) rfl
theorem k_233 : Cond.instanceMethod yX0_termHolds ∈ wA := wA_in (wi_9 (List.mem_of_getElem? (i := 17) rfl)) rfl
theorem k_234 : Cond.selects RX0 yX0_termHolds yX0_termHolds ∈ wA := wA_in (wi_9 (List.mem_of_getElem? (i := 18) rfl)) rfl
theorem k_235 : Cond.code yX0_termHolds cX0_termHolds 4 (some .boolean) ∈ wA := wA_in (wi_9 (List.mem_of_getElem? (i := 19) rfl)) rfl
theorem k_237 : Cond.static yX4_othersOn ∈ wA := wA_in (wi_9 (List.mem_of_getElem? (i := 21) rfl)) rfl
theorem k_238 : Cond.code yX4_othersOn cX4_othersOn 2 (some .int) ∈ wA := wA_in (wi_9 (List.mem_of_getElem? (i := 22) rfl)) rfl
theorem k_239 : Cond.methodLink RX4 118 yJ6_bitCount_0f7a4 ∈ wA := wA_in (wi_9 (List.mem_of_getElem? (i := 23) rfl)) rfl
theorem k_240 : Cond.static yJ6_bitCount_0f7a4 ∈ wA := wA_in (wi_10 (List.mem_of_getElem? (i := 0) rfl)) rfl
theorem k_241 : Cond.code yJ6_bitCount_0f7a4 cJ6_bitCount_0f7a4 1 (some .int) ∈ wA := wA_in (wi_10 (List.mem_of_getElem? (i := 1) rfl)) rfl
theorem k_242 : Cond.constant RJ6 265 (1431655765) ∈ wA := wA_in (wi_10 (List.mem_of_getElem? (i := 2) rfl)) rfl
theorem k_243 : Cond.constant RJ6 266 (858993459) ∈ wA := wA_in (wi_10 (List.mem_of_getElem? (i := 3) rfl)) rfl
theorem k_244 : Cond.constant RJ6 267 (252645135) ∈ wA := wA_in (wi_10 (List.mem_of_getElem? (i := 4) rfl)) rfl
theorem k_245 : Cond.methodLink RX4 80 yX0_termHolds ∈ wA := wA_in (wi_10 (List.mem_of_getElem? (i := 5) rfl)) rfl
theorem k_246 : Cond.methodLink RX4 84 yX4_oneIf ∈ wA := wA_in (wi_10 (List.mem_of_getElem? (i := 6) rfl)) rfl
theorem k_247 : Cond.static yX4_oneIf ∈ wA := wA_in (wi_10 (List.mem_of_getElem? (i := 7) rfl)) rfl
theorem k_248 : Cond.code yX4_oneIf cX4_oneIf 1 (some .int) ∈ wA := wA_in (wi_10 (List.mem_of_getElem? (i := 8) rfl)) rfl
theorem k_249 : Cond.methodLink RX4 88 yX4_othersOn ∈ wA := wA_in (wi_10 (List.mem_of_getElem? (i := 9) rfl)) rfl
theorem k_250 : Cond.methodLink RL 22 yX4_cost ∈ wA := wA_in (wi_10 (List.mem_of_getElem? (i := 10) rfl)) rfl
theorem k_251 : Cond.instanceMethod yX4_cost ∈ wA := wA_in (wi_10 (List.mem_of_getElem? (i := 11) rfl)) rfl
theorem k_252 : Cond.selects RX4 yX4_cost yX4_cost ∈ wA := wA_in (wi_10 (List.mem_of_getElem? (i := 12) rfl)) rfl
theorem k_253 : Cond.code yX4_cost cX4_cost 4 (some .int) ∈ wA := wA_in (wi_10 (List.mem_of_getElem? (i := 13) rfl)) rfl
theorem k_254 : Cond.methodLink RL 26 yX4_turn ∈ wA := wA_in (wi_10 (List.mem_of_getElem? (i := 14) rfl)) rfl
theorem k_255 : Cond.instanceMethod yX4_turn ∈ wA := wA_in (wi_10 (List.mem_of_getElem? (i := 15) rfl)) rfl
theorem k_256 : Cond.selects RX4 yX4_turn yX4_turn ∈ wA := wA_in (wi_10 (List.mem_of_getElem? (i := 16) rfl)) rfl
theorem k_257 : Cond.code yX4_turn cX4_turn 3 (some .int) ∈ wA := wA_in (wi_10 (List.mem_of_getElem? (i := 17) rfl)) rfl
theorem k_258 : Cond.methodLink RX4 91 yX0_turnInto ∈ wA := wA_in (wi_10 (List.mem_of_getElem? (i := 18) rfl)) rfl
theorem k_259 : Cond.instanceMethod yX0_turnInto ∈ wA := wA_in (wi_10 (List.mem_of_getElem? (i := 19) rfl)) rfl
theorem k_260 : Cond.selects RX0 yX0_turnInto yX0_turnInto ∈ wA := wA_in (wi_10 (List.mem_of_getElem? (i := 20) rfl)) rfl
theorem k_261 : Cond.code yX0_turnInto cX0_turnInto 4 (some .int) ∈ wA := wA_in (wi_10 (List.mem_of_getElem? (i := 21) rfl)) rfl
theorem k_262 : Cond.methodLink RL 30 yX4_as ∈ wA := wA_in (wi_10 (List.mem_of_getElem? (i := 22) rfl)) rfl
theorem k_263 : Cond.instanceMethod yX4_as ∈ wA := wA_in (wi_10 (List.mem_of_getElem? (i := 23) rfl)) rfl
theorem k_264 : Cond.selects RX4 yX4_as yX4_as ∈ wA := wA_in (wi_11 (List.mem_of_getElem? (i := 0) rfl)) rfl
theorem k_265 : Cond.code yX4_as cX4_as 3 (some .int) ∈ wA := wA_in (wi_11 (List.mem_of_getElem? (i := 1) rfl)) rfl
theorem k_266 : Cond.methodLink RX4 94 yX4_isUnder ∈ wA := wA_in (wi_11 (List.mem_of_getElem? (i := 2) rfl)) rfl
theorem k_267 : Cond.static yX4_isUnder ∈ wA := wA_in (wi_11 (List.mem_of_getElem? (i := 3) rfl)) rfl
theorem k_268 : Cond.code yX4_isUnder cX4_isUnder 2 (some .boolean) ∈ wA := wA_in (wi_11 (List.mem_of_getElem? (i := 4) rfl)) rfl
theorem k_269 : Cond.constant RX4 97 (-1000000003) ∈ wA := wA_in (wi_11 (List.mem_of_getElem? (i := 5) rfl)) rfl
theorem k_270 : Cond.methodLink RL 34 yX4_term ∈ wA := wA_in (wi_11 (List.mem_of_getElem? (i := 6) rfl)) rfl
theorem k_271 : Cond.instanceMethod yX4_term ∈ wA := wA_in (wi_11 (List.mem_of_getElem? (i := 7) rfl)) rfl
theorem k_272 : Cond.selects RX4 yX4_term yX4_term ∈ wA := wA_in (wi_11 (List.mem_of_getElem? (i := 8) rfl)) rfl
theorem k_273 : Cond.code yX4_term cX4_term 6 (some .int) ∈ wA := wA_in (wi_11 (List.mem_of_getElem? (i := 9) rfl)) rfl
theorem k_274 : Cond.methodLink RX4 98 yX2_holdsBy ∈ wA := wA_in (wi_11 (List.mem_of_getElem? (i := 10) rfl)) rfl
theorem k_275 : Cond.instanceMethod yX2_holdsBy ∈ wA := wA_in (wi_11 (List.mem_of_getElem? (i := 11) rfl)) rfl
theorem k_276 : Cond.selects RX2 yX2_holdsBy yX2_holdsBy ∈ wA := wA_in (wi_11 (List.mem_of_getElem? (i := 12) rfl)) rfl
theorem k_277 : Cond.code yX2_holdsBy cX2_holdsBy 5 (some .long) ∈ wA := wA_in (wi_11 (List.mem_of_getElem? (i := 13) rfl)) rfl
theorem k_278 : Cond.methodLink RX2 31 yX2_anyOf ∈ wA := wA_in (wi_11 (List.mem_of_getElem? (i := 14) rfl)) rfl
theorem k_280 : Cond.instanceMethod yX2_anyOf ∈ wA := wA_in (wi_11 (List.mem_of_getElem? (i := 16) rfl)) rfl
theorem k_281 : Cond.code yX2_anyOf cX2_anyOf 5 (some .long) ∈ wA := wA_in (wi_11 (List.mem_of_getElem? (i := 17) rfl)) rfl
theorem k_282 : Cond.methodLink RX2 39 yX2_allOf ∈ wA := wA_in (wi_11 (List.mem_of_getElem? (i := 18) rfl)) rfl
theorem k_284 : Cond.instanceMethod yX2_allOf ∈ wA := wA_in (wi_11 (List.mem_of_getElem? (i := 20) rfl)) rfl
theorem k_285 : Cond.code yX2_allOf cX2_allOf 5 (some .long) ∈ wA := wA_in (wi_11 (List.mem_of_getElem? (i := 21) rfl)) rfl
theorem k_286 : Cond.methodLink RX2 46 yX2_unit ∈ wA := wA_in (wi_11 (List.mem_of_getElem? (i := 22) rfl)) rfl
theorem k_288 : Cond.instanceMethod yX2_unit ∈ wA := wA_in (wi_12 (List.mem_of_getElem? (i := 0) rfl)) rfl
theorem k_289 : Cond.code yX2_unit cX2_unit 3 (some .long) ∈ wA := wA_in (wi_12 (List.mem_of_getElem? (i := 1) rfl)) rfl
theorem k_290 : Cond.methodLink RX2 49 yX2_sign ∈ wA := wA_in (wi_12 (List.mem_of_getElem? (i := 2) rfl)) rfl
theorem k_292 : Cond.instanceMethod yX2_sign ∈ wA := wA_in (wi_12 (List.mem_of_getElem? (i := 4) rfl)) rfl
theorem k_293 : Cond.code yX2_sign cX2_sign 1 (some .int) ∈ wA := wA_in (wi_12 (List.mem_of_getElem? (i := 5) rfl)) rfl
theorem k_294 : Cond.methodLink RX2 53 yX2_listsWith ∈ wA := wA_in (wi_12 (List.mem_of_getElem? (i := 6) rfl)) rfl
theorem k_296 : Cond.instanceMethod yX2_listsWith ∈ wA := wA_in (wi_12 (List.mem_of_getElem? (i := 8) rfl)) rfl
theorem k_297 : Cond.code yX2_listsWith cX2_listsWith 2 (some .long) ∈ wA := wA_in (wi_12 (List.mem_of_getElem? (i := 9) rfl)) rfl
theorem k_301 : Cond.static yX4_isOn ∈ wA := wA_in (wi_12 (List.mem_of_getElem? (i := 13) rfl)) rfl
theorem k_302 : Cond.code yX4_isOn cX4_isOn 2 (some .boolean) ∈ wA := wA_in (wi_12 (List.mem_of_getElem? (i := 14) rfl)) rfl
theorem k_303 : Cond.constantLong RX2 56 (-1) ∈ wA := wA_in (wi_12 (List.mem_of_getElem? (i := 15) rfl)) rfl
theorem k_304 : Cond.methodLink RX2 42 yX2_passes ∈ wA := wA_in (wi_12 (List.mem_of_getElem? (i := 16) rfl)) rfl
theorem k_306 : Cond.instanceMethod yX2_passes ∈ wA := wA_in (wi_12 (List.mem_of_getElem? (i := 18) rfl)) rfl
theorem k_307 : Cond.code yX2_passes cX2_passes 3 (some .boolean) ∈ wA := wA_in (wi_12 (List.mem_of_getElem? (i := 19) rfl)) rfl
theorem k_309 : Cond.methodLink RX2 58 yX2_closed ∈ wA := wA_in (wi_12 (List.mem_of_getElem? (i := 21) rfl)) rfl
theorem k_311 : Cond.instanceMethod yX2_closed ∈ wA := wA_in (wi_12 (List.mem_of_getElem? (i := 23) rfl)) rfl
theorem k_312 : Cond.code yX2_closed cX2_closed 3 (some .long) ∈ wA := wA_in (wi_13 (List.mem_of_getElem? (i := 0) rfl)) rfl
theorem k_313 : Cond.methodLink RX2 35 yX2_fail ∈ wA := wA_in (wi_13 (List.mem_of_getElem? (i := 1) rfl)) rfl
theorem k_315 : Cond.instanceMethod yX2_fail ∈ wA := wA_in (wi_13 (List.mem_of_getElem? (i := 3) rfl)) rfl
theorem k_316 : Cond.code yX2_fail cX2_fail 1 (some .long) ∈ wA := wA_in (wi_13 (List.mem_of_getElem? (i := 4) rfl)) rfl
theorem k_317 : Cond.methodLink RX2 62 yX2_compared ∈ wA := wA_in (wi_13 (List.mem_of_getElem? (i := 5) rfl)) rfl
theorem k_319 : Cond.instanceMethod yX2_compared ∈ wA := wA_in (wi_13 (List.mem_of_getElem? (i := 7) rfl)) rfl
theorem k_320 : Cond.code yX2_compared cX2_compared 3 (some .long) ∈ wA := wA_in (wi_13 (List.mem_of_getElem? (i := 8) rfl)) rfl
theorem k_321 : Cond.methodLink RX2 65 yX2_listsWhereOthers ∈ wA := wA_in (wi_13 (List.mem_of_getElem? (i := 9) rfl)) rfl
theorem k_323 : Cond.instanceMethod yX2_listsWhereOthers ∈ wA := wA_in (wi_13 (List.mem_of_getElem? (i := 11) rfl)) rfl
theorem k_324 : Cond.code yX2_listsWhereOthers cX2_listsWhereOthers 9 (some .long) ∈ wA := wA_in (wi_13 (List.mem_of_getElem? (i := 12) rfl)) rfl
theorem k_325 : Cond.methodLink RX2 77 yJ6_bitCount_0f7a4 ∈ wA := wA_in (wi_13 (List.mem_of_getElem? (i := 13) rfl)) rfl
theorem k_326 : Cond.methodLink RX4 105 yX0_tell ∈ wA := wA_in (wi_13 (List.mem_of_getElem? (i := 14) rfl)) rfl
theorem k_327 : Cond.instanceMethod yX0_tell ∈ wA := wA_in (wi_13 (List.mem_of_getElem? (i := 15) rfl)) rfl
theorem k_328 : Cond.selects RX0 yX0_tell yX0_tell ∈ wA := wA_in (wi_13 (List.mem_of_getElem? (i := 16) rfl)) rfl
theorem k_329 : Cond.code yX0_tell cX0_tell 5 none ∈ wA := wA_in (wi_13 (List.mem_of_getElem? (i := 17) rfl)) rfl
theorem k_330 : Cond.methodLink RL 39 yX4_feed ∈ wA := wA_in (wi_13 (List.mem_of_getElem? (i := 18) rfl)) rfl
theorem k_331 : Cond.instanceMethod yX4_feed ∈ wA := wA_in (wi_13 (List.mem_of_getElem? (i := 19) rfl)) rfl
theorem k_332 : Cond.selects RX4 yX4_feed yX4_feed ∈ wA := wA_in (wi_13 (List.mem_of_getElem? (i := 20) rfl)) rfl
theorem k_333 : Cond.code yX4_feed cX4_feed 3 (some .int) ∈ wA := wA_in (wi_13 (List.mem_of_getElem? (i := 21) rfl)) rfl
theorem k_334 : Cond.methodLink RX4 112 yX2_append ∈ wA := wA_in (wi_13 (List.mem_of_getElem? (i := 22) rfl)) rfl
theorem k_335 : Cond.instanceMethod yX2_append ∈ wA := wA_in (wi_13 (List.mem_of_getElem? (i := 23) rfl)) rfl
theorem k_336 : Cond.selects RX2 yX2_append yX2_append ∈ wA := wA_in (wi_14 (List.mem_of_getElem? (i := 0) rfl)) rfl
theorem k_337 : Cond.code yX2_append cX2_append 4 (some .int) ∈ wA := wA_in (wi_14 (List.mem_of_getElem? (i := 1) rfl)) rfl
theorem k_338 : Cond.methodLink RL 43 yX4_wipe ∈ wA := wA_in (wi_14 (List.mem_of_getElem? (i := 2) rfl)) rfl
theorem k_339 : Cond.instanceMethod yX4_wipe ∈ wA := wA_in (wi_14 (List.mem_of_getElem? (i := 3) rfl)) rfl
theorem k_340 : Cond.selects RX4 yX4_wipe yX4_wipe ∈ wA := wA_in (wi_14 (List.mem_of_getElem? (i := 4) rfl)) rfl
theorem k_341 : Cond.code yX4_wipe cX4_wipe 2 (some .int) ∈ wA := wA_in (wi_14 (List.mem_of_getElem? (i := 5) rfl)) rfl
theorem k_342 : Cond.methodLink RL 48 yX4_list ∈ wA := wA_in (wi_14 (List.mem_of_getElem? (i := 6) rfl)) rfl
theorem k_343 : Cond.instanceMethod yX4_list ∈ wA := wA_in (wi_14 (List.mem_of_getElem? (i := 7) rfl)) rfl
theorem k_344 : Cond.selects RX4 yX4_list yX4_list ∈ wA := wA_in (wi_14 (List.mem_of_getElem? (i := 8) rfl)) rfl
theorem k_345 : Cond.code yX4_list cX4_list 3 (some .int) ∈ wA := wA_in (wi_14 (List.mem_of_getElem? (i := 9) rfl)) rfl
theorem k_346 : Cond.methodLink RX4 115 yX0_isSet ∈ wA := wA_in (wi_14 (List.mem_of_getElem? (i := 10) rfl)) rfl
theorem k_347 : Cond.instanceMethod yX0_isSet ∈ wA := wA_in (wi_14 (List.mem_of_getElem? (i := 11) rfl)) rfl
theorem k_348 : Cond.selects RX0 yX0_isSet yX0_isSet ∈ wA := wA_in (wi_14 (List.mem_of_getElem? (i := 12) rfl)) rfl
theorem k_349 : Cond.code yX0_isSet cX0_isSet 2 (some .boolean) ∈ wA := wA_in (wi_14 (List.mem_of_getElem? (i := 13) rfl)) rfl
theorem k_350 : Cond.methodLink RX0 40 yX0_lists ∈ wA := wA_in (wi_14 (List.mem_of_getElem? (i := 14) rfl)) rfl
theorem k_351 : Cond.instanceMethod yX0_lists ∈ wA := wA_in (wi_14 (List.mem_of_getElem? (i := 15) rfl)) rfl
theorem k_352 : Cond.selects RX0 yX0_lists yX0_lists ∈ wA := wA_in (wi_14 (List.mem_of_getElem? (i := 16) rfl)) rfl
theorem k_353 : Cond.code yX0_lists cX0_lists 1 (some .int) ∈ wA := wA_in (wi_14 (List.mem_of_getElem? (i := 17) rfl)) rfl
theorem k_354 : Cond.methodLink RL 52 yX4_now ∈ wA := wA_in (wi_14 (List.mem_of_getElem? (i := 18) rfl)) rfl
theorem k_355 : Cond.instanceMethod yX4_now ∈ wA := wA_in (wi_14 (List.mem_of_getElem? (i := 19) rfl)) rfl
theorem k_356 : Cond.selects RX4 yX4_now yX4_now ∈ wA := wA_in (wi_14 (List.mem_of_getElem? (i := 20) rfl)) rfl
theorem k_357 : Cond.code yX4_now cX4_now 2 (some .int) ∈ wA := wA_in (wi_14 (List.mem_of_getElem? (i := 21) rfl)) rfl
theorem k_358 : Cond.methodLink RX4 123 yX0_isSettled ∈ wA := wA_in (wi_14 (List.mem_of_getElem? (i := 22) rfl)) rfl
theorem k_359 : Cond.instanceMethod yX0_isSettled ∈ wA := wA_in (wi_14 (List.mem_of_getElem? (i := 23) rfl)) rfl
theorem k_360 : Cond.selects RX0 yX0_isSettled yX0_isSettled ∈ wA := wA_in (wi_15 (List.mem_of_getElem? (i := 0) rfl)) rfl
theorem k_361 : Cond.code yX0_isSettled cX0_isSettled 2 (some .boolean) ∈ wA := wA_in (wi_15 (List.mem_of_getElem? (i := 1) rfl)) rfl
theorem k_362 : Cond.methodLink RX0 71 yX0_comers ∈ wA := wA_in (wi_15 (List.mem_of_getElem? (i := 2) rfl)) rfl
theorem k_363 : Cond.methodLink RX4 126 yX0_costsOf ∈ wA := wA_in (wi_15 (List.mem_of_getElem? (i := 3) rfl)) rfl
theorem k_364 : Cond.instanceMethod yX0_costsOf ∈ wA := wA_in (wi_15 (List.mem_of_getElem? (i := 4) rfl)) rfl
theorem k_365 : Cond.selects RX0 yX0_costsOf yX0_costsOf ∈ wA := wA_in (wi_15 (List.mem_of_getElem? (i := 5) rfl)) rfl
theorem k_366 : Cond.code yX0_costsOf cX0_costsOf 4 (some .int) ∈ wA := wA_in (wi_15 (List.mem_of_getElem? (i := 6) rfl)) rfl
theorem k_368 : Cond.methodLink RL 56 yX4_call ∈ wA := wA_in (wi_15 (List.mem_of_getElem? (i := 8) rfl)) rfl
theorem k_369 : Cond.instanceMethod yX4_call ∈ wA := wA_in (wi_15 (List.mem_of_getElem? (i := 9) rfl)) rfl
theorem k_370 : Cond.selects RX4 yX4_call yX4_call ∈ wA := wA_in (wi_15 (List.mem_of_getElem? (i := 10) rfl)) rfl
theorem k_371 : Cond.code yX4_call cX4_call 2 (some .int) ∈ wA := wA_in (wi_15 (List.mem_of_getElem? (i := 11) rfl)) rfl
theorem k_372 : Cond.methodLink RX4 129 yX0_ringUp ∈ wA := wA_in (wi_15 (List.mem_of_getElem? (i := 12) rfl)) rfl
theorem k_373 : Cond.instanceMethod yX0_ringUp ∈ wA := wA_in (wi_15 (List.mem_of_getElem? (i := 13) rfl)) rfl
theorem k_374 : Cond.selects RX0 yX0_ringUp yX0_ringUp ∈ wA := wA_in (wi_15 (List.mem_of_getElem? (i := 14) rfl)) rfl
theorem k_375 : Cond.code yX0_ringUp cX0_ringUp 3 (some .int) ∈ wA := wA_in (wi_15 (List.mem_of_getElem? (i := 15) rfl)) rfl
theorem k_376 : Cond.methodLink RX0 83 yX0_called ∈ wA := wA_in (wi_15 (List.mem_of_getElem? (i := 16) rfl)) rfl
theorem k_377 : Cond.instanceMethod yX0_called ∈ wA := wA_in (wi_15 (List.mem_of_getElem? (i := 17) rfl)) rfl
theorem k_378 : Cond.selects RX0 yX0_called yX0_called ∈ wA := wA_in (wi_15 (List.mem_of_getElem? (i := 18) rfl)) rfl
theorem k_379 : Cond.code yX0_called cX0_called 3 (some .int) ∈ wA := wA_in (wi_15 (List.mem_of_getElem? (i := 19) rfl)) rfl
theorem k_381 : Cond.methodLink RL 60 yX4_calls ∈ wA := wA_in (wi_15 (List.mem_of_getElem? (i := 21) rfl)) rfl
theorem k_382 : Cond.instanceMethod yX4_calls ∈ wA := wA_in (wi_15 (List.mem_of_getElem? (i := 22) rfl)) rfl
theorem k_383 : Cond.selects RX4 yX4_calls yX4_calls ∈ wA := wA_in (wi_15 (List.mem_of_getElem? (i := 23) rfl)) rfl
theorem k_384 : Cond.code yX4_calls cX4_calls 5 (some .int) ∈ wA := wA_in (wi_16 (List.mem_of_getElem? (i := 0) rfl)) rfl
theorem k_385 : Cond.methodLink RL 64 yX4_rounds ∈ wA := wA_in (wi_16 (List.mem_of_getElem? (i := 1) rfl)) rfl
theorem k_386 : Cond.instanceMethod yX4_rounds ∈ wA := wA_in (wi_16 (List.mem_of_getElem? (i := 2) rfl)) rfl
theorem k_387 : Cond.selects RX4 yX4_rounds yX4_rounds ∈ wA := wA_in (wi_16 (List.mem_of_getElem? (i := 3) rfl)) rfl
theorem k_388 : Cond.code yX4_rounds cX4_rounds 2 (some .int) ∈ wA := wA_in (wi_16 (List.mem_of_getElem? (i := 4) rfl)) rfl
theorem k_389 : Cond.methodLink RX4 132 yX0_behind ∈ wA := wA_in (wi_16 (List.mem_of_getElem? (i := 5) rfl)) rfl
theorem k_390 : Cond.instanceMethod yX0_behind ∈ wA := wA_in (wi_16 (List.mem_of_getElem? (i := 6) rfl)) rfl
theorem k_391 : Cond.selects RX0 yX0_behind yX0_behind ∈ wA := wA_in (wi_16 (List.mem_of_getElem? (i := 7) rfl)) rfl
theorem k_392 : Cond.code yX0_behind cX0_behind 5 (some .int) ∈ wA := wA_in (wi_16 (List.mem_of_getElem? (i := 8) rfl)) rfl
theorem k_393 : Cond.methodLink RX0 86 yX0_isSettled ∈ wA := wA_in (wi_16 (List.mem_of_getElem? (i := 9) rfl)) rfl
theorem k_394 : Cond.methodLink RL 68 yX4_on ∈ wA := wA_in (wi_16 (List.mem_of_getElem? (i := 10) rfl)) rfl
theorem k_395 : Cond.instanceMethod yX4_on ∈ wA := wA_in (wi_16 (List.mem_of_getElem? (i := 11) rfl)) rfl
theorem k_396 : Cond.selects RX4 yX4_on yX4_on ∈ wA := wA_in (wi_16 (List.mem_of_getElem? (i := 12) rfl)) rfl
theorem k_397 : Cond.code yX4_on cX4_on 2 (some .int) ∈ wA := wA_in (wi_16 (List.mem_of_getElem? (i := 13) rfl)) rfl
theorem k_398 : Cond.methodLink RL 72 yX4_when ∈ wA := wA_in (wi_16 (List.mem_of_getElem? (i := 14) rfl)) rfl
theorem k_399 : Cond.instanceMethod yX4_when ∈ wA := wA_in (wi_16 (List.mem_of_getElem? (i := 15) rfl)) rfl
theorem k_400 : Cond.selects RX4 yX4_when yX4_when ∈ wA := wA_in (wi_16 (List.mem_of_getElem? (i := 16) rfl)) rfl
theorem k_401 : Cond.code yX4_when cX4_when 3 (some .int) ∈ wA := wA_in (wi_16 (List.mem_of_getElem? (i := 17) rfl)) rfl
theorem k_402 : Cond.constant RX4 135 (-1000000004) ∈ wA := wA_in (wi_16 (List.mem_of_getElem? (i := 18) rfl)) rfl
theorem k_403 : Cond.methodLink RL 76 yX4_ring ∈ wA := wA_in (wi_16 (List.mem_of_getElem? (i := 19) rfl)) rfl
theorem k_404 : Cond.instanceMethod yX4_ring ∈ wA := wA_in (wi_16 (List.mem_of_getElem? (i := 20) rfl)) rfl
theorem k_405 : Cond.selects RX4 yX4_ring yX4_ring ∈ wA := wA_in (wi_16 (List.mem_of_getElem? (i := 21) rfl)) rfl
theorem k_406 : Cond.code yX4_ring cX4_ring 3 (some .int) ∈ wA := wA_in (wi_16 (List.mem_of_getElem? (i := 22) rfl)) rfl
theorem k_407 : Cond.methodLink RX4 136 yX0_ringLength ∈ wA := wA_in (wi_16 (List.mem_of_getElem? (i := 23) rfl)) rfl
theorem k_408 : Cond.instanceMethod yX0_ringLength ∈ wA := wA_in (wi_17 (List.mem_of_getElem? (i := 0) rfl)) rfl
theorem k_409 : Cond.selects RX0 yX0_ringLength yX0_ringLength ∈ wA := wA_in (wi_17 (List.mem_of_getElem? (i := 1) rfl)) rfl
theorem k_410 : Cond.code yX0_ringLength cX0_ringLength 5 (some .int) ∈ wA := wA_in (wi_17 (List.mem_of_getElem? (i := 2) rfl)) rfl
theorem k_411 : Cond.methodLink RX0 90 yX0_behind ∈ wA := wA_in (wi_17 (List.mem_of_getElem? (i := 3) rfl)) rfl
theorem k_412 : Cond.methodLink RX4 140 yX0_roundsToRing ∈ wA := wA_in (wi_17 (List.mem_of_getElem? (i := 4) rfl)) rfl
theorem k_413 : Cond.instanceMethod yX0_roundsToRing ∈ wA := wA_in (wi_17 (List.mem_of_getElem? (i := 5) rfl)) rfl
theorem k_414 : Cond.selects RX0 yX0_roundsToRing yX0_roundsToRing ∈ wA := wA_in (wi_17 (List.mem_of_getElem? (i := 6) rfl)) rfl
theorem k_415 : Cond.code yX0_roundsToRing cX0_roundsToRing 6 (some .int) ∈ wA := wA_in (wi_17 (List.mem_of_getElem? (i := 7) rfl)) rfl
theorem k_416 : Cond.methodLink RL 80 yX4_fewest ∈ wA := wA_in (wi_17 (List.mem_of_getElem? (i := 8) rfl)) rfl
theorem k_417 : Cond.instanceMethod yX4_fewest ∈ wA := wA_in (wi_17 (List.mem_of_getElem? (i := 9) rfl)) rfl
theorem k_418 : Cond.selects RX4 yX4_fewest yX4_fewest ∈ wA := wA_in (wi_17 (List.mem_of_getElem? (i := 10) rfl)) rfl
theorem k_419 : Cond.code yX4_fewest cX4_fewest 2 (some .int) ∈ wA := wA_in (wi_17 (List.mem_of_getElem? (i := 11) rfl)) rfl
theorem k_420 : Cond.methodLink RX4 143 yX3_nearestSettled ∈ wA := wA_in (wi_17 (List.mem_of_getElem? (i := 12) rfl)) rfl
theorem k_421 : Cond.instanceMethod yX3_nearestSettled ∈ wA := wA_in (wi_17 (List.mem_of_getElem? (i := 13) rfl)) rfl
theorem k_422 : Cond.selects RX3 yX3_nearestSettled yX3_nearestSettled ∈ wA := wA_in (wi_17 (List.mem_of_getElem? (i := 14) rfl)) rfl
theorem k_423 : Cond.code yX3_nearestSettled cX3_nearestSettled 5 (some .int) ∈ wA := wA_in (wi_17 (List.mem_of_getElem? (i := 15) rfl)) rfl
theorem k_424 : Cond.methodLink RX3 21 yJ7_fill_53178 ∈ wA := wA_in (wi_17 (List.mem_of_getElem? (i := 16) rfl)) rfl
theorem k_425 : Cond.methodLink RX3 33 yX0_isSettled ∈ wA := wA_in (wi_17 (List.mem_of_getElem? (i := 17) rfl)) rfl
theorem k_426 : Cond.methodLink RX3 37 yX3_callAll ∈ wA := wA_in (wi_17 (List.mem_of_getElem? (i := 18) rfl)) rfl
theorem k_428 : Cond.instanceMethod yX3_callAll ∈ wA := wA_in (wi_17 (List.mem_of_getElem? (i := 20) rfl)) rfl
theorem k_429 : Cond.code yX3_callAll cX3_callAll 7 (some .int) ∈ wA := wA_in (wi_17 (List.mem_of_getElem? (i := 21) rfl)) rfl
theorem k_430 : Cond.methodLink RX3 44 yX0_called ∈ wA := wA_in (wi_17 (List.mem_of_getElem? (i := 22) rfl)) rfl
theorem k_431 : Cond.methodLink RX4 147 yX3_callsTo ∈ wA := wA_in (wi_17 (List.mem_of_getElem? (i := 23) rfl)) rfl
theorem k_432 : Cond.instanceMethod yX3_callsTo ∈ wA := wA_in (wi_18 (List.mem_of_getElem? (i := 0) rfl)) rfl
theorem k_433 : Cond.selects RX3 yX3_callsTo yX3_callsTo ∈ wA := wA_in (wi_18 (List.mem_of_getElem? (i := 1) rfl)) rfl
theorem k_434 : Cond.code yX3_callsTo cX3_callsTo 2 (some .int) ∈ wA := wA_in (wi_18 (List.mem_of_getElem? (i := 2) rfl)) rfl
theorem k_435 : Cond.methodLink RL 84 yX4_first ∈ wA := wA_in (wi_18 (List.mem_of_getElem? (i := 3) rfl)) rfl
theorem k_436 : Cond.instanceMethod yX4_first ∈ wA := wA_in (wi_18 (List.mem_of_getElem? (i := 4) rfl)) rfl
theorem k_437 : Cond.selects RX4 yX4_first yX4_first ∈ wA := wA_in (wi_18 (List.mem_of_getElem? (i := 5) rfl)) rfl
theorem k_438 : Cond.code yX4_first cX4_first 3 (some .int) ∈ wA := wA_in (wi_18 (List.mem_of_getElem? (i := 6) rfl)) rfl
theorem k_439 : Cond.methodLink RX4 150 yX3_firstCalledTo ∈ wA := wA_in (wi_18 (List.mem_of_getElem? (i := 7) rfl)) rfl
theorem k_440 : Cond.instanceMethod yX3_firstCalledTo ∈ wA := wA_in (wi_18 (List.mem_of_getElem? (i := 8) rfl)) rfl
theorem k_441 : Cond.selects RX3 yX3_firstCalledTo yX3_firstCalledTo ∈ wA := wA_in (wi_18 (List.mem_of_getElem? (i := 9) rfl)) rfl
theorem k_442 : Cond.code yX3_firstCalledTo cX3_firstCalledTo 2 (some .int) ∈ wA := wA_in (wi_18 (List.mem_of_getElem? (i := 10) rfl)) rfl
theorem k_443 : Cond.methodLink RL 88 yX4_settled ∈ wA := wA_in (wi_18 (List.mem_of_getElem? (i := 11) rfl)) rfl
theorem k_444 : Cond.instanceMethod yX4_settled ∈ wA := wA_in (wi_18 (List.mem_of_getElem? (i := 12) rfl)) rfl
theorem k_445 : Cond.selects RX4 yX4_settled yX4_settled ∈ wA := wA_in (wi_18 (List.mem_of_getElem? (i := 13) rfl)) rfl
theorem k_446 : Cond.code yX4_settled cX4_settled 3 (some .int) ∈ wA := wA_in (wi_18 (List.mem_of_getElem? (i := 14) rfl)) rfl
theorem k_447 : Cond.methodLink RX4 153 yX0_lists ∈ wA := wA_in (wi_18 (List.mem_of_getElem? (i := 15) rfl)) rfl
theorem k_448 : Cond.methodLink RL 92 yX4_ith ∈ wA := wA_in (wi_18 (List.mem_of_getElem? (i := 16) rfl)) rfl
theorem k_449 : Cond.instanceMethod yX4_ith ∈ wA := wA_in (wi_18 (List.mem_of_getElem? (i := 17) rfl)) rfl
theorem k_450 : Cond.selects RX4 yX4_ith yX4_ith ∈ wA := wA_in (wi_18 (List.mem_of_getElem? (i := 18) rfl)) rfl
theorem k_451 : Cond.code yX4_ith cX4_ith 4 (some .int) ∈ wA := wA_in (wi_18 (List.mem_of_getElem? (i := 19) rfl)) rfl
theorem k_452 : Cond.methodLink RL 96 yX4_sure ∈ wA := wA_in (wi_18 (List.mem_of_getElem? (i := 20) rfl)) rfl
theorem k_453 : Cond.instanceMethod yX4_sure ∈ wA := wA_in (wi_18 (List.mem_of_getElem? (i := 21) rfl)) rfl
theorem k_454 : Cond.selects RX4 yX4_sure yX4_sure ∈ wA := wA_in (wi_18 (List.mem_of_getElem? (i := 22) rfl)) rfl
theorem k_455 : Cond.code yX4_sure cX4_sure 7 (some .int) ∈ wA := wA_in (wi_18 (List.mem_of_getElem? (i := 23) rfl)) rfl
theorem k_456 : Cond.methodLink RX4 156 yX0_everyone ∈ wA := wA_in (wi_19 (List.mem_of_getElem? (i := 0) rfl)) rfl
theorem k_457 : Cond.instanceMethod yX0_everyone ∈ wA := wA_in (wi_19 (List.mem_of_getElem? (i := 1) rfl)) rfl
theorem k_458 : Cond.selects RX0 yX0_everyone yX0_everyone ∈ wA := wA_in (wi_19 (List.mem_of_getElem? (i := 2) rfl)) rfl
theorem k_459 : Cond.code yX0_everyone cX0_everyone 1 (some .int) ∈ wA := wA_in (wi_19 (List.mem_of_getElem? (i := 3) rfl)) rfl
theorem k_460 : Cond.methodLink RX4 159 yJ9_max_7cf53 ∈ wA := wA_in (wi_19 (List.mem_of_getElem? (i := 4) rfl)) rfl
theorem k_461 : Cond.static yJ9_max_7cf53 ∈ wA := wA_in (wi_19 (List.mem_of_getElem? (i := 5) rfl)) rfl
theorem k_462 : Cond.code yJ9_max_7cf53 cJ9_max_7cf53 2 (some .int) ∈ wA := wA_in (wi_19 (List.mem_of_getElem? (i := 6) rfl)) rfl
theorem k_463 : Cond.methodLink RX4 164 yJ9_min_7cf53 ∈ wA := wA_in (wi_19 (List.mem_of_getElem? (i := 7) rfl)) rfl
theorem k_464 : Cond.static yJ9_min_7cf53 ∈ wA := wA_in (wi_19 (List.mem_of_getElem? (i := 8) rfl)) rfl
theorem k_465 : Cond.code yJ9_min_7cf53 cJ9_min_7cf53 2 (some .int) ∈ wA := wA_in (wi_19 (List.mem_of_getElem? (i := 9) rfl)) rfl
theorem k_466 : Cond.methodLink RL 100 yX4_basin ∈ wA := wA_in (wi_19 (List.mem_of_getElem? (i := 10) rfl)) rfl
theorem k_467 : Cond.instanceMethod yX4_basin ∈ wA := wA_in (wi_19 (List.mem_of_getElem? (i := 11) rfl)) rfl
theorem k_468 : Cond.selects RX4 yX4_basin yX4_basin ∈ wA := wA_in (wi_19 (List.mem_of_getElem? (i := 12) rfl)) rfl
theorem k_469 : Cond.code yX4_basin cX4_basin 3 (some .int) ∈ wA := wA_in (wi_19 (List.mem_of_getElem? (i := 13) rfl)) rfl
theorem k_470 : Cond.methodLink RL 104 yX4_odds ∈ wA := wA_in (wi_19 (List.mem_of_getElem? (i := 14) rfl)) rfl
theorem k_471 : Cond.instanceMethod yX4_odds ∈ wA := wA_in (wi_19 (List.mem_of_getElem? (i := 15) rfl)) rfl
theorem k_472 : Cond.selects RX4 yX4_odds yX4_odds ∈ wA := wA_in (wi_19 (List.mem_of_getElem? (i := 16) rfl)) rfl
theorem k_473 : Cond.code yX4_odds cX4_odds 9 (some .long) ∈ wA := wA_in (wi_19 (List.mem_of_getElem? (i := 17) rfl)) rfl
theorem k_474 : Cond.constantLong RX4 167 (2) ∈ wA := wA_in (wi_19 (List.mem_of_getElem? (i := 18) rfl)) rfl
theorem k_475 : Cond.methodLink RL 109 yX4_last ∈ wA := wA_in (wi_19 (List.mem_of_getElem? (i := 19) rfl)) rfl
theorem k_476 : Cond.instanceMethod yX4_last ∈ wA := wA_in (wi_19 (List.mem_of_getElem? (i := 20) rfl)) rfl
theorem k_477 : Cond.selects RX4 yX4_last yX4_last ∈ wA := wA_in (wi_19 (List.mem_of_getElem? (i := 21) rfl)) rfl
theorem k_478 : Cond.code yX4_last cX4_last 2 (some .int) ∈ wA := wA_in (wi_19 (List.mem_of_getElem? (i := 22) rfl)) rfl
theorem k_479 : Cond.methodLink RX4 169 yX0_lastOf ∈ wA := wA_in (wi_19 (List.mem_of_getElem? (i := 23) rfl)) rfl
theorem k_480 : Cond.instanceMethod yX0_lastOf ∈ wA := wA_in (wi_20 (List.mem_of_getElem? (i := 0) rfl)) rfl
theorem k_481 : Cond.selects RX0 yX0_lastOf yX0_lastOf ∈ wA := wA_in (wi_20 (List.mem_of_getElem? (i := 1) rfl)) rfl
theorem k_482 : Cond.code yX0_lastOf cX0_lastOf 6 (some .int) ∈ wA := wA_in (wi_20 (List.mem_of_getElem? (i := 2) rfl)) rfl
theorem k_483 : Cond.methodLink RL 113 yX4_buys ∈ wA := wA_in (wi_20 (List.mem_of_getElem? (i := 3) rfl)) rfl
theorem k_484 : Cond.instanceMethod yX4_buys ∈ wA := wA_in (wi_20 (List.mem_of_getElem? (i := 4) rfl)) rfl
theorem k_485 : Cond.selects RX4 yX4_buys yX4_buys ∈ wA := wA_in (wi_20 (List.mem_of_getElem? (i := 5) rfl)) rfl
theorem k_486 : Cond.code yX4_buys cX4_buys 3 (some .int) ∈ wA := wA_in (wi_20 (List.mem_of_getElem? (i := 6) rfl)) rfl
theorem k_487 : Cond.methodLink RX4 172 yX4_cheapestFor ∈ wA := wA_in (wi_20 (List.mem_of_getElem? (i := 7) rfl)) rfl
theorem k_489 : Cond.instanceMethod yX4_cheapestFor ∈ wA := wA_in (wi_20 (List.mem_of_getElem? (i := 9) rfl)) rfl
theorem k_490 : Cond.code yX4_cheapestFor cX4_cheapestFor 5 (some .int) ∈ wA := wA_in (wi_20 (List.mem_of_getElem? (i := 10) rfl)) rfl
theorem k_491 : Cond.methodLink RX4 239 yX4_isCheaper ∈ wA := wA_in (wi_20 (List.mem_of_getElem? (i := 11) rfl)) rfl
theorem k_493 : Cond.instanceMethod yX4_isCheaper ∈ wA := wA_in (wi_20 (List.mem_of_getElem? (i := 13) rfl)) rfl
theorem k_494 : Cond.code yX4_isCheaper cX4_isCheaper 5 (some .boolean) ∈ wA := wA_in (wi_20 (List.mem_of_getElem? (i := 14) rfl)) rfl
theorem k_495 : Cond.methodLink RL 117 yX4_price ∈ wA := wA_in (wi_20 (List.mem_of_getElem? (i := 15) rfl)) rfl
theorem k_496 : Cond.instanceMethod yX4_price ∈ wA := wA_in (wi_20 (List.mem_of_getElem? (i := 16) rfl)) rfl
theorem k_497 : Cond.selects RX4 yX4_price yX4_price ∈ wA := wA_in (wi_20 (List.mem_of_getElem? (i := 17) rfl)) rfl
theorem k_498 : Cond.code yX4_price cX4_price 3 (some .int) ∈ wA := wA_in (wi_20 (List.mem_of_getElem? (i := 18) rfl)) rfl
theorem k_499 : Cond.methodLink RL 121 yX4_spoils ∈ wA := wA_in (wi_20 (List.mem_of_getElem? (i := 19) rfl)) rfl
theorem k_500 : Cond.instanceMethod yX4_spoils ∈ wA := wA_in (wi_20 (List.mem_of_getElem? (i := 20) rfl)) rfl
theorem k_501 : Cond.selects RX4 yX4_spoils yX4_spoils ∈ wA := wA_in (wi_20 (List.mem_of_getElem? (i := 21) rfl)) rfl
theorem k_502 : Cond.code yX4_spoils cX4_spoils 5 (some .int) ∈ wA := wA_in (wi_20 (List.mem_of_getElem? (i := 22) rfl)) rfl
theorem k_503 : Cond.methodLink RL 125 yX4_invites ∈ wA := wA_in (wi_20 (List.mem_of_getElem? (i := 23) rfl)) rfl
theorem k_504 : Cond.instanceMethod yX4_invites ∈ wA := wA_in (wi_21 (List.mem_of_getElem? (i := 0) rfl)) rfl
theorem k_505 : Cond.selects RX4 yX4_invites yX4_invites ∈ wA := wA_in (wi_21 (List.mem_of_getElem? (i := 1) rfl)) rfl
theorem k_506 : Cond.code yX4_invites cX4_invites 6 (some .int) ∈ wA := wA_in (wi_21 (List.mem_of_getElem? (i := 2) rfl)) rfl
theorem k_507 : Cond.methodLink RX4 175 yX4_isWellAsked ∈ wA := wA_in (wi_21 (List.mem_of_getElem? (i := 3) rfl)) rfl
theorem k_509 : Cond.instanceMethod yX4_isWellAsked ∈ wA := wA_in (wi_21 (List.mem_of_getElem? (i := 5) rfl)) rfl
theorem k_510 : Cond.code yX4_isWellAsked cX4_isWellAsked 6 (some .boolean) ∈ wA := wA_in (wi_21 (List.mem_of_getElem? (i := 6) rfl)) rfl
theorem k_511 : Cond.methodLink RL 129 yX4_against ∈ wA := wA_in (wi_21 (List.mem_of_getElem? (i := 7) rfl)) rfl
theorem k_512 : Cond.instanceMethod yX4_against ∈ wA := wA_in (wi_21 (List.mem_of_getElem? (i := 8) rfl)) rfl
theorem k_513 : Cond.selects RX4 yX4_against yX4_against ∈ wA := wA_in (wi_21 (List.mem_of_getElem? (i := 9) rfl)) rfl
theorem k_514 : Cond.code yX4_against cX4_against 9 (some .int) ∈ wA := wA_in (wi_21 (List.mem_of_getElem? (i := 10) rfl)) rfl
theorem k_515 : Cond.methodLink RX4 179 yX4_isOn ∈ wA := wA_in (wi_21 (List.mem_of_getElem? (i := 11) rfl)) rfl
theorem k_516 : Cond.methodLink RL 133 yX4_minds ∈ wA := wA_in (wi_21 (List.mem_of_getElem? (i := 12) rfl)) rfl
theorem k_517 : Cond.instanceMethod yX4_minds ∈ wA := wA_in (wi_21 (List.mem_of_getElem? (i := 13) rfl)) rfl
theorem k_518 : Cond.selects RX4 yX4_minds yX4_minds ∈ wA := wA_in (wi_21 (List.mem_of_getElem? (i := 14) rfl)) rfl
theorem k_519 : Cond.code yX4_minds cX4_minds 5 (some .int) ∈ wA := wA_in (wi_21 (List.mem_of_getElem? (i := 15) rfl)) rfl
theorem k_520 : Cond.methodLink RL 137 yX4_kind ∈ wA := wA_in (wi_21 (List.mem_of_getElem? (i := 16) rfl)) rfl
theorem k_521 : Cond.instanceMethod yX4_kind ∈ wA := wA_in (wi_21 (List.mem_of_getElem? (i := 17) rfl)) rfl
theorem k_522 : Cond.selects RX4 yX4_kind yX4_kind ∈ wA := wA_in (wi_21 (List.mem_of_getElem? (i := 18) rfl)) rfl
theorem k_523 : Cond.code yX4_kind cX4_kind 6 (some .int) ∈ wA := wA_in (wi_21 (List.mem_of_getElem? (i := 19) rfl)) rfl
theorem k_524 : Cond.methodLink RX4 182 yX0_settledAs ∈ wA := wA_in (wi_21 (List.mem_of_getElem? (i := 20) rfl)) rfl
theorem k_525 : Cond.instanceMethod yX0_settledAs ∈ wA := wA_in (wi_21 (List.mem_of_getElem? (i := 21) rfl)) rfl
theorem k_526 : Cond.selects RX0 yX0_settledAs yX0_settledAs ∈ wA := wA_in (wi_21 (List.mem_of_getElem? (i := 22) rfl)) rfl
theorem k_527 : Cond.code yX0_settledAs cX0_settledAs 5 (some .int) ∈ wA := wA_in (wi_21 (List.mem_of_getElem? (i := 23) rfl)) rfl
theorem k_528 : Cond.methodLink RX0 75 yX0_comersAs ∈ wA := wA_in (wi_22 (List.mem_of_getElem? (i := 0) rfl)) rfl
theorem k_529 : Cond.instanceMethod yX0_comersAs ∈ wA := wA_in (wi_22 (List.mem_of_getElem? (i := 1) rfl)) rfl
theorem k_530 : Cond.selects RX0 yX0_comersAs yX0_comersAs ∈ wA := wA_in (wi_22 (List.mem_of_getElem? (i := 2) rfl)) rfl
theorem k_531 : Cond.code yX0_comersAs cX0_comersAs 5 (some .int) ∈ wA := wA_in (wi_22 (List.mem_of_getElem? (i := 3) rfl)) rfl
theorem k_532 : Cond.methodLink RL 141 yX4_sheet ∈ wA := wA_in (wi_22 (List.mem_of_getElem? (i := 4) rfl)) rfl
theorem k_533 : Cond.instanceMethod yX4_sheet ∈ wA := wA_in (wi_22 (List.mem_of_getElem? (i := 5) rfl)) rfl
theorem k_534 : Cond.selects RX4 yX4_sheet yX4_sheet ∈ wA := wA_in (wi_22 (List.mem_of_getElem? (i := 6) rfl)) rfl
theorem k_535 : Cond.code yX4_sheet cX4_sheet 4 (some .int) ∈ wA := wA_in (wi_22 (List.mem_of_getElem? (i := 7) rfl)) rfl
theorem k_536 : Cond.methodLink RX4 185 yX4_isSheet ∈ wA := wA_in (wi_22 (List.mem_of_getElem? (i := 8) rfl)) rfl
theorem k_537 : Cond.static yX4_isSheet ∈ wA := wA_in (wi_22 (List.mem_of_getElem? (i := 9) rfl)) rfl
theorem k_538 : Cond.code yX4_isSheet cX4_isSheet 1 (some .boolean) ∈ wA := wA_in (wi_22 (List.mem_of_getElem? (i := 10) rfl)) rfl
theorem k_539 : Cond.constant RX4 188 (-1000000007) ∈ wA := wA_in (wi_22 (List.mem_of_getElem? (i := 11) rfl)) rfl
theorem k_540 : Cond.methodLink RX4 189 yX1_lay ∈ wA := wA_in (wi_22 (List.mem_of_getElem? (i := 12) rfl)) rfl
theorem k_541 : Cond.instanceMethod yX1_lay ∈ wA := wA_in (wi_22 (List.mem_of_getElem? (i := 13) rfl)) rfl
theorem k_542 : Cond.selects RX1 yX1_lay yX1_lay ∈ wA := wA_in (wi_22 (List.mem_of_getElem? (i := 14) rfl)) rfl
theorem k_543 : Cond.code yX1_lay cX1_lay 3 (some .int) ∈ wA := wA_in (wi_22 (List.mem_of_getElem? (i := 15) rfl)) rfl
theorem k_544 : Cond.methodLink RX1 22 yJ7_fill_d0a16 ∈ wA := wA_in (wi_22 (List.mem_of_getElem? (i := 16) rfl)) rfl
theorem k_545 : Cond.methodLink RL 148 yX4_write ∈ wA := wA_in (wi_22 (List.mem_of_getElem? (i := 17) rfl)) rfl
theorem k_546 : Cond.instanceMethod yX4_write ∈ wA := wA_in (wi_22 (List.mem_of_getElem? (i := 18) rfl)) rfl
theorem k_547 : Cond.selects RX4 yX4_write yX4_write ∈ wA := wA_in (wi_22 (List.mem_of_getElem? (i := 19) rfl)) rfl
theorem k_548 : Cond.code yX4_write cX4_write 6 (some .long) ∈ wA := wA_in (wi_22 (List.mem_of_getElem? (i := 20) rfl)) rfl
theorem k_549 : Cond.methodLink RX4 192 yX4_sheetLack ∈ wA := wA_in (wi_22 (List.mem_of_getElem? (i := 21) rfl)) rfl
theorem k_551 : Cond.instanceMethod yX4_sheetLack ∈ wA := wA_in (wi_22 (List.mem_of_getElem? (i := 23) rfl)) rfl
theorem k_552 : Cond.code yX4_sheetLack cX4_sheetLack 2 (some .int) ∈ wA := wA_in (wi_23 (List.mem_of_getElem? (i := 0) rfl)) rfl
theorem k_553 : Cond.methodLink RX4 200 yX1_isMissing ∈ wA := wA_in (wi_23 (List.mem_of_getElem? (i := 1) rfl)) rfl
theorem k_554 : Cond.instanceMethod yX1_isMissing ∈ wA := wA_in (wi_23 (List.mem_of_getElem? (i := 2) rfl)) rfl
theorem k_555 : Cond.selects RX1 yX1_isMissing yX1_isMissing ∈ wA := wA_in (wi_23 (List.mem_of_getElem? (i := 3) rfl)) rfl
theorem k_556 : Cond.code yX1_isMissing cX1_isMissing 1 (some .boolean) ∈ wA := wA_in (wi_23 (List.mem_of_getElem? (i := 4) rfl)) rfl
theorem k_557 : Cond.constant RX4 204 (-1000000006) ∈ wA := wA_in (wi_23 (List.mem_of_getElem? (i := 5) rfl)) rfl
theorem k_558 : Cond.methodLink RX4 196 yX1_put ∈ wA := wA_in (wi_23 (List.mem_of_getElem? (i := 6) rfl)) rfl
theorem k_559 : Cond.instanceMethod yX1_put ∈ wA := wA_in (wi_23 (List.mem_of_getElem? (i := 7) rfl)) rfl
theorem k_560 : Cond.selects RX1 yX1_put yX1_put ∈ wA := wA_in (wi_23 (List.mem_of_getElem? (i := 8) rfl)) rfl
theorem k_561 : Cond.code yX1_put cX1_put 6 (some .long) ∈ wA := wA_in (wi_23 (List.mem_of_getElem? (i := 9) rfl)) rfl
theorem k_562 : Cond.methodLink RL 153 yX4_copy ∈ wA := wA_in (wi_23 (List.mem_of_getElem? (i := 10) rfl)) rfl
theorem k_563 : Cond.instanceMethod yX4_copy ∈ wA := wA_in (wi_23 (List.mem_of_getElem? (i := 11) rfl)) rfl
theorem k_564 : Cond.selects RX4 yX4_copy yX4_copy ∈ wA := wA_in (wi_23 (List.mem_of_getElem? (i := 12) rfl)) rfl
theorem k_565 : Cond.code yX4_copy cX4_copy 6 (some .int) ∈ wA := wA_in (wi_23 (List.mem_of_getElem? (i := 13) rfl)) rfl
theorem k_566 : Cond.methodLink RX4 208 yX1_hasRun ∈ wA := wA_in (wi_23 (List.mem_of_getElem? (i := 14) rfl)) rfl
theorem k_567 : Cond.instanceMethod yX1_hasRun ∈ wA := wA_in (wi_23 (List.mem_of_getElem? (i := 15) rfl)) rfl
theorem k_568 : Cond.selects RX1 yX1_hasRun yX1_hasRun ∈ wA := wA_in (wi_23 (List.mem_of_getElem? (i := 16) rfl)) rfl
theorem k_569 : Cond.code yX1_hasRun cX1_hasRun 3 (some .boolean) ∈ wA := wA_in (wi_23 (List.mem_of_getElem? (i := 17) rfl)) rfl
theorem k_570 : Cond.methodLink RX4 215 arraycopyName ∈ wA := wA_in (wi_23 (List.mem_of_getElem? (i := 18) rfl)) rfl
theorem k_571 : Cond.static arraycopyName ∈ wA := wA_in (wi_23 (List.mem_of_getElem? (i := 19) rfl)) rfl
theorem k_572 : Cond.native arraycopyName ∈ wA := wA_in (wi_23 (List.mem_of_getElem? (i := 20) rfl)) rfl
theorem k_573 : Cond.methodLink RL 158 yX4_lays ∈ wA := wA_in (wi_23 (List.mem_of_getElem? (i := 21) rfl)) rfl
theorem k_574 : Cond.instanceMethod yX4_lays ∈ wA := wA_in (wi_23 (List.mem_of_getElem? (i := 22) rfl)) rfl
theorem k_575 : Cond.selects RX4 yX4_lays yX4_lays ∈ wA := wA_in (wi_23 (List.mem_of_getElem? (i := 23) rfl)) rfl
theorem k_576 : Cond.code yX4_lays cX4_lays 5 (some .int) ∈ wA := wA_in (wi_24 (List.mem_of_getElem? (i := 0) rfl)) rfl
theorem k_577 : Cond.methodLink RL 162 yX4_book ∈ wA := wA_in (wi_24 (List.mem_of_getElem? (i := 1) rfl)) rfl
theorem k_578 : Cond.instanceMethod yX4_book ∈ wA := wA_in (wi_24 (List.mem_of_getElem? (i := 2) rfl)) rfl
theorem k_579 : Cond.selects RX4 yX4_book yX4_book ∈ wA := wA_in (wi_24 (List.mem_of_getElem? (i := 3) rfl)) rfl
theorem k_580 : Cond.code yX4_book cX4_book 5 (some .int) ∈ wA := wA_in (wi_24 (List.mem_of_getElem? (i := 4) rfl)) rfl
theorem k_581 : Cond.methodLink RL 166 yX4_read ∈ wA := wA_in (wi_24 (List.mem_of_getElem? (i := 5) rfl)) rfl
theorem k_582 : Cond.instanceMethod yX4_read ∈ wA := wA_in (wi_24 (List.mem_of_getElem? (i := 6) rfl)) rfl
theorem k_583 : Cond.selects RX4 yX4_read yX4_read ∈ wA := wA_in (wi_24 (List.mem_of_getElem? (i := 7) rfl)) rfl
theorem k_584 : Cond.code yX4_read cX4_read 6 (some .int) ∈ wA := wA_in (wi_24 (List.mem_of_getElem? (i := 8) rfl)) rfl
theorem k_585 : Cond.methodLink RX4 221 yX1_holdsOnly ∈ wA := wA_in (wi_24 (List.mem_of_getElem? (i := 9) rfl)) rfl
theorem k_586 : Cond.instanceMethod yX1_holdsOnly ∈ wA := wA_in (wi_24 (List.mem_of_getElem? (i := 10) rfl)) rfl
theorem k_587 : Cond.selects RX1 yX1_holdsOnly yX1_holdsOnly ∈ wA := wA_in (wi_24 (List.mem_of_getElem? (i := 11) rfl)) rfl
theorem k_588 : Cond.code yX1_holdsOnly cX1_holdsOnly 3 (some .boolean) ∈ wA := wA_in (wi_24 (List.mem_of_getElem? (i := 12) rfl)) rfl
theorem k_589 : Cond.methodLink RX1 32 yX1_bitsAt ∈ wA := wA_in (wi_24 (List.mem_of_getElem? (i := 13) rfl)) rfl
theorem k_591 : Cond.instanceMethod yX1_bitsAt ∈ wA := wA_in (wi_24 (List.mem_of_getElem? (i := 15) rfl)) rfl
theorem k_592 : Cond.code yX1_bitsAt cX1_bitsAt 2 (some .long) ∈ wA := wA_in (wi_24 (List.mem_of_getElem? (i := 16) rfl)) rfl
theorem k_593 : Cond.constantLong RX1 28 (255) ∈ wA := wA_in (wi_24 (List.mem_of_getElem? (i := 17) rfl)) rfl
theorem k_594 : Cond.constantLong RX1 30 (65535) ∈ wA := wA_in (wi_24 (List.mem_of_getElem? (i := 18) rfl)) rfl
theorem k_595 : Cond.constantLong RX1 36 (-1) ∈ wA := wA_in (wi_24 (List.mem_of_getElem? (i := 19) rfl)) rfl
theorem k_596 : Cond.methodLink RX4 224 yX4_explains ∈ wA := wA_in (wi_24 (List.mem_of_getElem? (i := 20) rfl)) rfl
theorem k_598 : Cond.instanceMethod yX4_explains ∈ wA := wA_in (wi_24 (List.mem_of_getElem? (i := 22) rfl)) rfl
theorem k_599 : Cond.code yX4_explains cX4_explains 5 (some .boolean) ∈ wA := wA_in (wi_24 (List.mem_of_getElem? (i := 23) rfl)) rfl
theorem k_600 : Cond.methodLink RX4 242 yX1_listAt ∈ wA := wA_in (wi_25 (List.mem_of_getElem? (i := 0) rfl)) rfl
theorem k_601 : Cond.instanceMethod yX1_listAt ∈ wA := wA_in (wi_25 (List.mem_of_getElem? (i := 1) rfl)) rfl
theorem k_602 : Cond.selects RX1 yX1_listAt yX1_listAt ∈ wA := wA_in (wi_25 (List.mem_of_getElem? (i := 2) rfl)) rfl
theorem k_603 : Cond.code yX1_listAt cX1_listAt 2 (some .int) ∈ wA := wA_in (wi_25 (List.mem_of_getElem? (i := 3) rfl)) rfl
theorem k_604 : Cond.methodLink RX4 245 yX0_comersAs ∈ wA := wA_in (wi_25 (List.mem_of_getElem? (i := 4) rfl)) rfl
theorem k_605 : Cond.methodLink RL 170 yX4_image ∈ wA := wA_in (wi_25 (List.mem_of_getElem? (i := 5) rfl)) rfl
theorem k_606 : Cond.instanceMethod yX4_image ∈ wA := wA_in (wi_25 (List.mem_of_getElem? (i := 6) rfl)) rfl
theorem k_607 : Cond.selects RX4 yX4_image yX4_image ∈ wA := wA_in (wi_25 (List.mem_of_getElem? (i := 7) rfl)) rfl
theorem k_608 : Cond.code yX4_image cX4_image 1 (some .int) ∈ wA := wA_in (wi_25 (List.mem_of_getElem? (i := 8) rfl)) rfl
theorem k_609 : Cond.methodLink RX4 228 yX0_take ∈ wA := wA_in (wi_25 (List.mem_of_getElem? (i := 9) rfl)) rfl
theorem k_610 : Cond.instanceMethod yX0_take ∈ wA := wA_in (wi_25 (List.mem_of_getElem? (i := 10) rfl)) rfl
theorem k_611 : Cond.selects RX0 yX0_take yX0_take ∈ wA := wA_in (wi_25 (List.mem_of_getElem? (i := 11) rfl)) rfl
theorem k_612 : Cond.code yX0_take cX0_take 2 none ∈ wA := wA_in (wi_25 (List.mem_of_getElem? (i := 12) rfl)) rfl
theorem k_613 : Cond.methodLink RX0 50 arraycopyName ∈ wA := wA_in (wi_25 (List.mem_of_getElem? (i := 13) rfl)) rfl
theorem k_614 : Cond.methodLink RL 174 yX4_undo ∈ wA := wA_in (wi_25 (List.mem_of_getElem? (i := 14) rfl)) rfl
theorem k_615 : Cond.instanceMethod yX4_undo ∈ wA := wA_in (wi_25 (List.mem_of_getElem? (i := 15) rfl)) rfl
theorem k_616 : Cond.selects RX4 yX4_undo yX4_undo ∈ wA := wA_in (wi_25 (List.mem_of_getElem? (i := 16) rfl)) rfl
theorem k_617 : Cond.code yX4_undo cX4_undo 1 (some .int) ∈ wA := wA_in (wi_25 (List.mem_of_getElem? (i := 17) rfl)) rfl
theorem k_618 : Cond.methodLink RL 178 yX4_tear ∈ wA := wA_in (wi_25 (List.mem_of_getElem? (i := 18) rfl)) rfl
theorem k_619 : Cond.instanceMethod yX4_tear ∈ wA := wA_in (wi_25 (List.mem_of_getElem? (i := 19) rfl)) rfl
theorem k_620 : Cond.selects RX4 yX4_tear yX4_tear ∈ wA := wA_in (wi_25 (List.mem_of_getElem? (i := 20) rfl)) rfl
theorem k_621 : Cond.code yX4_tear cX4_tear 2 (some .int) ∈ wA := wA_in (wi_25 (List.mem_of_getElem? (i := 21) rfl)) rfl
theorem k_622 : Cond.methodLink RL 182 yX4_count ∈ wA := wA_in (wi_25 (List.mem_of_getElem? (i := 22) rfl)) rfl
theorem k_623 : Cond.instanceMethod yX4_count ∈ wA := wA_in (wi_25 (List.mem_of_getElem? (i := 23) rfl)) rfl
theorem k_624 : Cond.selects RX4 yX4_count yX4_count ∈ wA := wA_in (wi_26 (List.mem_of_getElem? (i := 0) rfl)) rfl
theorem k_625 : Cond.code yX4_count cX4_count 2 (some .int) ∈ wA := wA_in (wi_26 (List.mem_of_getElem? (i := 1) rfl)) rfl
theorem k_626 : Cond.methodLink RL 186 yX4_status ∈ wA := wA_in (wi_26 (List.mem_of_getElem? (i := 2) rfl)) rfl
theorem k_627 : Cond.instanceMethod yX4_status ∈ wA := wA_in (wi_26 (List.mem_of_getElem? (i := 3) rfl)) rfl
theorem k_628 : Cond.selects RX4 yX4_status yX4_status ∈ wA := wA_in (wi_26 (List.mem_of_getElem? (i := 4) rfl)) rfl
theorem k_629 : Cond.code yX4_status cX4_status 4 (some .int) ∈ wA := wA_in (wi_26 (List.mem_of_getElem? (i := 5) rfl)) rfl
theorem k_630 : Cond.classLink RL 10 RX5 ∈ wA := wA_in (wi_26 (List.mem_of_getElem? (i := 6) rfl)) rfl
theorem k_631 : Cond.instantiable RX5 18 ∈ wA := wA_in (wi_26 (List.mem_of_getElem? (i := 7) rfl)) rfl
theorem k_632 : Cond.methodLink RL 12 yX5_init ∈ wA := wA_in (wi_26 (List.mem_of_getElem? (i := 8) rfl)) rfl
theorem k_633 : Cond.instanceMethod yX5_init ∈ wA := wA_in (wi_26 (List.mem_of_getElem? (i := 9) rfl)) rfl
theorem k_634 : Cond.code yX5_init cX5_init 1 none ∈ wA := wA_in (wi_26 (List.mem_of_getElem? (i := 10) rfl)) rfl
theorem k_635 : Cond.methodLink RX5 1 objectInit ∈ wA := wA_in (wi_26 (List.mem_of_getElem? (i := 11) rfl)) rfl
theorem k_636 : Cond.fieldLink RX5 7 "ComeIfSheModel" "s" "[I" ∈ wA := wA_in (wi_26 (List.mem_of_getElem? (i := 12) rfl)) rfl
theorem k_637 : Cond.fieldLink RX5 13 "ComeIfSheModel" "keptS" "[I" ∈ wA := wA_in (wi_26 (List.mem_of_getElem? (i := 13) rfl)) rfl
theorem k_638 : Cond.fieldLink RX5 16 "ComeIfSheModel" "statuses" "[I" ∈ wA := wA_in (wi_26 (List.mem_of_getElem? (i := 14) rfl)) rfl
theorem k_639 : Cond.fieldLink RX5 210 "ComeIfSheModel" "isKept" "Z" ∈ wA := wA_in (wi_26 (List.mem_of_getElem? (i := 15) rfl)) rfl
theorem k_640 : Cond.fieldLink RX5 19 "ComeIfSheModel" "pile" "[Z" ∈ wA := wA_in (wi_26 (List.mem_of_getElem? (i := 16) rfl)) rfl
theorem k_641 : Cond.fieldLink RX5 23 "ComeIfSheModel" "tape" "[I" ∈ wA := wA_in (wi_26 (List.mem_of_getElem? (i := 17) rfl)) rfl
theorem k_642 : Cond.fieldLink RX5 26 "ComeIfSheModel" "steps" "[I" ∈ wA := wA_in (wi_26 (List.mem_of_getElem? (i := 18) rfl)) rfl
theorem k_643 : Cond.fieldLink RX5 99 "ComeIfSheModel" "taped" "I" ∈ wA := wA_in (wi_26 (List.mem_of_getElem? (i := 19) rfl)) rfl
theorem k_644 : Cond.fieldLink RX5 95 "ComeIfSheModel" "at" "I" ∈ wA := wA_in (wi_26 (List.mem_of_getElem? (i := 20) rfl)) rfl
theorem k_645 : Cond.fieldLink RX5 102 "ComeIfSheModel" "fault" "I" ∈ wA := wA_in (wi_26 (List.mem_of_getElem? (i := 21) rfl)) rfl
theorem k_646 : Cond.fieldLink RX5 105 "ComeIfSheModel" "laid" "I" ∈ wA := wA_in (wi_26 (List.mem_of_getElem? (i := 22) rfl)) rfl
theorem k_647 : Cond.fieldLink RX5 108 "ComeIfSheModel" "open" "I" ∈ wA := wA_in (wi_26 (List.mem_of_getElem? (i := 23) rfl)) rfl
theorem k_648 : Cond.fieldLink RX5 29 "ComeIfSheModel" "wish" "[I" ∈ wA := wA_in (wi_27 (List.mem_of_getElem? (i := 0) rfl)) rfl
theorem k_649 : Cond.fieldLink RX5 32 "ComeIfSheModel" "mark" "[I" ∈ wA := wA_in (wi_27 (List.mem_of_getElem? (i := 1) rfl)) rfl
theorem k_650 : Cond.fieldLink RX5 35 "ComeIfSheModel" "bitsOf" "[I" ∈ wA := wA_in (wi_27 (List.mem_of_getElem? (i := 2) rfl)) rfl
theorem k_651 : Cond.fieldLink RX5 38 "ComeIfSheModel" "sizeOf" "[I" ∈ wA := wA_in (wi_27 (List.mem_of_getElem? (i := 3) rfl)) rfl
theorem k_652 : Cond.fieldLink RX5 41 "ComeIfSheModel" "number" "[J" ∈ wA := wA_in (wi_27 (List.mem_of_getElem? (i := 4) rfl)) rfl
theorem k_653 : Cond.fieldLink RX5 45 "ComeIfSheModel" "moved" "[J" ∈ wA := wA_in (wi_27 (List.mem_of_getElem? (i := 5) rfl)) rfl
theorem k_691 : Cond.arrayClass .boolean ∈ wA := wA_in (wi_28 (List.mem_of_getElem? (i := 19) rfl)) rfl
theorem k_692 : Cond.methodLink RL 17 yX5_guest ∈ wA := wA_in (wi_28 (List.mem_of_getElem? (i := 20) rfl)) rfl
theorem k_693 : Cond.instanceMethod yX5_guest ∈ wA := wA_in (wi_28 (List.mem_of_getElem? (i := 21) rfl)) rfl
theorem k_694 : Cond.selects RX5 yX5_guest yX5_guest ∈ wA := wA_in (wi_28 (List.mem_of_getElem? (i := 22) rfl)) rfl
theorem k_695 : Cond.code yX5_guest cX5_guest 4 (some .int) ∈ wA := wA_in (wi_28 (List.mem_of_getElem? (i := 23) rfl)) rfl
theorem k_696 : Cond.constantLong RX5 62 (5) ∈ wA := wA_in (wi_29 (List.mem_of_getElem? (i := 0) rfl)) rfl
theorem k_697 : Cond.methodLink RX5 54 yX5_in ∈ wA := wA_in (wi_29 (List.mem_of_getElem? (i := 1) rfl)) rfl
theorem k_698 : Cond.static yX5_in ∈ wA := wA_in (wi_29 (List.mem_of_getElem? (i := 2) rfl)) rfl
theorem k_699 : Cond.code yX5_in cX5_in 6 (some .boolean) ∈ wA := wA_in (wi_29 (List.mem_of_getElem? (i := 3) rfl)) rfl
theorem k_700 : Cond.constantLong RX5 64 (99) ∈ wA := wA_in (wi_29 (List.mem_of_getElem? (i := 4) rfl)) rfl
theorem k_701 : Cond.constant RX5 48 (-1000000001) ∈ wA := wA_in (wi_29 (List.mem_of_getElem? (i := 5) rfl)) rfl
theorem k_702 : Cond.methodLink RX5 50 yX5_finds ∈ wA := wA_in (wi_29 (List.mem_of_getElem? (i := 6) rfl)) rfl
theorem k_704 : Cond.instanceMethod yX5_finds ∈ wA := wA_in (wi_29 (List.mem_of_getElem? (i := 8) rfl)) rfl
theorem k_705 : Cond.code yX5_finds cX5_finds 2 (some .int) ∈ wA := wA_in (wi_29 (List.mem_of_getElem? (i := 9) rfl)) rfl
theorem k_706 : Cond.constant RX5 66 (-1000000002) ∈ wA := wA_in (wi_29 (List.mem_of_getElem? (i := 10) rfl)) rfl
theorem k_707 : Cond.methodLink RL 21 yX5_of ∈ wA := wA_in (wi_29 (List.mem_of_getElem? (i := 11) rfl)) rfl
theorem k_708 : Cond.instanceMethod yX5_of ∈ wA := wA_in (wi_29 (List.mem_of_getElem? (i := 12) rfl)) rfl
theorem k_709 : Cond.selects RX5 yX5_of yX5_of ∈ wA := wA_in (wi_29 (List.mem_of_getElem? (i := 13) rfl)) rfl
theorem k_710 : Cond.code yX5_of cX5_of 3 (some .int) ∈ wA := wA_in (wi_29 (List.mem_of_getElem? (i := 14) rfl)) rfl
theorem k_711 : Cond.methodLink RX5 87 yX5_isGuest ∈ wA := wA_in (wi_29 (List.mem_of_getElem? (i := 15) rfl)) rfl
theorem k_713 : Cond.instanceMethod yX5_isGuest ∈ wA := wA_in (wi_29 (List.mem_of_getElem? (i := 17) rfl)) rfl
theorem k_714 : Cond.code yX5_isGuest cX5_isGuest 2 (some .boolean) ∈ wA := wA_in (wi_29 (List.mem_of_getElem? (i := 18) rfl)) rfl
theorem k_715 : Cond.methodLink RX5 84 yX5_comesBy ∈ wA := wA_in (wi_29 (List.mem_of_getElem? (i := 19) rfl)) rfl
theorem k_717 : Cond.instanceMethod yX5_comesBy ∈ wA := wA_in (wi_29 (List.mem_of_getElem? (i := 21) rfl)) rfl
theorem k_718 : Cond.code yX5_comesBy cX5_comesBy 4 (some .boolean) ∈ wA := wA_in (wi_29 (List.mem_of_getElem? (i := 22) rfl)) rfl
theorem k_719 : Cond.methodLink RX5 78 yX5_others ∈ wA := wA_in (wi_29 (List.mem_of_getElem? (i := 23) rfl)) rfl
theorem k_720 : Cond.static yX5_others ∈ wA := wA_in (wi_30 (List.mem_of_getElem? (i := 0) rfl)) rfl
theorem k_721 : Cond.code yX5_others cX5_others 2 (some .int) ∈ wA := wA_in (wi_30 (List.mem_of_getElem? (i := 1) rfl)) rfl
theorem k_722 : Cond.methodLink RX5 67 yX5_ones ∈ wA := wA_in (wi_30 (List.mem_of_getElem? (i := 2) rfl)) rfl
theorem k_723 : Cond.static yX5_ones ∈ wA := wA_in (wi_30 (List.mem_of_getElem? (i := 3) rfl)) rfl
theorem k_724 : Cond.code yX5_ones cX5_ones 3 (some .int) ∈ wA := wA_in (wi_30 (List.mem_of_getElem? (i := 4) rfl)) rfl
theorem k_725 : Cond.methodLink RX5 70 yX5_its ∈ wA := wA_in (wi_30 (List.mem_of_getElem? (i := 5) rfl)) rfl
theorem k_727 : Cond.instanceMethod yX5_its ∈ wA := wA_in (wi_30 (List.mem_of_getElem? (i := 7) rfl)) rfl
theorem k_728 : Cond.code yX5_its cX5_its 3 (some .int) ∈ wA := wA_in (wi_30 (List.mem_of_getElem? (i := 8) rfl)) rfl
theorem k_729 : Cond.methodLink RX5 81 yX5_holds ∈ wA := wA_in (wi_30 (List.mem_of_getElem? (i := 9) rfl)) rfl
theorem k_731 : Cond.instanceMethod yX5_holds ∈ wA := wA_in (wi_30 (List.mem_of_getElem? (i := 11) rfl)) rfl
theorem k_732 : Cond.code yX5_holds cX5_holds 8 (some .boolean) ∈ wA := wA_in (wi_30 (List.mem_of_getElem? (i := 12) rfl)) rfl
theorem k_733 : Cond.methodLink RX5 74 yX5_has ∈ wA := wA_in (wi_30 (List.mem_of_getElem? (i := 13) rfl)) rfl
theorem k_734 : Cond.static yX5_has ∈ wA := wA_in (wi_30 (List.mem_of_getElem? (i := 14) rfl)) rfl
theorem k_735 : Cond.code yX5_has cX5_has 2 (some .boolean) ∈ wA := wA_in (wi_30 (List.mem_of_getElem? (i := 15) rfl)) rfl
theorem k_736 : Cond.methodLink RL 25 yX5_cost ∈ wA := wA_in (wi_30 (List.mem_of_getElem? (i := 16) rfl)) rfl
theorem k_737 : Cond.instanceMethod yX5_cost ∈ wA := wA_in (wi_30 (List.mem_of_getElem? (i := 17) rfl)) rfl
theorem k_738 : Cond.selects RX5 yX5_cost yX5_cost ∈ wA := wA_in (wi_30 (List.mem_of_getElem? (i := 18) rfl)) rfl
theorem k_739 : Cond.code yX5_cost cX5_cost 3 (some .int) ∈ wA := wA_in (wi_30 (List.mem_of_getElem? (i := 19) rfl)) rfl
theorem k_740 : Cond.methodLink RX5 91 yX5_becomes ∈ wA := wA_in (wi_30 (List.mem_of_getElem? (i := 20) rfl)) rfl
theorem k_742 : Cond.instanceMethod yX5_becomes ∈ wA := wA_in (wi_30 (List.mem_of_getElem? (i := 22) rfl)) rfl
theorem k_743 : Cond.code yX5_becomes cX5_becomes 4 (some .int) ∈ wA := wA_in (wi_30 (List.mem_of_getElem? (i := 23) rfl)) rfl
theorem k_744 : Cond.methodLink RL 29 yX5_turn ∈ wA := wA_in (wi_31 (List.mem_of_getElem? (i := 0) rfl)) rfl
theorem k_745 : Cond.instanceMethod yX5_turn ∈ wA := wA_in (wi_31 (List.mem_of_getElem? (i := 1) rfl)) rfl
theorem k_746 : Cond.selects RX5 yX5_turn yX5_turn ∈ wA := wA_in (wi_31 (List.mem_of_getElem? (i := 2) rfl)) rfl
theorem k_747 : Cond.code yX5_turn cX5_turn 3 (some .int) ∈ wA := wA_in (wi_31 (List.mem_of_getElem? (i := 3) rfl)) rfl
theorem k_748 : Cond.methodLink RL 33 yX5_as ∈ wA := wA_in (wi_31 (List.mem_of_getElem? (i := 4) rfl)) rfl
theorem k_749 : Cond.instanceMethod yX5_as ∈ wA := wA_in (wi_31 (List.mem_of_getElem? (i := 5) rfl)) rfl
theorem k_750 : Cond.selects RX5 yX5_as yX5_as ∈ wA := wA_in (wi_31 (List.mem_of_getElem? (i := 6) rfl)) rfl
theorem k_751 : Cond.code yX5_as cX5_as 5 (some .int) ∈ wA := wA_in (wi_31 (List.mem_of_getElem? (i := 7) rfl)) rfl
theorem k_752 : Cond.constant RX5 94 (-1000000003) ∈ wA := wA_in (wi_31 (List.mem_of_getElem? (i := 8) rfl)) rfl
theorem k_753 : Cond.methodLink RL 38 yX5_term ∈ wA := wA_in (wi_31 (List.mem_of_getElem? (i := 9) rfl)) rfl
theorem k_754 : Cond.instanceMethod yX5_term ∈ wA := wA_in (wi_31 (List.mem_of_getElem? (i := 10) rfl)) rfl
theorem k_755 : Cond.selects RX5 yX5_term yX5_term ∈ wA := wA_in (wi_31 (List.mem_of_getElem? (i := 11) rfl)) rfl
theorem k_756 : Cond.code yX5_term cX5_term 3 (some .int) ∈ wA := wA_in (wi_31 (List.mem_of_getElem? (i := 12) rfl)) rfl
theorem k_757 : Cond.methodLink RX5 139 yX5_any ∈ wA := wA_in (wi_31 (List.mem_of_getElem? (i := 13) rfl)) rfl
theorem k_759 : Cond.instanceMethod yX5_any ∈ wA := wA_in (wi_31 (List.mem_of_getElem? (i := 15) rfl)) rfl
theorem k_760 : Cond.code yX5_any cX5_any 1 none ∈ wA := wA_in (wi_31 (List.mem_of_getElem? (i := 16) rfl)) rfl
theorem k_761 : Cond.methodLink RX5 142 yX5_every ∈ wA := wA_in (wi_31 (List.mem_of_getElem? (i := 17) rfl)) rfl
theorem k_763 : Cond.instanceMethod yX5_every ∈ wA := wA_in (wi_31 (List.mem_of_getElem? (i := 19) rfl)) rfl
theorem k_764 : Cond.code yX5_every cX5_every 1 none ∈ wA := wA_in (wi_31 (List.mem_of_getElem? (i := 20) rfl)) rfl
theorem k_765 : Cond.methodLink RX5 136 yX5_unit ∈ wA := wA_in (wi_31 (List.mem_of_getElem? (i := 21) rfl)) rfl
theorem k_767 : Cond.instanceMethod yX5_unit ∈ wA := wA_in (wi_31 (List.mem_of_getElem? (i := 23) rfl)) rfl
theorem k_768 : Cond.code yX5_unit cX5_unit 2 none ∈ wA := wA_in (wi_32 (List.mem_of_getElem? (i := 0) rfl)) rfl
theorem k_769 : Cond.methodLink RX5 114 yX5_look ∈ wA := wA_in (wi_32 (List.mem_of_getElem? (i := 1) rfl)) rfl
theorem k_771 : Cond.instanceMethod yX5_look ∈ wA := wA_in (wi_32 (List.mem_of_getElem? (i := 3) rfl)) rfl
theorem k_772 : Cond.code yX5_look cX5_look 1 (some .int) ∈ wA := wA_in (wi_32 (List.mem_of_getElem? (i := 4) rfl)) rfl
theorem k_773 : Cond.constantLong RX5 125 (97) ∈ wA := wA_in (wi_32 (List.mem_of_getElem? (i := 5) rfl)) rfl
theorem k_774 : Cond.constantLong RX5 127 (104) ∈ wA := wA_in (wi_32 (List.mem_of_getElem? (i := 6) rfl)) rfl
theorem k_775 : Cond.methodLink RX5 121 yX5_lay ∈ wA := wA_in (wi_32 (List.mem_of_getElem? (i := 7) rfl)) rfl
theorem k_777 : Cond.instanceMethod yX5_lay ∈ wA := wA_in (wi_32 (List.mem_of_getElem? (i := 9) rfl)) rfl
theorem k_778 : Cond.code yX5_lay cX5_lay 2 none ∈ wA := wA_in (wi_32 (List.mem_of_getElem? (i := 10) rfl)) rfl
theorem k_779 : Cond.methodLink RX5 129 yX5_counted ∈ wA := wA_in (wi_32 (List.mem_of_getElem? (i := 11) rfl)) rfl
theorem k_781 : Cond.instanceMethod yX5_counted ∈ wA := wA_in (wi_32 (List.mem_of_getElem? (i := 13) rfl)) rfl
theorem k_782 : Cond.code yX5_counted cX5_counted 3 none ∈ wA := wA_in (wi_32 (List.mem_of_getElem? (i := 14) rfl)) rfl
theorem k_783 : Cond.methodLink RX5 111 yX5_faulty ∈ wA := wA_in (wi_32 (List.mem_of_getElem? (i := 15) rfl)) rfl
theorem k_785 : Cond.instanceMethod yX5_faulty ∈ wA := wA_in (wi_32 (List.mem_of_getElem? (i := 17) rfl)) rfl
theorem k_786 : Cond.code yX5_faulty cX5_faulty 1 none ∈ wA := wA_in (wi_32 (List.mem_of_getElem? (i := 18) rfl)) rfl
theorem k_787 : Cond.constantLong RX5 117 (48) ∈ wA := wA_in (wi_32 (List.mem_of_getElem? (i := 19) rfl)) rfl
theorem k_788 : Cond.constantLong RX5 119 (57) ∈ wA := wA_in (wi_32 (List.mem_of_getElem? (i := 20) rfl)) rfl
theorem k_789 : Cond.methodLink RX5 132 yX5_opens ∈ wA := wA_in (wi_32 (List.mem_of_getElem? (i := 21) rfl)) rfl
theorem k_791 : Cond.instanceMethod yX5_opens ∈ wA := wA_in (wi_32 (List.mem_of_getElem? (i := 23) rfl)) rfl
theorem k_792 : Cond.code yX5_opens cX5_opens 1 (some .boolean) ∈ wA := wA_in (wi_33 (List.mem_of_getElem? (i := 0) rfl)) rfl
theorem k_793 : Cond.methodLink RL 42 yX5_feed ∈ wA := wA_in (wi_33 (List.mem_of_getElem? (i := 1) rfl)) rfl
theorem k_794 : Cond.instanceMethod yX5_feed ∈ wA := wA_in (wi_33 (List.mem_of_getElem? (i := 2) rfl)) rfl
theorem k_795 : Cond.selects RX5 yX5_feed yX5_feed ∈ wA := wA_in (wi_33 (List.mem_of_getElem? (i := 3) rfl)) rfl
theorem k_796 : Cond.code yX5_feed cX5_feed 4 (some .int) ∈ wA := wA_in (wi_33 (List.mem_of_getElem? (i := 4) rfl)) rfl
theorem k_797 : Cond.constantLong RX5 145 (4) ∈ wA := wA_in (wi_33 (List.mem_of_getElem? (i := 5) rfl)) rfl
theorem k_798 : Cond.methodLink RL 47 yX5_wipe ∈ wA := wA_in (wi_33 (List.mem_of_getElem? (i := 6) rfl)) rfl
theorem k_799 : Cond.instanceMethod yX5_wipe ∈ wA := wA_in (wi_33 (List.mem_of_getElem? (i := 7) rfl)) rfl
theorem k_800 : Cond.selects RX5 yX5_wipe yX5_wipe ∈ wA := wA_in (wi_33 (List.mem_of_getElem? (i := 8) rfl)) rfl
theorem k_801 : Cond.code yX5_wipe cX5_wipe 2 (some .int) ∈ wA := wA_in (wi_33 (List.mem_of_getElem? (i := 9) rfl)) rfl
theorem k_802 : Cond.methodLink RL 51 yX5_list ∈ wA := wA_in (wi_33 (List.mem_of_getElem? (i := 10) rfl)) rfl
theorem k_803 : Cond.instanceMethod yX5_list ∈ wA := wA_in (wi_33 (List.mem_of_getElem? (i := 11) rfl)) rfl
theorem k_804 : Cond.selects RX5 yX5_list yX5_list ∈ wA := wA_in (wi_33 (List.mem_of_getElem? (i := 12) rfl)) rfl
theorem k_805 : Cond.code yX5_list cX5_list 2 (some .int) ∈ wA := wA_in (wi_33 (List.mem_of_getElem? (i := 13) rfl)) rfl
theorem k_806 : Cond.methodLink RX5 147 yX5_isList ∈ wA := wA_in (wi_33 (List.mem_of_getElem? (i := 14) rfl)) rfl
theorem k_808 : Cond.instanceMethod yX5_isList ∈ wA := wA_in (wi_33 (List.mem_of_getElem? (i := 16) rfl)) rfl
theorem k_809 : Cond.code yX5_isList cX5_isList 3 (some .boolean) ∈ wA := wA_in (wi_33 (List.mem_of_getElem? (i := 17) rfl)) rfl
theorem k_810 : Cond.methodLink RX5 58 yX5_lists ∈ wA := wA_in (wi_33 (List.mem_of_getElem? (i := 18) rfl)) rfl
theorem k_812 : Cond.instanceMethod yX5_lists ∈ wA := wA_in (wi_33 (List.mem_of_getElem? (i := 20) rfl)) rfl
theorem k_813 : Cond.code yX5_lists cX5_lists 1 (some .int) ∈ wA := wA_in (wi_33 (List.mem_of_getElem? (i := 21) rfl)) rfl
theorem k_814 : Cond.methodLink RL 55 yX5_now ∈ wA := wA_in (wi_33 (List.mem_of_getElem? (i := 22) rfl)) rfl
theorem k_815 : Cond.instanceMethod yX5_now ∈ wA := wA_in (wi_33 (List.mem_of_getElem? (i := 23) rfl)) rfl
theorem k_816 : Cond.selects RX5 yX5_now yX5_now ∈ wA := wA_in (wi_34 (List.mem_of_getElem? (i := 0) rfl)) rfl
theorem k_817 : Cond.code yX5_now cX5_now 2 (some .int) ∈ wA := wA_in (wi_34 (List.mem_of_getElem? (i := 1) rfl)) rfl
theorem k_818 : Cond.methodLink RX5 151 yX5_would ∈ wA := wA_in (wi_34 (List.mem_of_getElem? (i := 2) rfl)) rfl
theorem k_820 : Cond.instanceMethod yX5_would ∈ wA := wA_in (wi_34 (List.mem_of_getElem? (i := 4) rfl)) rfl
theorem k_821 : Cond.code yX5_would cX5_would 4 (some .int) ∈ wA := wA_in (wi_34 (List.mem_of_getElem? (i := 5) rfl)) rfl
theorem k_822 : Cond.methodLink RX5 154 yX5_costOf ∈ wA := wA_in (wi_34 (List.mem_of_getElem? (i := 6) rfl)) rfl
theorem k_824 : Cond.instanceMethod yX5_costOf ∈ wA := wA_in (wi_34 (List.mem_of_getElem? (i := 8) rfl)) rfl
theorem k_825 : Cond.code yX5_costOf cX5_costOf 4 (some .int) ∈ wA := wA_in (wi_34 (List.mem_of_getElem? (i := 9) rfl)) rfl
theorem k_826 : Cond.methodLink RL 59 yX5_call ∈ wA := wA_in (wi_34 (List.mem_of_getElem? (i := 10) rfl)) rfl
theorem k_827 : Cond.instanceMethod yX5_call ∈ wA := wA_in (wi_34 (List.mem_of_getElem? (i := 11) rfl)) rfl
theorem k_828 : Cond.selects RX5 yX5_call yX5_call ∈ wA := wA_in (wi_34 (List.mem_of_getElem? (i := 12) rfl)) rfl
theorem k_829 : Cond.code yX5_call cX5_call 2 (some .int) ∈ wA := wA_in (wi_34 (List.mem_of_getElem? (i := 13) rfl)) rfl
theorem k_830 : Cond.methodLink RX5 160 yX5_calling ∈ wA := wA_in (wi_34 (List.mem_of_getElem? (i := 14) rfl)) rfl
theorem k_832 : Cond.instanceMethod yX5_calling ∈ wA := wA_in (wi_34 (List.mem_of_getElem? (i := 16) rfl)) rfl
theorem k_833 : Cond.code yX5_calling cX5_calling 3 (some .int) ∈ wA := wA_in (wi_34 (List.mem_of_getElem? (i := 17) rfl)) rfl
theorem k_834 : Cond.methodLink RX5 157 yX5_called ∈ wA := wA_in (wi_34 (List.mem_of_getElem? (i := 18) rfl)) rfl
theorem k_836 : Cond.instanceMethod yX5_called ∈ wA := wA_in (wi_34 (List.mem_of_getElem? (i := 20) rfl)) rfl
theorem k_837 : Cond.code yX5_called cX5_called 3 (some .int) ∈ wA := wA_in (wi_34 (List.mem_of_getElem? (i := 21) rfl)) rfl
theorem k_838 : Cond.methodLink RL 63 yX5_calls ∈ wA := wA_in (wi_34 (List.mem_of_getElem? (i := 22) rfl)) rfl
theorem k_839 : Cond.instanceMethod yX5_calls ∈ wA := wA_in (wi_34 (List.mem_of_getElem? (i := 23) rfl)) rfl
theorem k_840 : Cond.selects RX5 yX5_calls yX5_calls ∈ wA := wA_in (wi_35 (List.mem_of_getElem? (i := 0) rfl)) rfl
theorem k_841 : Cond.code yX5_calls cX5_calls 5 (some .int) ∈ wA := wA_in (wi_35 (List.mem_of_getElem? (i := 1) rfl)) rfl
theorem k_842 : Cond.constantLong RX5 163 (20) ∈ wA := wA_in (wi_35 (List.mem_of_getElem? (i := 2) rfl)) rfl
theorem k_843 : Cond.methodLink RL 67 yX5_rounds ∈ wA := wA_in (wi_35 (List.mem_of_getElem? (i := 3) rfl)) rfl
theorem k_844 : Cond.instanceMethod yX5_rounds ∈ wA := wA_in (wi_35 (List.mem_of_getElem? (i := 4) rfl)) rfl
theorem k_845 : Cond.selects RX5 yX5_rounds yX5_rounds ∈ wA := wA_in (wi_35 (List.mem_of_getElem? (i := 5) rfl)) rfl
theorem k_846 : Cond.code yX5_rounds cX5_rounds 2 (some .int) ∈ wA := wA_in (wi_35 (List.mem_of_getElem? (i := 6) rfl)) rfl
theorem k_847 : Cond.constantLong RX5 165 (64) ∈ wA := wA_in (wi_35 (List.mem_of_getElem? (i := 7) rfl)) rfl
theorem k_848 : Cond.methodLink RX5 167 yX5_behind ∈ wA := wA_in (wi_35 (List.mem_of_getElem? (i := 8) rfl)) rfl
theorem k_850 : Cond.instanceMethod yX5_behind ∈ wA := wA_in (wi_35 (List.mem_of_getElem? (i := 10) rfl)) rfl
theorem k_851 : Cond.code yX5_behind cX5_behind 5 (some .int) ∈ wA := wA_in (wi_35 (List.mem_of_getElem? (i := 11) rfl)) rfl
theorem k_852 : Cond.methodLink RL 71 yX5_on ∈ wA := wA_in (wi_35 (List.mem_of_getElem? (i := 12) rfl)) rfl
theorem k_853 : Cond.instanceMethod yX5_on ∈ wA := wA_in (wi_35 (List.mem_of_getElem? (i := 13) rfl)) rfl
theorem k_854 : Cond.selects RX5 yX5_on yX5_on ∈ wA := wA_in (wi_35 (List.mem_of_getElem? (i := 14) rfl)) rfl
theorem k_855 : Cond.code yX5_on cX5_on 2 (some .int) ∈ wA := wA_in (wi_35 (List.mem_of_getElem? (i := 15) rfl)) rfl
theorem k_856 : Cond.methodLink RL 75 yX5_when ∈ wA := wA_in (wi_35 (List.mem_of_getElem? (i := 16) rfl)) rfl
theorem k_857 : Cond.instanceMethod yX5_when ∈ wA := wA_in (wi_35 (List.mem_of_getElem? (i := 17) rfl)) rfl
theorem k_858 : Cond.selects RX5 yX5_when yX5_when ∈ wA := wA_in (wi_35 (List.mem_of_getElem? (i := 18) rfl)) rfl
theorem k_859 : Cond.code yX5_when cX5_when 3 (some .int) ∈ wA := wA_in (wi_35 (List.mem_of_getElem? (i := 19) rfl)) rfl
theorem k_860 : Cond.methodLink RX5 170 yX5_looksAll ∈ wA := wA_in (wi_35 (List.mem_of_getElem? (i := 20) rfl)) rfl
theorem k_862 : Cond.instanceMethod yX5_looksAll ∈ wA := wA_in (wi_35 (List.mem_of_getElem? (i := 22) rfl)) rfl
theorem k_863 : Cond.code yX5_looksAll cX5_looksAll 2 none ∈ wA := wA_in (wi_35 (List.mem_of_getElem? (i := 23) rfl)) rfl
theorem k_864 : Cond.constant RX5 49 (-1000000004) ∈ wA := wA_in (wi_36 (List.mem_of_getElem? (i := 0) rfl)) rfl
theorem k_865 : Cond.methodLink RL 79 yX5_ring ∈ wA := wA_in (wi_36 (List.mem_of_getElem? (i := 1) rfl)) rfl
theorem k_866 : Cond.instanceMethod yX5_ring ∈ wA := wA_in (wi_36 (List.mem_of_getElem? (i := 2) rfl)) rfl
theorem k_867 : Cond.selects RX5 yX5_ring yX5_ring ∈ wA := wA_in (wi_36 (List.mem_of_getElem? (i := 3) rfl)) rfl
theorem k_868 : Cond.code yX5_ring cX5_ring 4 (some .int) ∈ wA := wA_in (wi_36 (List.mem_of_getElem? (i := 4) rfl)) rfl
theorem k_869 : Cond.methodLink RL 83 yX5_fewest ∈ wA := wA_in (wi_36 (List.mem_of_getElem? (i := 5) rfl)) rfl
theorem k_870 : Cond.instanceMethod yX5_fewest ∈ wA := wA_in (wi_36 (List.mem_of_getElem? (i := 6) rfl)) rfl
theorem k_871 : Cond.selects RX5 yX5_fewest yX5_fewest ∈ wA := wA_in (wi_36 (List.mem_of_getElem? (i := 7) rfl)) rfl
theorem k_872 : Cond.code yX5_fewest cX5_fewest 1 (some .int) ∈ wA := wA_in (wi_36 (List.mem_of_getElem? (i := 8) rfl)) rfl
theorem k_873 : Cond.methodLink RX5 173 yX5_looksFar ∈ wA := wA_in (wi_36 (List.mem_of_getElem? (i := 9) rfl)) rfl
theorem k_875 : Cond.instanceMethod yX5_looksFar ∈ wA := wA_in (wi_36 (List.mem_of_getElem? (i := 11) rfl)) rfl
theorem k_876 : Cond.code yX5_looksFar cX5_looksFar 5 none ∈ wA := wA_in (wi_36 (List.mem_of_getElem? (i := 12) rfl)) rfl
theorem k_877 : Cond.methodLink RX5 176 yX5_orNone ∈ wA := wA_in (wi_36 (List.mem_of_getElem? (i := 13) rfl)) rfl
theorem k_879 : Cond.instanceMethod yX5_orNone ∈ wA := wA_in (wi_36 (List.mem_of_getElem? (i := 15) rfl)) rfl
theorem k_880 : Cond.code yX5_orNone cX5_orNone 2 (some .int) ∈ wA := wA_in (wi_36 (List.mem_of_getElem? (i := 16) rfl)) rfl
theorem k_881 : Cond.methodLink RL 87 yX5_first ∈ wA := wA_in (wi_36 (List.mem_of_getElem? (i := 17) rfl)) rfl
theorem k_882 : Cond.instanceMethod yX5_first ∈ wA := wA_in (wi_36 (List.mem_of_getElem? (i := 18) rfl)) rfl
theorem k_883 : Cond.selects RX5 yX5_first yX5_first ∈ wA := wA_in (wi_36 (List.mem_of_getElem? (i := 19) rfl)) rfl
theorem k_884 : Cond.code yX5_first cX5_first 4 (some .int) ∈ wA := wA_in (wi_36 (List.mem_of_getElem? (i := 20) rfl)) rfl
theorem k_885 : Cond.methodLink RL 91 yX5_settled ∈ wA := wA_in (wi_36 (List.mem_of_getElem? (i := 21) rfl)) rfl
theorem k_886 : Cond.instanceMethod yX5_settled ∈ wA := wA_in (wi_36 (List.mem_of_getElem? (i := 22) rfl)) rfl
theorem k_887 : Cond.selects RX5 yX5_settled yX5_settled ∈ wA := wA_in (wi_36 (List.mem_of_getElem? (i := 23) rfl)) rfl
theorem k_888 : Cond.code yX5_settled cX5_settled 1 (some .int) ∈ wA := wA_in (wi_37 (List.mem_of_getElem? (i := 0) rfl)) rfl
theorem k_889 : Cond.methodLink RX5 179 yX5_manySettled ∈ wA := wA_in (wi_37 (List.mem_of_getElem? (i := 1) rfl)) rfl
theorem k_891 : Cond.instanceMethod yX5_manySettled ∈ wA := wA_in (wi_37 (List.mem_of_getElem? (i := 3) rfl)) rfl
theorem k_892 : Cond.code yX5_manySettled cX5_manySettled 3 (some .int) ∈ wA := wA_in (wi_37 (List.mem_of_getElem? (i := 4) rfl)) rfl
theorem k_893 : Cond.methodLink RL 95 yX5_ith ∈ wA := wA_in (wi_37 (List.mem_of_getElem? (i := 5) rfl)) rfl
theorem k_894 : Cond.instanceMethod yX5_ith ∈ wA := wA_in (wi_37 (List.mem_of_getElem? (i := 6) rfl)) rfl
theorem k_895 : Cond.selects RX5 yX5_ith yX5_ith ∈ wA := wA_in (wi_37 (List.mem_of_getElem? (i := 7) rfl)) rfl
theorem k_896 : Cond.code yX5_ith cX5_ith 4 (some .int) ∈ wA := wA_in (wi_37 (List.mem_of_getElem? (i := 8) rfl)) rfl
theorem k_897 : Cond.methodLink RL 99 yX5_sure ∈ wA := wA_in (wi_37 (List.mem_of_getElem? (i := 9) rfl)) rfl
theorem k_898 : Cond.instanceMethod yX5_sure ∈ wA := wA_in (wi_37 (List.mem_of_getElem? (i := 10) rfl)) rfl
theorem k_899 : Cond.selects RX5 yX5_sure yX5_sure ∈ wA := wA_in (wi_37 (List.mem_of_getElem? (i := 11) rfl)) rfl
theorem k_900 : Cond.code yX5_sure cX5_sure 7 (some .int) ∈ wA := wA_in (wi_37 (List.mem_of_getElem? (i := 12) rfl)) rfl
theorem k_901 : Cond.constantLong RX5 182 (3) ∈ wA := wA_in (wi_37 (List.mem_of_getElem? (i := 13) rfl)) rfl
theorem k_902 : Cond.methodLink RL 103 yX5_basin ∈ wA := wA_in (wi_37 (List.mem_of_getElem? (i := 14) rfl)) rfl
theorem k_903 : Cond.instanceMethod yX5_basin ∈ wA := wA_in (wi_37 (List.mem_of_getElem? (i := 15) rfl)) rfl
theorem k_904 : Cond.selects RX5 yX5_basin yX5_basin ∈ wA := wA_in (wi_37 (List.mem_of_getElem? (i := 16) rfl)) rfl
theorem k_905 : Cond.code yX5_basin cX5_basin 3 (some .int) ∈ wA := wA_in (wi_37 (List.mem_of_getElem? (i := 17) rfl)) rfl
theorem k_906 : Cond.methodLink RX5 184 yX5_looksWhere ∈ wA := wA_in (wi_37 (List.mem_of_getElem? (i := 18) rfl)) rfl
theorem k_908 : Cond.instanceMethod yX5_looksWhere ∈ wA := wA_in (wi_37 (List.mem_of_getElem? (i := 20) rfl)) rfl
theorem k_909 : Cond.code yX5_looksWhere cX5_looksWhere 4 none ∈ wA := wA_in (wi_37 (List.mem_of_getElem? (i := 21) rfl)) rfl
theorem k_910 : Cond.methodLink RL 108 yX5_odds ∈ wA := wA_in (wi_37 (List.mem_of_getElem? (i := 22) rfl)) rfl
theorem k_911 : Cond.instanceMethod yX5_odds ∈ wA := wA_in (wi_37 (List.mem_of_getElem? (i := 23) rfl)) rfl
theorem k_912 : Cond.selects RX5 yX5_odds yX5_odds ∈ wA := wA_in (wi_38 (List.mem_of_getElem? (i := 0) rfl)) rfl
theorem k_913 : Cond.code yX5_odds cX5_odds 5 (some .long) ∈ wA := wA_in (wi_38 (List.mem_of_getElem? (i := 1) rfl)) rfl
theorem k_914 : Cond.methodLink RL 112 yX5_last ∈ wA := wA_in (wi_38 (List.mem_of_getElem? (i := 2) rfl)) rfl
theorem k_915 : Cond.instanceMethod yX5_last ∈ wA := wA_in (wi_38 (List.mem_of_getElem? (i := 3) rfl)) rfl
theorem k_916 : Cond.selects RX5 yX5_last yX5_last ∈ wA := wA_in (wi_38 (List.mem_of_getElem? (i := 4) rfl)) rfl
theorem k_917 : Cond.code yX5_last cX5_last 2 (some .int) ∈ wA := wA_in (wi_38 (List.mem_of_getElem? (i := 5) rfl)) rfl
theorem k_918 : Cond.methodLink RX5 187 yX5_lastOf ∈ wA := wA_in (wi_38 (List.mem_of_getElem? (i := 6) rfl)) rfl
theorem k_920 : Cond.instanceMethod yX5_lastOf ∈ wA := wA_in (wi_38 (List.mem_of_getElem? (i := 8) rfl)) rfl
theorem k_921 : Cond.code yX5_lastOf cX5_lastOf 5 (some .int) ∈ wA := wA_in (wi_38 (List.mem_of_getElem? (i := 9) rfl)) rfl
theorem k_922 : Cond.methodLink RL 116 yX5_buys ∈ wA := wA_in (wi_38 (List.mem_of_getElem? (i := 10) rfl)) rfl
theorem k_923 : Cond.instanceMethod yX5_buys ∈ wA := wA_in (wi_38 (List.mem_of_getElem? (i := 11) rfl)) rfl
theorem k_924 : Cond.selects RX5 yX5_buys yX5_buys ∈ wA := wA_in (wi_38 (List.mem_of_getElem? (i := 12) rfl)) rfl
theorem k_925 : Cond.code yX5_buys cX5_buys 2 (some .int) ∈ wA := wA_in (wi_38 (List.mem_of_getElem? (i := 13) rfl)) rfl
theorem k_926 : Cond.constantLong RX5 190 (8) ∈ wA := wA_in (wi_38 (List.mem_of_getElem? (i := 14) rfl)) rfl
theorem k_927 : Cond.methodLink RX5 192 yX5_bestBuy ∈ wA := wA_in (wi_38 (List.mem_of_getElem? (i := 15) rfl)) rfl
theorem k_929 : Cond.instanceMethod yX5_bestBuy ∈ wA := wA_in (wi_38 (List.mem_of_getElem? (i := 17) rfl)) rfl
theorem k_930 : Cond.code yX5_bestBuy cX5_bestBuy 5 (some .int) ∈ wA := wA_in (wi_38 (List.mem_of_getElem? (i := 18) rfl)) rfl
theorem k_931 : Cond.methodLink RL 120 yX5_price ∈ wA := wA_in (wi_38 (List.mem_of_getElem? (i := 19) rfl)) rfl
theorem k_932 : Cond.instanceMethod yX5_price ∈ wA := wA_in (wi_38 (List.mem_of_getElem? (i := 20) rfl)) rfl
theorem k_933 : Cond.selects RX5 yX5_price yX5_price ∈ wA := wA_in (wi_38 (List.mem_of_getElem? (i := 21) rfl)) rfl
theorem k_934 : Cond.code yX5_price cX5_price 3 (some .int) ∈ wA := wA_in (wi_38 (List.mem_of_getElem? (i := 22) rfl)) rfl
theorem k_935 : Cond.methodLink RL 124 yX5_spoils ∈ wA := wA_in (wi_38 (List.mem_of_getElem? (i := 23) rfl)) rfl
theorem k_936 : Cond.instanceMethod yX5_spoils ∈ wA := wA_in (wi_39 (List.mem_of_getElem? (i := 0) rfl)) rfl
theorem k_937 : Cond.selects RX5 yX5_spoils yX5_spoils ∈ wA := wA_in (wi_39 (List.mem_of_getElem? (i := 1) rfl)) rfl
theorem k_938 : Cond.code yX5_spoils cX5_spoils 5 (some .int) ∈ wA := wA_in (wi_39 (List.mem_of_getElem? (i := 2) rfl)) rfl
theorem k_939 : Cond.methodLink RL 128 yX5_invites ∈ wA := wA_in (wi_39 (List.mem_of_getElem? (i := 3) rfl)) rfl
theorem k_940 : Cond.instanceMethod yX5_invites ∈ wA := wA_in (wi_39 (List.mem_of_getElem? (i := 4) rfl)) rfl
theorem k_941 : Cond.selects RX5 yX5_invites yX5_invites ∈ wA := wA_in (wi_39 (List.mem_of_getElem? (i := 5) rfl)) rfl
theorem k_942 : Cond.code yX5_invites cX5_invites 7 (some .int) ∈ wA := wA_in (wi_39 (List.mem_of_getElem? (i := 6) rfl)) rfl
theorem k_943 : Cond.methodLink RL 132 yX5_against ∈ wA := wA_in (wi_39 (List.mem_of_getElem? (i := 7) rfl)) rfl
theorem k_944 : Cond.instanceMethod yX5_against ∈ wA := wA_in (wi_39 (List.mem_of_getElem? (i := 8) rfl)) rfl
theorem k_945 : Cond.selects RX5 yX5_against yX5_against ∈ wA := wA_in (wi_39 (List.mem_of_getElem? (i := 9) rfl)) rfl
theorem k_946 : Cond.code yX5_against cX5_against 8 (some .int) ∈ wA := wA_in (wi_39 (List.mem_of_getElem? (i := 10) rfl)) rfl
theorem k_947 : Cond.methodLink RL 136 yX5_minds ∈ wA := wA_in (wi_39 (List.mem_of_getElem? (i := 11) rfl)) rfl
theorem k_948 : Cond.instanceMethod yX5_minds ∈ wA := wA_in (wi_39 (List.mem_of_getElem? (i := 12) rfl)) rfl
theorem k_949 : Cond.selects RX5 yX5_minds yX5_minds ∈ wA := wA_in (wi_39 (List.mem_of_getElem? (i := 13) rfl)) rfl
theorem k_950 : Cond.code yX5_minds cX5_minds 4 (some .int) ∈ wA := wA_in (wi_39 (List.mem_of_getElem? (i := 14) rfl)) rfl
theorem k_951 : Cond.methodLink RL 140 yX5_kind ∈ wA := wA_in (wi_39 (List.mem_of_getElem? (i := 15) rfl)) rfl
theorem k_952 : Cond.instanceMethod yX5_kind ∈ wA := wA_in (wi_39 (List.mem_of_getElem? (i := 16) rfl)) rfl
theorem k_953 : Cond.selects RX5 yX5_kind yX5_kind ∈ wA := wA_in (wi_39 (List.mem_of_getElem? (i := 17) rfl)) rfl
theorem k_954 : Cond.code yX5_kind cX5_kind 7 (some .int) ∈ wA := wA_in (wi_39 (List.mem_of_getElem? (i := 18) rfl)) rfl
theorem k_955 : Cond.methodLink RL 145 yX5_sheet ∈ wA := wA_in (wi_39 (List.mem_of_getElem? (i := 19) rfl)) rfl
theorem k_956 : Cond.instanceMethod yX5_sheet ∈ wA := wA_in (wi_39 (List.mem_of_getElem? (i := 20) rfl)) rfl
theorem k_957 : Cond.selects RX5 yX5_sheet yX5_sheet ∈ wA := wA_in (wi_39 (List.mem_of_getElem? (i := 21) rfl)) rfl
theorem k_958 : Cond.code yX5_sheet cX5_sheet 5 (some .int) ∈ wA := wA_in (wi_39 (List.mem_of_getElem? (i := 22) rfl)) rfl
theorem k_959 : Cond.methodLink RX5 195 yX5_isOne ∈ wA := wA_in (wi_39 (List.mem_of_getElem? (i := 23) rfl)) rfl
theorem k_960 : Cond.static yX5_isOne ∈ wA := wA_in (wi_40 (List.mem_of_getElem? (i := 0) rfl)) rfl
theorem k_961 : Cond.code yX5_isOne cX5_isOne 1 (some .boolean) ∈ wA := wA_in (wi_40 (List.mem_of_getElem? (i := 1) rfl)) rfl
theorem k_962 : Cond.constant RX5 198 (-1000000007) ∈ wA := wA_in (wi_40 (List.mem_of_getElem? (i := 2) rfl)) rfl
theorem k_963 : Cond.methodLink RL 152 yX5_write ∈ wA := wA_in (wi_40 (List.mem_of_getElem? (i := 3) rfl)) rfl
theorem k_964 : Cond.instanceMethod yX5_write ∈ wA := wA_in (wi_40 (List.mem_of_getElem? (i := 4) rfl)) rfl
theorem k_965 : Cond.selects RX5 yX5_write yX5_write ∈ wA := wA_in (wi_40 (List.mem_of_getElem? (i := 5) rfl)) rfl
theorem k_966 : Cond.code yX5_write cX5_write 8 (some .long) ∈ wA := wA_in (wi_40 (List.mem_of_getElem? (i := 6) rfl)) rfl
theorem k_967 : Cond.methodLink RX5 200 yX5_wrong ∈ wA := wA_in (wi_40 (List.mem_of_getElem? (i := 7) rfl)) rfl
theorem k_969 : Cond.instanceMethod yX5_wrong ∈ wA := wA_in (wi_40 (List.mem_of_getElem? (i := 9) rfl)) rfl
theorem k_970 : Cond.code yX5_wrong cX5_wrong 2 (some .int) ∈ wA := wA_in (wi_40 (List.mem_of_getElem? (i := 10) rfl)) rfl
theorem k_971 : Cond.constant RX5 199 (-1000000006) ∈ wA := wA_in (wi_40 (List.mem_of_getElem? (i := 11) rfl)) rfl
theorem k_972 : Cond.methodLink RX5 203 yX5_narrowed ∈ wA := wA_in (wi_40 (List.mem_of_getElem? (i := 12) rfl)) rfl
theorem k_973 : Cond.static yX5_narrowed ∈ wA := wA_in (wi_40 (List.mem_of_getElem? (i := 13) rfl)) rfl
theorem k_974 : Cond.code yX5_narrowed cX5_narrowed 3 (some .long) ∈ wA := wA_in (wi_40 (List.mem_of_getElem? (i := 14) rfl)) rfl
theorem k_975 : Cond.methodLink RL 157 yX5_copy ∈ wA := wA_in (wi_40 (List.mem_of_getElem? (i := 15) rfl)) rfl
theorem k_976 : Cond.instanceMethod yX5_copy ∈ wA := wA_in (wi_40 (List.mem_of_getElem? (i := 16) rfl)) rfl
theorem k_977 : Cond.selects RX5 yX5_copy yX5_copy ∈ wA := wA_in (wi_40 (List.mem_of_getElem? (i := 17) rfl)) rfl
theorem k_978 : Cond.code yX5_copy cX5_copy 7 (some .int) ∈ wA := wA_in (wi_40 (List.mem_of_getElem? (i := 18) rfl)) rfl
theorem k_979 : Cond.methodLink RL 161 yX5_lays ∈ wA := wA_in (wi_40 (List.mem_of_getElem? (i := 19) rfl)) rfl
theorem k_980 : Cond.instanceMethod yX5_lays ∈ wA := wA_in (wi_40 (List.mem_of_getElem? (i := 20) rfl)) rfl
theorem k_981 : Cond.selects RX5 yX5_lays yX5_lays ∈ wA := wA_in (wi_40 (List.mem_of_getElem? (i := 21) rfl)) rfl
theorem k_982 : Cond.code yX5_lays cX5_lays 5 (some .int) ∈ wA := wA_in (wi_40 (List.mem_of_getElem? (i := 22) rfl)) rfl
theorem k_983 : Cond.methodLink RL 165 yX5_book ∈ wA := wA_in (wi_40 (List.mem_of_getElem? (i := 23) rfl)) rfl
theorem k_984 : Cond.instanceMethod yX5_book ∈ wA := wA_in (wi_41 (List.mem_of_getElem? (i := 0) rfl)) rfl
theorem k_985 : Cond.selects RX5 yX5_book yX5_book ∈ wA := wA_in (wi_41 (List.mem_of_getElem? (i := 1) rfl)) rfl
theorem k_986 : Cond.code yX5_book cX5_book 5 (some .int) ∈ wA := wA_in (wi_41 (List.mem_of_getElem? (i := 2) rfl)) rfl
theorem k_987 : Cond.methodLink RL 169 yX5_read ∈ wA := wA_in (wi_41 (List.mem_of_getElem? (i := 3) rfl)) rfl
theorem k_988 : Cond.instanceMethod yX5_read ∈ wA := wA_in (wi_41 (List.mem_of_getElem? (i := 4) rfl)) rfl
theorem k_989 : Cond.selects RX5 yX5_read yX5_read ∈ wA := wA_in (wi_41 (List.mem_of_getElem? (i := 5) rfl)) rfl
theorem k_990 : Cond.code yX5_read cX5_read 7 (some .int) ∈ wA := wA_in (wi_41 (List.mem_of_getElem? (i := 6) rfl)) rfl
theorem k_991 : Cond.methodLink RX5 207 yX5_isRow ∈ wA := wA_in (wi_41 (List.mem_of_getElem? (i := 7) rfl)) rfl
theorem k_993 : Cond.instanceMethod yX5_isRow ∈ wA := wA_in (wi_41 (List.mem_of_getElem? (i := 9) rfl)) rfl
theorem k_994 : Cond.code yX5_isRow cX5_isRow 5 (some .boolean) ∈ wA := wA_in (wi_41 (List.mem_of_getElem? (i := 10) rfl)) rfl
theorem k_995 : Cond.methodLink RL 173 yX5_image ∈ wA := wA_in (wi_41 (List.mem_of_getElem? (i := 11) rfl)) rfl
theorem k_996 : Cond.instanceMethod yX5_image ∈ wA := wA_in (wi_41 (List.mem_of_getElem? (i := 12) rfl)) rfl
theorem k_997 : Cond.selects RX5 yX5_image yX5_image ∈ wA := wA_in (wi_41 (List.mem_of_getElem? (i := 13) rfl)) rfl
theorem k_998 : Cond.code yX5_image cX5_image 2 (some .int) ∈ wA := wA_in (wi_41 (List.mem_of_getElem? (i := 14) rfl)) rfl
theorem k_999 : Cond.methodLink RL 177 yX5_undo ∈ wA := wA_in (wi_41 (List.mem_of_getElem? (i := 15) rfl)) rfl
theorem k_1000 : Cond.instanceMethod yX5_undo ∈ wA := wA_in (wi_41 (List.mem_of_getElem? (i := 16) rfl)) rfl
theorem k_1001 : Cond.selects RX5 yX5_undo yX5_undo ∈ wA := wA_in (wi_41 (List.mem_of_getElem? (i := 17) rfl)) rfl
theorem k_1002 : Cond.code yX5_undo cX5_undo 2 (some .int) ∈ wA := wA_in (wi_41 (List.mem_of_getElem? (i := 18) rfl)) rfl
theorem k_1003 : Cond.methodLink RL 181 yX5_tear ∈ wA := wA_in (wi_41 (List.mem_of_getElem? (i := 19) rfl)) rfl
theorem k_1004 : Cond.instanceMethod yX5_tear ∈ wA := wA_in (wi_41 (List.mem_of_getElem? (i := 20) rfl)) rfl
theorem k_1005 : Cond.selects RX5 yX5_tear yX5_tear ∈ wA := wA_in (wi_41 (List.mem_of_getElem? (i := 21) rfl)) rfl
theorem k_1006 : Cond.code yX5_tear cX5_tear 2 (some .int) ∈ wA := wA_in (wi_41 (List.mem_of_getElem? (i := 22) rfl)) rfl
theorem k_1007 : Cond.methodLink RL 185 yX5_count ∈ wA := wA_in (wi_41 (List.mem_of_getElem? (i := 23) rfl)) rfl
theorem k_1008 : Cond.instanceMethod yX5_count ∈ wA := wA_in (wi_42 (List.mem_of_getElem? (i := 0) rfl)) rfl
theorem k_1009 : Cond.selects RX5 yX5_count yX5_count ∈ wA := wA_in (wi_42 (List.mem_of_getElem? (i := 1) rfl)) rfl
theorem k_1010 : Cond.code yX5_count cX5_count 4 (some .int) ∈ wA := wA_in (wi_42 (List.mem_of_getElem? (i := 2) rfl)) rfl
theorem k_1011 : Cond.methodLink RL 189 yX5_status ∈ wA := wA_in (wi_42 (List.mem_of_getElem? (i := 3) rfl)) rfl
theorem k_1012 : Cond.instanceMethod yX5_status ∈ wA := wA_in (wi_42 (List.mem_of_getElem? (i := 4) rfl)) rfl
theorem k_1013 : Cond.selects RX5 yX5_status yX5_status ∈ wA := wA_in (wi_42 (List.mem_of_getElem? (i := 5) rfl)) rfl
theorem k_1014 : Cond.code yX5_status cX5_status 4 (some .int) ∈ wA := wA_in (wi_42 (List.mem_of_getElem? (i := 6) rfl)) rfl
theorem k_1015 : Cond.constantLong RX5 214 (-1) ∈ wA := wA_in (wi_42 (List.mem_of_getElem? (i := 7) rfl)) rfl
theorem k_1016 : Cond.constantLong RX5 216 (6) ∈ wA := wA_in (wi_42 (List.mem_of_getElem? (i := 8) rfl)) rfl
theorem k_1017 : Cond.constantLong RL 146 (4294967295) ∈ wA := wA_in (wi_42 (List.mem_of_getElem? (i := 9) rfl)) rfl
theorem k_0 : Cond.selects RX4 yX4_found yX4_found ∈ wA := wA_in (wi_0 (List.mem_of_getElem? (i := 0) rfl)) rfl
theorem k_1 : Cond.selects RX2 yX2_anyOf yX2_anyOf ∈ wA := wA_in (wi_0 (List.mem_of_getElem? (i := 1) rfl)) rfl
theorem k_2 : Cond.selects RX2 yX2_allOf yX2_allOf ∈ wA := wA_in (wi_0 (List.mem_of_getElem? (i := 2) rfl)) rfl
theorem k_3 : Cond.selects RX2 yX2_unit yX2_unit ∈ wA := wA_in (wi_0 (List.mem_of_getElem? (i := 3) rfl)) rfl
theorem k_4 : Cond.selects RX2 yX2_sign yX2_sign ∈ wA := wA_in (wi_0 (List.mem_of_getElem? (i := 4) rfl)) rfl
theorem k_5 : Cond.selects RX2 yX2_listsWith yX2_listsWith ∈ wA := wA_in (wi_0 (List.mem_of_getElem? (i := 5) rfl)) rfl
theorem k_6 : Cond.selects RX2 yX2_passes yX2_passes ∈ wA := wA_in (wi_0 (List.mem_of_getElem? (i := 6) rfl)) rfl
theorem k_7 : Cond.selects RX2 yX2_closed yX2_closed ∈ wA := wA_in (wi_0 (List.mem_of_getElem? (i := 7) rfl)) rfl
theorem k_8 : Cond.selects RX2 yX2_fail yX2_fail ∈ wA := wA_in (wi_0 (List.mem_of_getElem? (i := 8) rfl)) rfl
theorem k_9 : Cond.selects RX2 yX2_compared yX2_compared ∈ wA := wA_in (wi_0 (List.mem_of_getElem? (i := 9) rfl)) rfl
theorem k_10 : Cond.selects RX2 yX2_listsWhereOthers yX2_listsWhereOthers ∈ wA := wA_in (wi_0 (List.mem_of_getElem? (i := 10) rfl)) rfl
theorem k_11 : Cond.selects RX3 yX3_callAll yX3_callAll ∈ wA := wA_in (wi_0 (List.mem_of_getElem? (i := 11) rfl)) rfl
theorem k_12 : Cond.selects RX4 yX4_cheapestFor yX4_cheapestFor ∈ wA := wA_in (wi_0 (List.mem_of_getElem? (i := 12) rfl)) rfl
theorem k_13 : Cond.selects RX4 yX4_isCheaper yX4_isCheaper ∈ wA := wA_in (wi_0 (List.mem_of_getElem? (i := 13) rfl)) rfl
theorem k_14 : Cond.selects RX4 yX4_isWellAsked yX4_isWellAsked ∈ wA := wA_in (wi_0 (List.mem_of_getElem? (i := 14) rfl)) rfl
theorem k_15 : Cond.selects RX4 yX4_sheetLack yX4_sheetLack ∈ wA := wA_in (wi_0 (List.mem_of_getElem? (i := 15) rfl)) rfl
theorem k_16 : Cond.selects RX1 yX1_bitsAt yX1_bitsAt ∈ wA := wA_in (wi_0 (List.mem_of_getElem? (i := 16) rfl)) rfl
theorem k_17 : Cond.selects RX4 yX4_explains yX4_explains ∈ wA := wA_in (wi_0 (List.mem_of_getElem? (i := 17) rfl)) rfl
theorem k_18 : Cond.selects RX5 yX5_finds yX5_finds ∈ wA := wA_in (wi_0 (List.mem_of_getElem? (i := 18) rfl)) rfl
theorem k_19 : Cond.selects RX5 yX5_isGuest yX5_isGuest ∈ wA := wA_in (wi_0 (List.mem_of_getElem? (i := 19) rfl)) rfl
theorem k_20 : Cond.selects RX5 yX5_comesBy yX5_comesBy ∈ wA := wA_in (wi_0 (List.mem_of_getElem? (i := 20) rfl)) rfl
theorem k_21 : Cond.selects RX5 yX5_its yX5_its ∈ wA := wA_in (wi_0 (List.mem_of_getElem? (i := 21) rfl)) rfl
theorem k_22 : Cond.selects RX5 yX5_holds yX5_holds ∈ wA := wA_in (wi_0 (List.mem_of_getElem? (i := 22) rfl)) rfl
theorem k_23 : Cond.selects RX5 yX5_becomes yX5_becomes ∈ wA := wA_in (wi_0 (List.mem_of_getElem? (i := 23) rfl)) rfl
theorem k_24 : Cond.selects RX5 yX5_any yX5_any ∈ wA := wA_in (wi_1 (List.mem_of_getElem? (i := 0) rfl)) rfl
theorem k_25 : Cond.selects RX5 yX5_every yX5_every ∈ wA := wA_in (wi_1 (List.mem_of_getElem? (i := 1) rfl)) rfl
theorem k_26 : Cond.selects RX5 yX5_unit yX5_unit ∈ wA := wA_in (wi_1 (List.mem_of_getElem? (i := 2) rfl)) rfl
theorem k_27 : Cond.selects RX5 yX5_look yX5_look ∈ wA := wA_in (wi_1 (List.mem_of_getElem? (i := 3) rfl)) rfl
theorem k_28 : Cond.selects RX5 yX5_lay yX5_lay ∈ wA := wA_in (wi_1 (List.mem_of_getElem? (i := 4) rfl)) rfl
theorem k_29 : Cond.selects RX5 yX5_counted yX5_counted ∈ wA := wA_in (wi_1 (List.mem_of_getElem? (i := 5) rfl)) rfl
theorem k_30 : Cond.selects RX5 yX5_faulty yX5_faulty ∈ wA := wA_in (wi_1 (List.mem_of_getElem? (i := 6) rfl)) rfl
theorem k_31 : Cond.selects RX5 yX5_opens yX5_opens ∈ wA := wA_in (wi_1 (List.mem_of_getElem? (i := 7) rfl)) rfl
theorem k_32 : Cond.selects RX5 yX5_isList yX5_isList ∈ wA := wA_in (wi_1 (List.mem_of_getElem? (i := 8) rfl)) rfl
theorem k_33 : Cond.selects RX5 yX5_lists yX5_lists ∈ wA := wA_in (wi_1 (List.mem_of_getElem? (i := 9) rfl)) rfl
theorem k_34 : Cond.selects RX5 yX5_would yX5_would ∈ wA := wA_in (wi_1 (List.mem_of_getElem? (i := 10) rfl)) rfl
theorem k_35 : Cond.selects RX5 yX5_costOf yX5_costOf ∈ wA := wA_in (wi_1 (List.mem_of_getElem? (i := 11) rfl)) rfl
theorem k_36 : Cond.selects RX5 yX5_calling yX5_calling ∈ wA := wA_in (wi_1 (List.mem_of_getElem? (i := 12) rfl)) rfl
theorem k_37 : Cond.selects RX5 yX5_called yX5_called ∈ wA := wA_in (wi_1 (List.mem_of_getElem? (i := 13) rfl)) rfl
theorem k_38 : Cond.selects RX5 yX5_behind yX5_behind ∈ wA := wA_in (wi_1 (List.mem_of_getElem? (i := 14) rfl)) rfl
theorem k_39 : Cond.selects RX5 yX5_looksAll yX5_looksAll ∈ wA := wA_in (wi_1 (List.mem_of_getElem? (i := 15) rfl)) rfl
theorem k_40 : Cond.selects RX5 yX5_looksFar yX5_looksFar ∈ wA := wA_in (wi_1 (List.mem_of_getElem? (i := 16) rfl)) rfl
theorem k_41 : Cond.selects RX5 yX5_orNone yX5_orNone ∈ wA := wA_in (wi_1 (List.mem_of_getElem? (i := 17) rfl)) rfl
theorem k_42 : Cond.selects RX5 yX5_manySettled yX5_manySettled ∈ wA := wA_in (wi_1 (List.mem_of_getElem? (i := 18) rfl)) rfl
theorem k_43 : Cond.selects RX5 yX5_looksWhere yX5_looksWhere ∈ wA := wA_in (wi_1 (List.mem_of_getElem? (i := 19) rfl)) rfl
theorem k_44 : Cond.selects RX5 yX5_lastOf yX5_lastOf ∈ wA := wA_in (wi_1 (List.mem_of_getElem? (i := 20) rfl)) rfl
theorem k_45 : Cond.selects RX5 yX5_bestBuy yX5_bestBuy ∈ wA := wA_in (wi_1 (List.mem_of_getElem? (i := 21) rfl)) rfl
theorem k_46 : Cond.selects RX5 yX5_wrong yX5_wrong ∈ wA := wA_in (wi_1 (List.mem_of_getElem? (i := 22) rfl)) rfl
theorem k_47 : Cond.selects RX5 yX5_isRow yX5_isRow ∈ wA := wA_in (wi_1 (List.mem_of_getElem? (i := 23) rfl)) rfl
theorem inX0 : ∀ w ∈ u_ws RX0 TX0 7, w ∈ wA := by
  show ∀ w ∈ [(Jvm.Cond.lays "ComeIfShe$Party" "ComeIfShe$Party" "size" "I"), (Jvm.Cond.lays "ComeIfShe$Party" "ComeIfShe$Party" "list" "I"), (Jvm.Cond.lays "ComeIfShe$Party" "ComeIfShe$Party" "told" "I"), (Jvm.Cond.laysFinal "ComeIfShe$Party" "ComeIfShe$Party" "kinds" "[I"), (Jvm.Cond.laysFinal "ComeIfShe$Party" "ComeIfShe$Party" "costs" "[I"), (Jvm.Cond.laysFinal "ComeIfShe$Party" "ComeIfShe$Party" "terms" "[J"), (Jvm.Cond.laysFinal "ComeIfShe$Party" "ComeIfShe$Party" "known" "[I")], w ∈ wA
  exact List.forall_mem_cons.mpr ⟨wA_in (wi_3 (List.mem_of_getElem? (i := 22) rfl)) rfl, List.forall_mem_cons.mpr ⟨wA_in (wi_4 (List.mem_of_getElem? (i := 0) rfl)) rfl, List.forall_mem_cons.mpr ⟨wA_in (wi_4 (List.mem_of_getElem? (i := 2) rfl)) rfl, List.forall_mem_cons.mpr ⟨wA_in (wi_4 (List.mem_of_getElem? (i := 4) rfl)) rfl, List.forall_mem_cons.mpr ⟨wA_in (wi_4 (List.mem_of_getElem? (i := 6) rfl)) rfl, List.forall_mem_cons.mpr ⟨wA_in (wi_4 (List.mem_of_getElem? (i := 8) rfl)) rfl, List.forall_mem_cons.mpr ⟨wA_in (wi_4 (List.mem_of_getElem? (i := 10) rfl)) rfl, fun _ h => absurd h List.not_mem_nil⟩⟩⟩⟩⟩⟩⟩
theorem inX1 : ∀ w ∈ u_ws RX1 TX1 3, w ∈ wA := by
  show ∀ w ∈ [(Jvm.Cond.lays "ComeIfShe$Sheet" "ComeIfShe$Sheet" "bits" "I"), (Jvm.Cond.lays "ComeIfShe$Sheet" "ComeIfShe$Sheet" "size" "I"), (Jvm.Cond.laysFinal "ComeIfShe$Sheet" "ComeIfShe$Sheet" "numbers" "[J")], w ∈ wA
  exact List.forall_mem_cons.mpr ⟨wA_in (wi_6 (List.mem_of_getElem? (i := 23) rfl)) rfl, List.forall_mem_cons.mpr ⟨wA_in (wi_7 (List.mem_of_getElem? (i := 1) rfl)) rfl, List.forall_mem_cons.mpr ⟨wA_in (wi_7 (List.mem_of_getElem? (i := 3) rfl)) rfl, fun _ h => absurd h List.not_mem_nil⟩⟩⟩
theorem inX2 : ∀ w ∈ u_ws RX2 TX2 6, w ∈ wA := by
  show ∀ w ∈ [(Jvm.Cond.laysFinal "ComeIfShe$Tape" "ComeIfShe$Tape" "bytes" "[I"), (Jvm.Cond.lays "ComeIfShe$Tape" "ComeIfShe$Tape" "length" "I"), (Jvm.Cond.lays "ComeIfShe$Tape" "ComeIfShe$Tape" "place" "I"), (Jvm.Cond.lays "ComeIfShe$Tape" "ComeIfShe$Tape" "fault" "I"), (Jvm.Cond.lays "ComeIfShe$Tape" "ComeIfShe$Tape" "teller" "I"), (Jvm.Cond.lays "ComeIfShe$Tape" "ComeIfShe$Tape" "word" "I")], w ∈ wA
  exact List.forall_mem_cons.mpr ⟨wA_in (wi_5 (List.mem_of_getElem? (i := 5) rfl)) rfl, List.forall_mem_cons.mpr ⟨wA_in (wi_5 (List.mem_of_getElem? (i := 7) rfl)) rfl, List.forall_mem_cons.mpr ⟨wA_in (wi_5 (List.mem_of_getElem? (i := 9) rfl)) rfl, List.forall_mem_cons.mpr ⟨wA_in (wi_5 (List.mem_of_getElem? (i := 11) rfl)) rfl, List.forall_mem_cons.mpr ⟨wA_in (wi_5 (List.mem_of_getElem? (i := 13) rfl)) rfl, List.forall_mem_cons.mpr ⟨wA_in (wi_5 (List.mem_of_getElem? (i := 15) rfl)) rfl, fun _ h => absurd h List.not_mem_nil⟩⟩⟩⟩⟩⟩
theorem inX3 : ∀ w ∈ u_ws RX3 TX3 3, w ∈ wA := by
  show ∀ w ∈ [(Jvm.Cond.laysFinal "ComeIfShe$Telephone" "ComeIfShe$Telephone" "queue" "[I"), (Jvm.Cond.laysFinal "ComeIfShe$Telephone" "ComeIfShe$Telephone" "callsTo" "[I"), (Jvm.Cond.laysFinal "ComeIfShe$Telephone" "ComeIfShe$Telephone" "firstCalled" "[I")], w ∈ wA
  exact List.forall_mem_cons.mpr ⟨wA_in (wi_6 (List.mem_of_getElem? (i := 3) rfl)) rfl, List.forall_mem_cons.mpr ⟨wA_in (wi_6 (List.mem_of_getElem? (i := 5) rfl)) rfl, List.forall_mem_cons.mpr ⟨wA_in (wi_6 (List.mem_of_getElem? (i := 7) rfl)) rfl, fun _ h => absurd h List.not_mem_nil⟩⟩⟩
theorem inX4 : ∀ w ∈ u_ws RX4 TX4 7, w ∈ wA := by
  show ∀ w ∈ [(Jvm.Cond.laysFinal "ComeIfShe" "ComeIfShe" "party" "LComeIfShe$Party;"), (Jvm.Cond.laysFinal "ComeIfShe" "ComeIfShe" "kept" "LComeIfShe$Party;"), (Jvm.Cond.lays "ComeIfShe" "ComeIfShe" "isKept" "Z"), (Jvm.Cond.laysFinal "ComeIfShe" "ComeIfShe" "tape" "LComeIfShe$Tape;"), (Jvm.Cond.laysFinal "ComeIfShe" "ComeIfShe" "telephone" "LComeIfShe$Telephone;"), (Jvm.Cond.laysFinal "ComeIfShe" "ComeIfShe" "sheets" "[LComeIfShe$Sheet;"), (Jvm.Cond.laysFinal "ComeIfShe" "ComeIfShe" "findings" "[I")], w ∈ wA
  exact List.forall_mem_cons.mpr ⟨wA_in (wi_7 (List.mem_of_getElem? (i := 13) rfl)) rfl, List.forall_mem_cons.mpr ⟨wA_in (wi_7 (List.mem_of_getElem? (i := 15) rfl)) rfl, List.forall_mem_cons.mpr ⟨wA_in (wi_7 (List.mem_of_getElem? (i := 17) rfl)) rfl, List.forall_mem_cons.mpr ⟨wA_in (wi_7 (List.mem_of_getElem? (i := 19) rfl)) rfl, List.forall_mem_cons.mpr ⟨wA_in (wi_7 (List.mem_of_getElem? (i := 21) rfl)) rfl, List.forall_mem_cons.mpr ⟨wA_in (wi_7 (List.mem_of_getElem? (i := 23) rfl)) rfl, List.forall_mem_cons.mpr ⟨wA_in (wi_8 (List.mem_of_getElem? (i := 1) rfl)) rfl, fun _ h => absurd h List.not_mem_nil⟩⟩⟩⟩⟩⟩⟩
theorem inX5 : ∀ w ∈ u_ws RX5 TX5 18, w ∈ wA := by
  show ∀ w ∈ [(Jvm.Cond.laysFinal "ComeIfSheModel" "ComeIfSheModel" "s" "[I"), (Jvm.Cond.laysFinal "ComeIfSheModel" "ComeIfSheModel" "keptS" "[I"), (Jvm.Cond.laysFinal "ComeIfSheModel" "ComeIfSheModel" "statuses" "[I"), (Jvm.Cond.lays "ComeIfSheModel" "ComeIfSheModel" "isKept" "Z"), (Jvm.Cond.laysFinal "ComeIfSheModel" "ComeIfSheModel" "pile" "[Z"), (Jvm.Cond.laysFinal "ComeIfSheModel" "ComeIfSheModel" "tape" "[I"), (Jvm.Cond.laysFinal "ComeIfSheModel" "ComeIfSheModel" "steps" "[I"), (Jvm.Cond.lays "ComeIfSheModel" "ComeIfSheModel" "taped" "I"), (Jvm.Cond.lays "ComeIfSheModel" "ComeIfSheModel" "at" "I"), (Jvm.Cond.lays "ComeIfSheModel" "ComeIfSheModel" "fault" "I"), (Jvm.Cond.lays "ComeIfSheModel" "ComeIfSheModel" "laid" "I"), (Jvm.Cond.lays "ComeIfSheModel" "ComeIfSheModel" "open" "I"), (Jvm.Cond.laysFinal "ComeIfSheModel" "ComeIfSheModel" "wish" "[I"), (Jvm.Cond.laysFinal "ComeIfSheModel" "ComeIfSheModel" "mark" "[I"), (Jvm.Cond.laysFinal "ComeIfSheModel" "ComeIfSheModel" "bitsOf" "[I"), (Jvm.Cond.laysFinal "ComeIfSheModel" "ComeIfSheModel" "sizeOf" "[I"), (Jvm.Cond.laysFinal "ComeIfSheModel" "ComeIfSheModel" "number" "[J"), (Jvm.Cond.laysFinal "ComeIfSheModel" "ComeIfSheModel" "moved" "[J")], w ∈ wA
  exact List.forall_mem_cons.mpr ⟨wA_in (wi_27 (List.mem_of_getElem? (i := 6) rfl)) rfl, List.forall_mem_cons.mpr ⟨wA_in (wi_27 (List.mem_of_getElem? (i := 8) rfl)) rfl, List.forall_mem_cons.mpr ⟨wA_in (wi_27 (List.mem_of_getElem? (i := 10) rfl)) rfl, List.forall_mem_cons.mpr ⟨wA_in (wi_27 (List.mem_of_getElem? (i := 12) rfl)) rfl, List.forall_mem_cons.mpr ⟨wA_in (wi_27 (List.mem_of_getElem? (i := 14) rfl)) rfl, List.forall_mem_cons.mpr ⟨wA_in (wi_27 (List.mem_of_getElem? (i := 16) rfl)) rfl, List.forall_mem_cons.mpr ⟨wA_in (wi_27 (List.mem_of_getElem? (i := 18) rfl)) rfl, List.forall_mem_cons.mpr ⟨wA_in (wi_27 (List.mem_of_getElem? (i := 20) rfl)) rfl, List.forall_mem_cons.mpr ⟨wA_in (wi_27 (List.mem_of_getElem? (i := 22) rfl)) rfl, List.forall_mem_cons.mpr ⟨wA_in (wi_28 (List.mem_of_getElem? (i := 0) rfl)) rfl, List.forall_mem_cons.mpr ⟨wA_in (wi_28 (List.mem_of_getElem? (i := 2) rfl)) rfl, List.forall_mem_cons.mpr ⟨wA_in (wi_28 (List.mem_of_getElem? (i := 4) rfl)) rfl, List.forall_mem_cons.mpr ⟨wA_in (wi_28 (List.mem_of_getElem? (i := 6) rfl)) rfl, List.forall_mem_cons.mpr ⟨wA_in (wi_28 (List.mem_of_getElem? (i := 8) rfl)) rfl, List.forall_mem_cons.mpr ⟨wA_in (wi_28 (List.mem_of_getElem? (i := 10) rfl)) rfl, List.forall_mem_cons.mpr ⟨wA_in (wi_28 (List.mem_of_getElem? (i := 12) rfl)) rfl, List.forall_mem_cons.mpr ⟨wA_in (wi_28 (List.mem_of_getElem? (i := 14) rfl)) rfl, List.forall_mem_cons.mpr ⟨wA_in (wi_28 (List.mem_of_getElem? (i := 16) rfl)) rfl, fun _ h => absurd h List.not_mem_nil⟩⟩⟩⟩⟩⟩⟩⟩⟩⟩⟩⟩⟩⟩⟩⟩⟩⟩
theorem miX4_init : q_MI yX4_init cX4_init 2 0 := ⟨k_63, k_62, k_49, by decide +kernel, by decide +kernel⟩
theorem miX0_init : q_MI yX0_init cX0_init 1 0 := ⟨k_71, k_70, k_50, by decide +kernel, by decide +kernel⟩
theorem msJ7_fill_d0a16 : q_MS yJ7_fill_d0a16 cJ7_fill_d0a16 5 none 2 := ⟨k_76, k_75, k_51, by decide +kernel⟩
theorem msJ7_fill_53178 : q_MS yJ7_fill_53178 cJ7_fill_53178 4 none 2 := ⟨k_79, k_78, k_51, by decide +kernel⟩
theorem miX2_init : q_MI yX2_init cX2_init 1 0 := ⟨k_115, k_114, k_52, by decide +kernel, by decide +kernel⟩
theorem miX3_init : q_MI yX3_init cX3_init 1 0 := ⟨k_142, k_141, k_53, by decide +kernel, by decide +kernel⟩
theorem miX1_init : q_MI yX1_init cX1_init 1 0 := ⟨k_159, k_158, k_54, by decide +kernel, by decide +kernel⟩
theorem mvX4_guest : q_MV yX4_guest cX4_guest 3 (some .int) RX4 2 := ⟨k_199, k_197, k_198, k_49, by decide +kernel⟩
theorem msX4_isKind : q_MS yX4_isKind cX4_isKind 1 (some .boolean) 1 := ⟨k_202, k_201, k_49, by decide +kernel⟩
theorem msX4_isCost : q_MS yX4_isCost cX4_isCost 1 (some .boolean) 1 := ⟨k_205, k_204, k_49, by decide +kernel⟩
theorem mvX4_found : q_MV yX4_found cX4_found 3 (some .int) RX4 1 := ⟨k_210, k_209, k_0, k_49, by decide +kernel⟩
theorem mvX0_welcome : q_MV yX0_welcome cX0_welcome 4 (some .int) RX0 2 := ⟨k_214, k_212, k_213, k_50, by decide +kernel⟩
theorem mvX4_of : q_MV yX4_of cX4_of 3 (some .int) RX4 2 := ⟨k_219, k_217, k_218, k_49, by decide +kernel⟩
theorem mvX0_has : q_MV yX0_has cX0_has 2 (some .boolean) RX0 1 := ⟨k_223, k_221, k_222, k_50, by decide +kernel⟩
theorem mvX0_comers : q_MV yX0_comers cX0_comers 5 (some .int) RX0 1 := ⟨k_227, k_225, k_226, k_50, by decide +kernel⟩
theorem mvX0_wouldComeAs : q_MV yX0_wouldComeAs cX0_wouldComeAs 6 (some .boolean) RX0 3 := ⟨k_231, k_229, k_230, k_50, by decide +kernel⟩
theorem mvX0_termHolds : q_MV yX0_termHolds cX0_termHolds 4 (some .boolean) RX0 2 := ⟨k_235, k_233, k_234, k_50, by decide +kernel⟩
theorem msX4_othersOn : q_MS yX4_othersOn cX4_othersOn 2 (some .int) 2 := ⟨k_238, k_237, k_49, by decide +kernel⟩
theorem msJ6_bitCount_0f7a4 : q_MS yJ6_bitCount_0f7a4 cJ6_bitCount_0f7a4 1 (some .int) 1 := ⟨k_241, k_240, k_56, by decide +kernel⟩
theorem msX4_oneIf : q_MS yX4_oneIf cX4_oneIf 1 (some .int) 1 := ⟨k_248, k_247, k_49, by decide +kernel⟩
theorem mvX4_cost : q_MV yX4_cost cX4_cost 4 (some .int) RX4 2 := ⟨k_253, k_251, k_252, k_49, by decide +kernel⟩
theorem mvX4_turn : q_MV yX4_turn cX4_turn 3 (some .int) RX4 2 := ⟨k_257, k_255, k_256, k_49, by decide +kernel⟩
theorem mvX0_turnInto : q_MV yX0_turnInto cX0_turnInto 4 (some .int) RX0 2 := ⟨k_261, k_259, k_260, k_50, by decide +kernel⟩
theorem mvX4_as : q_MV yX4_as cX4_as 3 (some .int) RX4 2 := ⟨k_265, k_263, k_264, k_49, by decide +kernel⟩
theorem msX4_isUnder : q_MS yX4_isUnder cX4_isUnder 2 (some .boolean) 2 := ⟨k_268, k_267, k_49, by decide +kernel⟩
theorem mvX4_term : q_MV yX4_term cX4_term 6 (some .int) RX4 1 := ⟨k_273, k_271, k_272, k_49, by decide +kernel⟩
theorem mvX2_holdsBy : q_MV yX2_holdsBy cX2_holdsBy 5 (some .long) RX2 2 := ⟨k_277, k_275, k_276, k_52, by decide +kernel⟩
theorem mvX2_anyOf : q_MV yX2_anyOf cX2_anyOf 5 (some .long) RX2 1 := ⟨k_281, k_280, k_1, k_52, by decide +kernel⟩
theorem mvX2_allOf : q_MV yX2_allOf cX2_allOf 5 (some .long) RX2 1 := ⟨k_285, k_284, k_2, k_52, by decide +kernel⟩
theorem mvX2_unit : q_MV yX2_unit cX2_unit 3 (some .long) RX2 1 := ⟨k_289, k_288, k_3, k_52, by decide +kernel⟩
theorem mvX2_sign : q_MV yX2_sign cX2_sign 1 (some .int) RX2 0 := ⟨k_293, k_292, k_4, k_52, by decide +kernel⟩
theorem mvX2_listsWith : q_MV yX2_listsWith cX2_listsWith 2 (some .long) RX2 1 := ⟨k_297, k_296, k_5, k_52, by decide +kernel⟩
theorem msX4_isOn : q_MS yX4_isOn cX4_isOn 2 (some .boolean) 2 := ⟨k_302, k_301, k_49, by decide +kernel⟩
theorem mvX2_passes : q_MV yX2_passes cX2_passes 3 (some .boolean) RX2 1 := ⟨k_307, k_306, k_6, k_52, by decide +kernel⟩
theorem mvX2_closed : q_MV yX2_closed cX2_closed 3 (some .long) RX2 1 := ⟨k_312, k_311, k_7, k_52, by decide +kernel⟩
theorem mvX2_fail : q_MV yX2_fail cX2_fail 1 (some .long) RX2 0 := ⟨k_316, k_315, k_8, k_52, by decide +kernel⟩
theorem mvX2_compared : q_MV yX2_compared cX2_compared 3 (some .long) RX2 0 := ⟨k_320, k_319, k_9, k_52, by decide +kernel⟩
theorem mvX2_listsWhereOthers : q_MV yX2_listsWhereOthers cX2_listsWhereOthers 9 (some .long) RX2 2 := ⟨k_324, k_323, k_10, k_52, by decide +kernel⟩
theorem mvX0_tell : q_MV yX0_tell cX0_tell 5 none RX0 3 := ⟨k_329, k_327, k_328, k_50, by decide +kernel⟩
theorem mvX4_feed : q_MV yX4_feed cX4_feed 3 (some .int) RX4 2 := ⟨k_333, k_331, k_332, k_49, by decide +kernel⟩
theorem mvX2_append : q_MV yX2_append cX2_append 4 (some .int) RX2 2 := ⟨k_337, k_335, k_336, k_52, by decide +kernel⟩
theorem mvX4_wipe : q_MV yX4_wipe cX4_wipe 2 (some .int) RX4 0 := ⟨k_341, k_339, k_340, k_49, by decide +kernel⟩
theorem mvX4_list : q_MV yX4_list cX4_list 3 (some .int) RX4 1 := ⟨k_345, k_343, k_344, k_49, by decide +kernel⟩
theorem mvX0_isSet : q_MV yX0_isSet cX0_isSet 2 (some .boolean) RX0 1 := ⟨k_349, k_347, k_348, k_50, by decide +kernel⟩
theorem mvX0_lists : q_MV yX0_lists cX0_lists 1 (some .int) RX0 0 := ⟨k_353, k_351, k_352, k_50, by decide +kernel⟩
theorem mvX4_now : q_MV yX4_now cX4_now 2 (some .int) RX4 1 := ⟨k_357, k_355, k_356, k_49, by decide +kernel⟩
theorem mvX0_isSettled : q_MV yX0_isSettled cX0_isSettled 2 (some .boolean) RX0 1 := ⟨k_361, k_359, k_360, k_50, by decide +kernel⟩
theorem mvX0_costsOf : q_MV yX0_costsOf cX0_costsOf 4 (some .int) RX0 1 := ⟨k_366, k_364, k_365, k_50, by decide +kernel⟩
theorem mvX4_call : q_MV yX4_call cX4_call 2 (some .int) RX4 1 := ⟨k_371, k_369, k_370, k_49, by decide +kernel⟩
theorem mvX0_ringUp : q_MV yX0_ringUp cX0_ringUp 3 (some .int) RX0 1 := ⟨k_375, k_373, k_374, k_50, by decide +kernel⟩
theorem mvX0_called : q_MV yX0_called cX0_called 3 (some .int) RX0 2 := ⟨k_379, k_377, k_378, k_50, by decide +kernel⟩
theorem mvX4_calls : q_MV yX4_calls cX4_calls 5 (some .int) RX4 1 := ⟨k_384, k_382, k_383, k_49, by decide +kernel⟩
theorem mvX4_rounds : q_MV yX4_rounds cX4_rounds 2 (some .int) RX4 1 := ⟨k_388, k_386, k_387, k_49, by decide +kernel⟩
theorem mvX0_behind : q_MV yX0_behind cX0_behind 5 (some .int) RX0 2 := ⟨k_392, k_390, k_391, k_50, by decide +kernel⟩
theorem mvX4_on : q_MV yX4_on cX4_on 2 (some .int) RX4 1 := ⟨k_397, k_395, k_396, k_49, by decide +kernel⟩
theorem mvX4_when : q_MV yX4_when cX4_when 3 (some .int) RX4 0 := ⟨k_401, k_399, k_400, k_49, by decide +kernel⟩
theorem mvX4_ring : q_MV yX4_ring cX4_ring 3 (some .int) RX4 1 := ⟨k_406, k_404, k_405, k_49, by decide +kernel⟩
theorem mvX0_ringLength : q_MV yX0_ringLength cX0_ringLength 5 (some .int) RX0 0 := ⟨k_410, k_408, k_409, k_50, by decide +kernel⟩
theorem mvX0_roundsToRing : q_MV yX0_roundsToRing cX0_roundsToRing 6 (some .int) RX0 1 := ⟨k_415, k_413, k_414, k_50, by decide +kernel⟩
theorem mvX4_fewest : q_MV yX4_fewest cX4_fewest 2 (some .int) RX4 0 := ⟨k_419, k_417, k_418, k_49, by decide +kernel⟩
theorem mvX3_nearestSettled : q_MV yX3_nearestSettled cX3_nearestSettled 5 (some .int) RX3 1 := ⟨k_423, k_421, k_422, k_53, by decide +kernel⟩
theorem mvX3_callAll : q_MV yX3_callAll cX3_callAll 7 (some .int) RX3 3 := ⟨k_429, k_428, k_11, k_53, by decide +kernel⟩
theorem mvX3_callsTo : q_MV yX3_callsTo cX3_callsTo 2 (some .int) RX3 1 := ⟨k_434, k_432, k_433, k_53, by decide +kernel⟩
theorem mvX4_first : q_MV yX4_first cX4_first 3 (some .int) RX4 0 := ⟨k_438, k_436, k_437, k_49, by decide +kernel⟩
theorem mvX3_firstCalledTo : q_MV yX3_firstCalledTo cX3_firstCalledTo 2 (some .int) RX3 1 := ⟨k_442, k_440, k_441, k_53, by decide +kernel⟩
theorem mvX4_settled : q_MV yX4_settled cX4_settled 3 (some .int) RX4 0 := ⟨k_446, k_444, k_445, k_49, by decide +kernel⟩
theorem mvX4_ith : q_MV yX4_ith cX4_ith 4 (some .int) RX4 1 := ⟨k_451, k_449, k_450, k_49, by decide +kernel⟩
theorem mvX4_sure : q_MV yX4_sure cX4_sure 7 (some .int) RX4 1 := ⟨k_455, k_453, k_454, k_49, by decide +kernel⟩
theorem mvX0_everyone : q_MV yX0_everyone cX0_everyone 1 (some .int) RX0 0 := ⟨k_459, k_457, k_458, k_50, by decide +kernel⟩
theorem msJ9_max_7cf53 : q_MS yJ9_max_7cf53 cJ9_max_7cf53 2 (some .int) 2 := ⟨k_462, k_461, k_57, by decide +kernel⟩
theorem msJ9_min_7cf53 : q_MS yJ9_min_7cf53 cJ9_min_7cf53 2 (some .int) 2 := ⟨k_465, k_464, k_57, by decide +kernel⟩
theorem mvX4_basin : q_MV yX4_basin cX4_basin 3 (some .int) RX4 0 := ⟨k_469, k_467, k_468, k_49, by decide +kernel⟩
theorem mvX4_odds : q_MV yX4_odds cX4_odds 9 (some .long) RX4 2 := ⟨k_473, k_471, k_472, k_49, by decide +kernel⟩
theorem mvX4_last : q_MV yX4_last cX4_last 2 (some .int) RX4 1 := ⟨k_478, k_476, k_477, k_49, by decide +kernel⟩
theorem mvX0_lastOf : q_MV yX0_lastOf cX0_lastOf 6 (some .int) RX0 2 := ⟨k_482, k_480, k_481, k_50, by decide +kernel⟩
theorem mvX4_buys : q_MV yX4_buys cX4_buys 3 (some .int) RX4 1 := ⟨k_486, k_484, k_485, k_49, by decide +kernel⟩
theorem mvX4_cheapestFor : q_MV yX4_cheapestFor cX4_cheapestFor 5 (some .int) RX4 1 := ⟨k_490, k_489, k_12, k_49, by decide +kernel⟩
theorem mvX4_isCheaper : q_MV yX4_isCheaper cX4_isCheaper 5 (some .boolean) RX4 2 := ⟨k_494, k_493, k_13, k_49, by decide +kernel⟩
theorem mvX4_price : q_MV yX4_price cX4_price 3 (some .int) RX4 1 := ⟨k_498, k_496, k_497, k_49, by decide +kernel⟩
theorem mvX4_spoils : q_MV yX4_spoils cX4_spoils 5 (some .int) RX4 0 := ⟨k_502, k_500, k_501, k_49, by decide +kernel⟩
theorem mvX4_invites : q_MV yX4_invites cX4_invites 6 (some .int) RX4 2 := ⟨k_506, k_504, k_505, k_49, by decide +kernel⟩
theorem mvX4_isWellAsked : q_MV yX4_isWellAsked cX4_isWellAsked 6 (some .boolean) RX4 3 := ⟨k_510, k_509, k_14, k_49, by decide +kernel⟩
theorem mvX4_against : q_MV yX4_against cX4_against 9 (some .int) RX4 2 := ⟨k_514, k_512, k_513, k_49, by decide +kernel⟩
theorem mvX4_minds : q_MV yX4_minds cX4_minds 5 (some .int) RX4 1 := ⟨k_519, k_517, k_518, k_49, by decide +kernel⟩
theorem mvX4_kind : q_MV yX4_kind cX4_kind 6 (some .int) RX4 1 := ⟨k_523, k_521, k_522, k_49, by decide +kernel⟩
theorem mvX0_settledAs : q_MV yX0_settledAs cX0_settledAs 5 (some .int) RX0 2 := ⟨k_527, k_525, k_526, k_50, by decide +kernel⟩
theorem mvX0_comersAs : q_MV yX0_comersAs cX0_comersAs 5 (some .int) RX0 3 := ⟨k_531, k_529, k_530, k_50, by decide +kernel⟩
theorem mvX4_sheet : q_MV yX4_sheet cX4_sheet 4 (some .int) RX4 3 := ⟨k_535, k_533, k_534, k_49, by decide +kernel⟩
theorem msX4_isSheet : q_MS yX4_isSheet cX4_isSheet 1 (some .boolean) 1 := ⟨k_538, k_537, k_49, by decide +kernel⟩
theorem mvX1_lay : q_MV yX1_lay cX1_lay 3 (some .int) RX1 2 := ⟨k_543, k_541, k_542, k_54, by decide +kernel⟩
theorem mvX4_write : q_MV yX4_write cX4_write 6 (some .long) RX4 3 := ⟨k_548, k_546, k_547, k_49, by decide +kernel⟩
theorem mvX4_sheetLack : q_MV yX4_sheetLack cX4_sheetLack 2 (some .int) RX4 1 := ⟨k_552, k_551, k_15, k_49, by decide +kernel⟩
theorem mvX1_isMissing : q_MV yX1_isMissing cX1_isMissing 1 (some .boolean) RX1 0 := ⟨k_556, k_554, k_555, k_54, by decide +kernel⟩
theorem mvX1_put : q_MV yX1_put cX1_put 6 (some .long) RX1 2 := ⟨k_561, k_559, k_560, k_54, by decide +kernel⟩
theorem mvX4_copy : q_MV yX4_copy cX4_copy 6 (some .int) RX4 5 := ⟨k_565, k_563, k_564, k_49, by decide +kernel⟩
theorem mvX1_hasRun : q_MV yX1_hasRun cX1_hasRun 3 (some .boolean) RX1 2 := ⟨k_569, k_567, k_568, k_54, by decide +kernel⟩
theorem mvX4_lays : q_MV yX4_lays cX4_lays 5 (some .int) RX4 1 := ⟨k_576, k_574, k_575, k_49, by decide +kernel⟩
theorem mvX4_book : q_MV yX4_book cX4_book 5 (some .int) RX4 1 := ⟨k_580, k_578, k_579, k_49, by decide +kernel⟩
theorem mvX4_read : q_MV yX4_read cX4_read 6 (some .int) RX4 1 := ⟨k_584, k_582, k_583, k_49, by decide +kernel⟩
theorem mvX1_holdsOnly : q_MV yX1_holdsOnly cX1_holdsOnly 3 (some .boolean) RX1 1 := ⟨k_588, k_586, k_587, k_54, by decide +kernel⟩
theorem mvX1_bitsAt : q_MV yX1_bitsAt cX1_bitsAt 2 (some .long) RX1 1 := ⟨k_592, k_591, k_16, k_54, by decide +kernel⟩
theorem mvX4_explains : q_MV yX4_explains cX4_explains 5 (some .boolean) RX4 3 := ⟨k_599, k_598, k_17, k_49, by decide +kernel⟩
theorem mvX1_listAt : q_MV yX1_listAt cX1_listAt 2 (some .int) RX1 1 := ⟨k_603, k_601, k_602, k_54, by decide +kernel⟩
theorem mvX4_image : q_MV yX4_image cX4_image 1 (some .int) RX4 0 := ⟨k_608, k_606, k_607, k_49, by decide +kernel⟩
theorem mvX0_take : q_MV yX0_take cX0_take 2 none RX0 1 := ⟨k_612, k_610, k_611, k_50, by decide +kernel⟩
theorem mvX4_undo : q_MV yX4_undo cX4_undo 1 (some .int) RX4 0 := ⟨k_617, k_615, k_616, k_49, by decide +kernel⟩
theorem mvX4_tear : q_MV yX4_tear cX4_tear 2 (some .int) RX4 0 := ⟨k_621, k_619, k_620, k_49, by decide +kernel⟩
theorem mvX4_count : q_MV yX4_count cX4_count 2 (some .int) RX4 1 := ⟨k_625, k_623, k_624, k_49, by decide +kernel⟩
theorem mvX4_status : q_MV yX4_status cX4_status 4 (some .int) RX4 1 := ⟨k_629, k_627, k_628, k_49, by decide +kernel⟩
theorem miX5_init : q_MI yX5_init cX5_init 1 0 := ⟨k_634, k_633, k_55, by decide +kernel, by decide +kernel⟩
theorem mvX5_guest : q_MV yX5_guest cX5_guest 4 (some .int) RX5 2 := ⟨k_695, k_693, k_694, k_55, by decide +kernel⟩
theorem msX5_in : q_MS yX5_in cX5_in 6 (some .boolean) 3 := ⟨k_699, k_698, k_55, by decide +kernel⟩
theorem mvX5_finds : q_MV yX5_finds cX5_finds 2 (some .int) RX5 1 := ⟨k_705, k_704, k_18, k_55, by decide +kernel⟩
theorem mvX5_of : q_MV yX5_of cX5_of 3 (some .int) RX5 2 := ⟨k_710, k_708, k_709, k_55, by decide +kernel⟩
theorem mvX5_isGuest : q_MV yX5_isGuest cX5_isGuest 2 (some .boolean) RX5 1 := ⟨k_714, k_713, k_19, k_55, by decide +kernel⟩
theorem mvX5_comesBy : q_MV yX5_comesBy cX5_comesBy 4 (some .boolean) RX5 2 := ⟨k_718, k_717, k_20, k_55, by decide +kernel⟩
theorem msX5_others : q_MS yX5_others cX5_others 2 (some .int) 2 := ⟨k_721, k_720, k_55, by decide +kernel⟩
theorem msX5_ones : q_MS yX5_ones cX5_ones 3 (some .int) 1 := ⟨k_724, k_723, k_55, by decide +kernel⟩
theorem mvX5_its : q_MV yX5_its cX5_its 3 (some .int) RX5 2 := ⟨k_728, k_727, k_21, k_55, by decide +kernel⟩
theorem mvX5_holds : q_MV yX5_holds cX5_holds 8 (some .boolean) RX5 2 := ⟨k_732, k_731, k_22, k_55, by decide +kernel⟩
theorem msX5_has : q_MS yX5_has cX5_has 2 (some .boolean) 2 := ⟨k_735, k_734, k_55, by decide +kernel⟩
theorem mvX5_cost : q_MV yX5_cost cX5_cost 3 (some .int) RX5 2 := ⟨k_739, k_737, k_738, k_55, by decide +kernel⟩
theorem mvX5_becomes : q_MV yX5_becomes cX5_becomes 4 (some .int) RX5 2 := ⟨k_743, k_742, k_23, k_55, by decide +kernel⟩
theorem mvX5_turn : q_MV yX5_turn cX5_turn 3 (some .int) RX5 2 := ⟨k_747, k_745, k_746, k_55, by decide +kernel⟩
theorem mvX5_as : q_MV yX5_as cX5_as 5 (some .int) RX5 2 := ⟨k_751, k_749, k_750, k_55, by decide +kernel⟩
theorem mvX5_term : q_MV yX5_term cX5_term 3 (some .int) RX5 1 := ⟨k_756, k_754, k_755, k_55, by decide +kernel⟩
theorem mvX5_any : q_MV yX5_any cX5_any 1 none RX5 0 := ⟨k_760, k_759, k_24, k_55, by decide +kernel⟩
theorem mvX5_every : q_MV yX5_every cX5_every 1 none RX5 0 := ⟨k_764, k_763, k_25, k_55, by decide +kernel⟩
theorem mvX5_unit : q_MV yX5_unit cX5_unit 2 none RX5 0 := ⟨k_768, k_767, k_26, k_55, by decide +kernel⟩
theorem mvX5_look : q_MV yX5_look cX5_look 1 (some .int) RX5 0 := ⟨k_772, k_771, k_27, k_55, by decide +kernel⟩
theorem mvX5_lay : q_MV yX5_lay cX5_lay 2 none RX5 1 := ⟨k_778, k_777, k_28, k_55, by decide +kernel⟩
theorem mvX5_counted : q_MV yX5_counted cX5_counted 3 none RX5 0 := ⟨k_782, k_781, k_29, k_55, by decide +kernel⟩
theorem mvX5_faulty : q_MV yX5_faulty cX5_faulty 1 none RX5 0 := ⟨k_786, k_785, k_30, k_55, by decide +kernel⟩
theorem mvX5_opens : q_MV yX5_opens cX5_opens 1 (some .boolean) RX5 0 := ⟨k_792, k_791, k_31, k_55, by decide +kernel⟩
theorem mvX5_feed : q_MV yX5_feed cX5_feed 4 (some .int) RX5 2 := ⟨k_796, k_794, k_795, k_55, by decide +kernel⟩
theorem mvX5_wipe : q_MV yX5_wipe cX5_wipe 2 (some .int) RX5 0 := ⟨k_801, k_799, k_800, k_55, by decide +kernel⟩
theorem mvX5_list : q_MV yX5_list cX5_list 2 (some .int) RX5 1 := ⟨k_805, k_803, k_804, k_55, by decide +kernel⟩
theorem mvX5_isList : q_MV yX5_isList cX5_isList 3 (some .boolean) RX5 1 := ⟨k_809, k_808, k_32, k_55, by decide +kernel⟩
theorem mvX5_lists : q_MV yX5_lists cX5_lists 1 (some .int) RX5 0 := ⟨k_813, k_812, k_33, k_55, by decide +kernel⟩
theorem mvX5_now : q_MV yX5_now cX5_now 2 (some .int) RX5 1 := ⟨k_817, k_815, k_816, k_55, by decide +kernel⟩
theorem mvX5_would : q_MV yX5_would cX5_would 4 (some .int) RX5 1 := ⟨k_821, k_820, k_34, k_55, by decide +kernel⟩
theorem mvX5_costOf : q_MV yX5_costOf cX5_costOf 4 (some .int) RX5 1 := ⟨k_825, k_824, k_35, k_55, by decide +kernel⟩
theorem mvX5_call : q_MV yX5_call cX5_call 2 (some .int) RX5 1 := ⟨k_829, k_827, k_828, k_55, by decide +kernel⟩
theorem mvX5_calling : q_MV yX5_calling cX5_calling 3 (some .int) RX5 1 := ⟨k_833, k_832, k_36, k_55, by decide +kernel⟩
theorem mvX5_called : q_MV yX5_called cX5_called 3 (some .int) RX5 2 := ⟨k_837, k_836, k_37, k_55, by decide +kernel⟩
theorem mvX5_calls : q_MV yX5_calls cX5_calls 5 (some .int) RX5 1 := ⟨k_841, k_839, k_840, k_55, by decide +kernel⟩
theorem mvX5_rounds : q_MV yX5_rounds cX5_rounds 2 (some .int) RX5 1 := ⟨k_846, k_844, k_845, k_55, by decide +kernel⟩
theorem mvX5_behind : q_MV yX5_behind cX5_behind 5 (some .int) RX5 2 := ⟨k_851, k_850, k_38, k_55, by decide +kernel⟩
theorem mvX5_on : q_MV yX5_on cX5_on 2 (some .int) RX5 1 := ⟨k_855, k_853, k_854, k_55, by decide +kernel⟩
theorem mvX5_when : q_MV yX5_when cX5_when 3 (some .int) RX5 0 := ⟨k_859, k_857, k_858, k_55, by decide +kernel⟩
theorem mvX5_looksAll : q_MV yX5_looksAll cX5_looksAll 2 none RX5 0 := ⟨k_863, k_862, k_39, k_55, by decide +kernel⟩
theorem mvX5_ring : q_MV yX5_ring cX5_ring 4 (some .int) RX5 1 := ⟨k_868, k_866, k_867, k_55, by decide +kernel⟩
theorem mvX5_fewest : q_MV yX5_fewest cX5_fewest 1 (some .int) RX5 0 := ⟨k_872, k_870, k_871, k_55, by decide +kernel⟩
theorem mvX5_looksFar : q_MV yX5_looksFar cX5_looksFar 5 none RX5 0 := ⟨k_876, k_875, k_40, k_55, by decide +kernel⟩
theorem mvX5_orNone : q_MV yX5_orNone cX5_orNone 2 (some .int) RX5 1 := ⟨k_880, k_879, k_41, k_55, by decide +kernel⟩
theorem mvX5_first : q_MV yX5_first cX5_first 4 (some .int) RX5 0 := ⟨k_884, k_882, k_883, k_55, by decide +kernel⟩
theorem mvX5_settled : q_MV yX5_settled cX5_settled 1 (some .int) RX5 0 := ⟨k_888, k_886, k_887, k_55, by decide +kernel⟩
theorem mvX5_manySettled : q_MV yX5_manySettled cX5_manySettled 3 (some .int) RX5 0 := ⟨k_892, k_891, k_42, k_55, by decide +kernel⟩
theorem mvX5_ith : q_MV yX5_ith cX5_ith 4 (some .int) RX5 1 := ⟨k_896, k_894, k_895, k_55, by decide +kernel⟩
theorem mvX5_sure : q_MV yX5_sure cX5_sure 7 (some .int) RX5 1 := ⟨k_900, k_898, k_899, k_55, by decide +kernel⟩
theorem mvX5_basin : q_MV yX5_basin cX5_basin 3 (some .int) RX5 0 := ⟨k_905, k_903, k_904, k_55, by decide +kernel⟩
theorem mvX5_looksWhere : q_MV yX5_looksWhere cX5_looksWhere 4 none RX5 0 := ⟨k_909, k_908, k_43, k_55, by decide +kernel⟩
theorem mvX5_odds : q_MV yX5_odds cX5_odds 5 (some .long) RX5 2 := ⟨k_913, k_911, k_912, k_55, by decide +kernel⟩
theorem mvX5_last : q_MV yX5_last cX5_last 2 (some .int) RX5 1 := ⟨k_917, k_915, k_916, k_55, by decide +kernel⟩
theorem mvX5_lastOf : q_MV yX5_lastOf cX5_lastOf 5 (some .int) RX5 2 := ⟨k_921, k_920, k_44, k_55, by decide +kernel⟩
theorem mvX5_buys : q_MV yX5_buys cX5_buys 2 (some .int) RX5 1 := ⟨k_925, k_923, k_924, k_55, by decide +kernel⟩
theorem mvX5_bestBuy : q_MV yX5_bestBuy cX5_bestBuy 5 (some .int) RX5 1 := ⟨k_930, k_929, k_45, k_55, by decide +kernel⟩
theorem mvX5_price : q_MV yX5_price cX5_price 3 (some .int) RX5 1 := ⟨k_934, k_932, k_933, k_55, by decide +kernel⟩
theorem mvX5_spoils : q_MV yX5_spoils cX5_spoils 5 (some .int) RX5 0 := ⟨k_938, k_936, k_937, k_55, by decide +kernel⟩
theorem mvX5_invites : q_MV yX5_invites cX5_invites 7 (some .int) RX5 2 := ⟨k_942, k_940, k_941, k_55, by decide +kernel⟩
theorem mvX5_against : q_MV yX5_against cX5_against 8 (some .int) RX5 2 := ⟨k_946, k_944, k_945, k_55, by decide +kernel⟩
theorem mvX5_minds : q_MV yX5_minds cX5_minds 4 (some .int) RX5 1 := ⟨k_950, k_948, k_949, k_55, by decide +kernel⟩
theorem mvX5_kind : q_MV yX5_kind cX5_kind 7 (some .int) RX5 1 := ⟨k_954, k_952, k_953, k_55, by decide +kernel⟩
theorem mvX5_sheet : q_MV yX5_sheet cX5_sheet 5 (some .int) RX5 3 := ⟨k_958, k_956, k_957, k_55, by decide +kernel⟩
theorem msX5_isOne : q_MS yX5_isOne cX5_isOne 1 (some .boolean) 1 := ⟨k_961, k_960, k_55, by decide +kernel⟩
theorem mvX5_write : q_MV yX5_write cX5_write 8 (some .long) RX5 3 := ⟨k_966, k_964, k_965, k_55, by decide +kernel⟩
theorem mvX5_wrong : q_MV yX5_wrong cX5_wrong 2 (some .int) RX5 1 := ⟨k_970, k_969, k_46, k_55, by decide +kernel⟩
theorem msX5_narrowed : q_MS yX5_narrowed cX5_narrowed 3 (some .long) 2 := ⟨k_974, k_973, k_55, by decide +kernel⟩
theorem mvX5_copy : q_MV yX5_copy cX5_copy 7 (some .int) RX5 5 := ⟨k_978, k_976, k_977, k_55, by decide +kernel⟩
theorem mvX5_lays : q_MV yX5_lays cX5_lays 5 (some .int) RX5 1 := ⟨k_982, k_980, k_981, k_55, by decide +kernel⟩
theorem mvX5_book : q_MV yX5_book cX5_book 5 (some .int) RX5 1 := ⟨k_986, k_984, k_985, k_55, by decide +kernel⟩
theorem mvX5_read : q_MV yX5_read cX5_read 7 (some .int) RX5 1 := ⟨k_990, k_988, k_989, k_55, by decide +kernel⟩
theorem mvX5_isRow : q_MV yX5_isRow cX5_isRow 5 (some .boolean) RX5 1 := ⟨k_994, k_993, k_47, k_55, by decide +kernel⟩
theorem mvX5_image : q_MV yX5_image cX5_image 2 (some .int) RX5 0 := ⟨k_998, k_996, k_997, k_55, by decide +kernel⟩
theorem mvX5_undo : q_MV yX5_undo cX5_undo 2 (some .int) RX5 0 := ⟨k_1002, k_1000, k_1001, k_55, by decide +kernel⟩
theorem mvX5_tear : q_MV yX5_tear cX5_tear 2 (some .int) RX5 0 := ⟨k_1006, k_1004, k_1005, k_55, by decide +kernel⟩
theorem mvX5_count : q_MV yX5_count cX5_count 4 (some .int) RX5 1 := ⟨k_1010, k_1008, k_1009, k_55, by decide +kernel⟩
theorem mvX5_status : q_MV yX5_status cX5_status 4 (some .int) RX5 1 := ⟨k_1014, k_1012, k_1013, k_55, by decide +kernel⟩
end
section
/-! shifts, and places that are known -/
abbrev jushr (x y : Int32) : Int32 := (x.toUInt32 >>> (y.toUInt32 &&& Int32.toUInt32 31)).toInt32
abbrev jshl (x y : Int32) : Int32 := x <<< (y &&& 31)
abbrev jshr (x y : Int32) : Int32 := x >>> (y &&& 31)
abbrev jlushr (x : Int64) (y : Int32) : Int64 := (x.toUInt64 >>> (y.toInt64.toUInt64 &&& Int64.toUInt64 63)).toInt64
abbrev jlshl (x : Int64) (y : Int32) : Int64 := x <<< (y.toInt64 &&& 63)
abbrev jrem (x y : Int32) : Int32 := x - x / y * y
abbrev jlrem (x y : Int64) : Int64 := x - x / y * y
abbrev jmax (x y : Int32) : Int32 := if x < y then y else x
abbrev jmin (x y : Int32) : Int32 := if y < x then y else x
theorem vinK {i : Int32} {n : Nat} (h : decide (¬ (i < 0 ∨ n ≤ i.toNatClampNeg)) = true) : vp_in i n := by
  have h2 := of_decide_eq_true h
  exact h2
section QK
variable {p : Program} {l : Launch} {e : Env} {R : Room} {s : State} {m : MethodId} {args : Array Value} {below : List Frame} {meth : Method} {c : Code} {H : Heap} {locs : List Loc} {cells slots : Nat} {Q : State → Prop}
variable {cc bytes : ByteArray} {pc nL maxL n index : Nat} {ls : Array Slot} {rest As st0 : List Value} {D : va_G} {A : Nat → Prop} {a b tb : Nat} {cI cJ cZ cS : ClassId} {ws ws' wc w1 : va_W} {own C : String} {y : MethodName} {ret ret0 : Option FieldType} {rm : Room}
theorem q_ialdK (fx : q_Fx p s m args meth c cc nL own ret0 D cI cJ cZ cS tb A) (h : q_H D A s ws H locs) (q0 : Nat) {f : Nat → Int32} (ha : ws[q0]? = some (a, .inl (cI, n, .inl f))) {i : Int32} (j : Nat) (hin : vp_in i n) (hj : i.toNatClampNeg = j) (hdg : decode cc pc = .ok (.iaload, 1))
    (kk : W p l e R s m args below meth c H locs cells slots Q (F0 m (pc + 1) ls (.int (f j) :: rest))) : W p l e R s m args below meth c H locs cells slots Q (F0 m pc ls (.int i :: .ref a :: rest)) := by
  subst hj; exact q_iald fx h q0 ha hin hdg kk
theorem q_zaldK (fx : q_Fx p s m args meth c cc nL own ret0 D cI cJ cZ cS tb A) (h : q_H D A s ws H locs) (q0 : Nat) {f : Nat → Int32} (ha : ws[q0]? = some (a, .inl (cZ, n, .inl f))) {i : Int32} (j : Nat) (hin : vp_in i n) (hj : i.toNatClampNeg = j) (hdg : decode cc pc = .ok (.baload, 1))
    (kk : W p l e R s m args below meth c H locs cells slots Q (F0 m (pc + 1) ls (.int (f j) :: rest))) : W p l e R s m args below meth c H locs cells slots Q (F0 m pc ls (.int i :: .ref a :: rest)) := by
  subst hj; exact q_zald fx h q0 ha hin hdg kk
theorem q_iastK (fx : q_Fx p s m args meth c cc nL own ret0 D cI cJ cZ cS tb A) (h : q_H D A s ws H locs) (q0 : Nat) {f : Nat → Int32} (ha : ws[q0]? = some (a, .inl (cI, n, .inl f))) {i x : Int32} (j : Nat) (hin : vp_in i n) (hj : i.toNatClampNeg = j) (hE : ws.set q0 (a, .inl (cI, n, .inl (upd f j x))) = ws') (hdg : decode cc pc = .ok (.iastore, 1))
    (kk : ∀ (H : Heap) (locs : List Loc), q_H D A s ws' H locs → W p l e R s m args below meth c H locs cells slots Q (F0 m (pc + 1) ls rest)) : W p l e R s m args below meth c H locs cells slots Q (F0 m pc ls (.int x :: .int i :: .ref a :: rest)) := by
  subst hj; exact q_iast fx h q0 ha hin hE hdg kk
theorem q_copyi (fx : q_Fx p s m args meth c cc nL own ret0 D cI cJ cZ cS tb A) (h : q_H D A s ws H locs) (hsz : ls.size = nL) (q0 q1 : Nat) {a0 n0 n1 : Nat} {f g : Nat → Int32} (ha0 : ws[q0]? = some (a0, .inl (cI, n0, .inl f))) (ha1 : ws[q1]? = some (a, .inl (cI, n1, .inl g))) (hlink : Cond.methodLink own index arraycopyName ∈ wA) (hnat : Cond.native arraycopyName ∈ wA) (hst : Cond.static arraycopyName ∈ wA) (hini : Cond.initialized RJ10 ∈ wA)
    {sp dp k : Int32} (hh : ¬ sp < 0 ∧ ¬ dp < 0 ∧ ¬ k < 0 ∧ sp.toNatClampNeg + k.toNatClampNeg ≤ n0 ∧ dp.toNatClampNeg + k.toNatClampNeg ≤ n1) (hfr : 1 ≤ R.frames) (hlo : (rest.map fun v => v.category).sum + 18 ≤ R.locals) (hE : ws.set q1 (a, .inl (cI, n1, .inl (va_cpy f g sp.toNatClampNeg dp.toNatClampNeg k.toNatClampNeg))) = ws') (hdg : decode cc pc = .ok (.invokestatic index, 3))
    (kk : ∀ (H : Heap) (locs : List Loc), q_H D A s ws' H locs → W p l e R s m args below meth c H locs cells slots Q (F0 m (pc + 3) ls rest)) : W p l e R s m args below meth c H locs cells slots Q (F0 m pc ls (.int k :: .int dp :: .ref a :: .int sp :: .ref a0 :: rest)) := by
  obtain ⟨hx, hb, hml, hown, hts, -, -, hG, -⟩ := fx
  subst hE
  exact va_copyi hx hb (hml.trans hsz.symm) hown (hts _ hlink) (hts _ hnat) (hts _ hst) (hts _ hini) hG.1 h.1 h.2.1 h.2.2 q0 q1 0 0 ha0 ha1 rfl rfl rfl hh.1 hh.2.1 hh.2.2.1 hh.2.2.2.1 hh.2.2.2.2 (fun _ _ => rfl) hfr hlo hdg (fun H1 locs1 h1 h2 h3 => kk H1 locs1 ⟨h1, h2, h3⟩)
theorem q_copyl (fx : q_Fx p s m args meth c cc nL own ret0 D cI cJ cZ cS tb A) (h : q_H D A s ws H locs) (hsz : ls.size = nL) (q0 q1 : Nat) {a0 n0 n1 : Nat} {f g : Nat → Int64} (ha0 : ws[q0]? = some (a0, .inl (cJ, n0, .inr (.inl f)))) (ha1 : ws[q1]? = some (a, .inl (cJ, n1, .inr (.inl g)))) (hlink : Cond.methodLink own index arraycopyName ∈ wA) (hnat : Cond.native arraycopyName ∈ wA) (hst : Cond.static arraycopyName ∈ wA) (hini : Cond.initialized RJ10 ∈ wA)
    {sp dp k : Int32} (hh : ¬ sp < 0 ∧ ¬ dp < 0 ∧ ¬ k < 0 ∧ sp.toNatClampNeg + k.toNatClampNeg ≤ n0 ∧ dp.toNatClampNeg + k.toNatClampNeg ≤ n1) (hfr : 1 ≤ R.frames) (hlo : (rest.map fun v => v.category).sum + 18 ≤ R.locals) (hE : ws.set q1 (a, .inl (cJ, n1, .inr (.inl (va_cpy f g sp.toNatClampNeg dp.toNatClampNeg k.toNatClampNeg)))) = ws') (hdg : decode cc pc = .ok (.invokestatic index, 3))
    (kk : ∀ (H : Heap) (locs : List Loc), q_H D A s ws' H locs → W p l e R s m args below meth c H locs cells slots Q (F0 m (pc + 3) ls rest)) : W p l e R s m args below meth c H locs cells slots Q (F0 m pc ls (.int k :: .int dp :: .ref a :: .int sp :: .ref a0 :: rest)) := by
  obtain ⟨hx, hb, hml, hown, hts, -, -, hG, -⟩ := fx
  subst hE
  exact va_copyl hx hb (hml.trans hsz.symm) hown (hts _ hlink) (hts _ hnat) (hts _ hst) (hts _ hini) hG.1 h.1 h.2.1 h.2.2 q0 q1 1 1 ha0 ha1 rfl rfl rfl hh.1 hh.2.1 hh.2.2.1 hh.2.2.2.1 hh.2.2.2.2 (fun _ _ => rfl) hfr hlo hdg (fun H1 locs1 h1 h2 h3 => kk H1 locs1 ⟨h1, h2, h3⟩)
theorem q_mmax (fx : q_Fx p s m args meth c cc nL own ret0 D cI cJ cZ cS tb A) (hsz : ls.size = nL) (hlink : Cond.methodLink own index yJ9_max_7cf53 ∈ wA) (hfr : 1 ≤ R.frames) (hlo : (rest.map fun v => v.category).sum + 13 ≤ R.locals) (hc : cells ≤ R.cells) (hs : slots ≤ R.slots) {x y : Int32} (hdg : decode cc pc = .ok (.invokestatic index, 3))
    (kk : W p l e R s m args below meth c H locs cells slots Q (F0 m (pc + 3) ls (.int (jmax x y) :: rest))) : W p l e R s m args below meth c H locs cells slots Q (F0 m pc ls (.int y :: .int x :: rest)) := by
  obtain ⟨hx, hb, hml, hown, hts, -, -, hG, -⟩ := fx
  exact va_mmax hx hb (hml.trans hsz.symm) hown (hts _ hlink) (hts _ msJ9_max_7cf53.2.1) (hts _ msJ9_max_7cf53.2.2.1) (hts _ msJ9_max_7cf53.1) hfr hlo hc hs hdg kk
theorem q_mmin (fx : q_Fx p s m args meth c cc nL own ret0 D cI cJ cZ cS tb A) (hsz : ls.size = nL) (hlink : Cond.methodLink own index yJ9_min_7cf53 ∈ wA) (hfr : 1 ≤ R.frames) (hlo : (rest.map fun v => v.category).sum + 13 ≤ R.locals) (hc : cells ≤ R.cells) (hs : slots ≤ R.slots) {x y : Int32} (hdg : decode cc pc = .ok (.invokestatic index, 3))
    (kk : W p l e R s m args below meth c H locs cells slots Q (F0 m (pc + 3) ls (.int (jmin x y) :: rest))) : W p l e R s m args below meth c H locs cells slots Q (F0 m pc ls (.int y :: .int x :: rest)) := by
  obtain ⟨hx, hb, hml, hown, hts, -, -, hG, -⟩ := fx
  exact va_mmin hx hb (hml.trans hsz.symm) hown (hts _ hlink) (hts _ msJ9_min_7cf53.2.1) (hts _ msJ9_min_7cf53.2.2.1) (hts _ msJ9_min_7cf53.1) hfr hlo hc hs hdg kk
end QK
end
section
def ll2 {β A1 A2 : Type} (F : (A1 → A2 → Option β) → A1 → A2 → Option β) : Nat → A1 → A2 → Option β
  | 0 => fun _ _ => none
  | n + 1 => F (ll2 F n)
theorem ll2_s {β A1 A2 : Type} {F : (A1 → A2 → Option β) → A1 → A2 → Option β} {n : Nat} {a1 : A1} {a2 : A2} {r : Option β} (h : ll2 F (n + 1) a1 a2 = r) : F (ll2 F n) a1 a2 = r := h
theorem ll2_z {β A1 A2 : Type} {F : (A1 → A2 → Option β) → A1 → A2 → Option β} {a1 : A1} {a2 : A2} {r : β} (h : ll2 F 0 a1 a2 = some r) : False := by
  have h2 : (none : Option β) = some r := h
  cases h2
def ll3 {β A1 A2 A3 : Type} (F : (A1 → A2 → A3 → Option β) → A1 → A2 → A3 → Option β) : Nat → A1 → A2 → A3 → Option β
  | 0 => fun _ _ _ => none
  | n + 1 => F (ll3 F n)
theorem ll3_s {β A1 A2 A3 : Type} {F : (A1 → A2 → A3 → Option β) → A1 → A2 → A3 → Option β} {n : Nat} {a1 : A1} {a2 : A2} {a3 : A3} {r : Option β} (h : ll3 F (n + 1) a1 a2 a3 = r) : F (ll3 F n) a1 a2 a3 = r := h
theorem ll3_z {β A1 A2 A3 : Type} {F : (A1 → A2 → A3 → Option β) → A1 → A2 → A3 → Option β} {a1 : A1} {a2 : A2} {a3 : A3} {r : β} (h : ll3 F 0 a1 a2 a3 = some r) : False := by
  have h2 : (none : Option β) = some r := h
  cases h2
def ll4 {β A1 A2 A3 A4 : Type} (F : (A1 → A2 → A3 → A4 → Option β) → A1 → A2 → A3 → A4 → Option β) : Nat → A1 → A2 → A3 → A4 → Option β
  | 0 => fun _ _ _ _ => none
  | n + 1 => F (ll4 F n)
theorem ll4_s {β A1 A2 A3 A4 : Type} {F : (A1 → A2 → A3 → A4 → Option β) → A1 → A2 → A3 → A4 → Option β} {n : Nat} {a1 : A1} {a2 : A2} {a3 : A3} {a4 : A4} {r : Option β} (h : ll4 F (n + 1) a1 a2 a3 a4 = r) : F (ll4 F n) a1 a2 a3 a4 = r := h
theorem ll4_z {β A1 A2 A3 A4 : Type} {F : (A1 → A2 → A3 → A4 → Option β) → A1 → A2 → A3 → A4 → Option β} {a1 : A1} {a2 : A2} {a3 : A3} {a4 : A4} {r : β} (h : ll4 F 0 a1 a2 a3 a4 = some r) : False := by
  have h2 : (none : Option β) = some r := h
  cases h2
def ll5 {β A1 A2 A3 A4 A5 : Type} (F : (A1 → A2 → A3 → A4 → A5 → Option β) → A1 → A2 → A3 → A4 → A5 → Option β) : Nat → A1 → A2 → A3 → A4 → A5 → Option β
  | 0 => fun _ _ _ _ _ => none
  | n + 1 => F (ll5 F n)
theorem ll5_s {β A1 A2 A3 A4 A5 : Type} {F : (A1 → A2 → A3 → A4 → A5 → Option β) → A1 → A2 → A3 → A4 → A5 → Option β} {n : Nat} {a1 : A1} {a2 : A2} {a3 : A3} {a4 : A4} {a5 : A5} {r : Option β} (h : ll5 F (n + 1) a1 a2 a3 a4 a5 = r) : F (ll5 F n) a1 a2 a3 a4 a5 = r := h
theorem ll5_z {β A1 A2 A3 A4 A5 : Type} {F : (A1 → A2 → A3 → A4 → A5 → Option β) → A1 → A2 → A3 → A4 → A5 → Option β} {a1 : A1} {a2 : A2} {a3 : A3} {a4 : A4} {a5 : A5} {r : β} (h : ll5 F 0 a1 a2 a3 a4 a5 = some r) : False := by
  have h2 : (none : Option β) = some r := h
  cases h2
def ll6 {β A1 A2 A3 A4 A5 A6 : Type} (F : (A1 → A2 → A3 → A4 → A5 → A6 → Option β) → A1 → A2 → A3 → A4 → A5 → A6 → Option β) : Nat → A1 → A2 → A3 → A4 → A5 → A6 → Option β
  | 0 => fun _ _ _ _ _ _ => none
  | n + 1 => F (ll6 F n)
theorem ll6_s {β A1 A2 A3 A4 A5 A6 : Type} {F : (A1 → A2 → A3 → A4 → A5 → A6 → Option β) → A1 → A2 → A3 → A4 → A5 → A6 → Option β} {n : Nat} {a1 : A1} {a2 : A2} {a3 : A3} {a4 : A4} {a5 : A5} {a6 : A6} {r : Option β} (h : ll6 F (n + 1) a1 a2 a3 a4 a5 a6 = r) : F (ll6 F n) a1 a2 a3 a4 a5 a6 = r := h
theorem ll6_z {β A1 A2 A3 A4 A5 A6 : Type} {F : (A1 → A2 → A3 → A4 → A5 → A6 → Option β) → A1 → A2 → A3 → A4 → A5 → A6 → Option β} {a1 : A1} {a2 : A2} {a3 : A3} {a4 : A4} {a5 : A5} {a6 : A6} {r : β} (h : ll6 F 0 a1 a2 a3 a4 a5 a6 = some r) : False := by
  have h2 : (none : Option β) = some r := h
  cases h2
def ll7 {β A1 A2 A3 A4 A5 A6 A7 : Type} (F : (A1 → A2 → A3 → A4 → A5 → A6 → A7 → Option β) → A1 → A2 → A3 → A4 → A5 → A6 → A7 → Option β) : Nat → A1 → A2 → A3 → A4 → A5 → A6 → A7 → Option β
  | 0 => fun _ _ _ _ _ _ _ => none
  | n + 1 => F (ll7 F n)
theorem ll7_s {β A1 A2 A3 A4 A5 A6 A7 : Type} {F : (A1 → A2 → A3 → A4 → A5 → A6 → A7 → Option β) → A1 → A2 → A3 → A4 → A5 → A6 → A7 → Option β} {n : Nat} {a1 : A1} {a2 : A2} {a3 : A3} {a4 : A4} {a5 : A5} {a6 : A6} {a7 : A7} {r : Option β} (h : ll7 F (n + 1) a1 a2 a3 a4 a5 a6 a7 = r) : F (ll7 F n) a1 a2 a3 a4 a5 a6 a7 = r := h
theorem ll7_z {β A1 A2 A3 A4 A5 A6 A7 : Type} {F : (A1 → A2 → A3 → A4 → A5 → A6 → A7 → Option β) → A1 → A2 → A3 → A4 → A5 → A6 → A7 → Option β} {a1 : A1} {a2 : A2} {a3 : A3} {a4 : A4} {a5 : A5} {a6 : A6} {a7 : A7} {r : β} (h : ll7 F 0 a1 a2 a3 a4 a5 a6 a7 = some r) : False := by
  have h2 : (none : Option β) = some r := h
  cases h2
def ll8 {β A1 A2 A3 A4 A5 A6 A7 A8 : Type} (F : (A1 → A2 → A3 → A4 → A5 → A6 → A7 → A8 → Option β) → A1 → A2 → A3 → A4 → A5 → A6 → A7 → A8 → Option β) : Nat → A1 → A2 → A3 → A4 → A5 → A6 → A7 → A8 → Option β
  | 0 => fun _ _ _ _ _ _ _ _ => none
  | n + 1 => F (ll8 F n)
theorem ll8_s {β A1 A2 A3 A4 A5 A6 A7 A8 : Type} {F : (A1 → A2 → A3 → A4 → A5 → A6 → A7 → A8 → Option β) → A1 → A2 → A3 → A4 → A5 → A6 → A7 → A8 → Option β} {n : Nat} {a1 : A1} {a2 : A2} {a3 : A3} {a4 : A4} {a5 : A5} {a6 : A6} {a7 : A7} {a8 : A8} {r : Option β} (h : ll8 F (n + 1) a1 a2 a3 a4 a5 a6 a7 a8 = r) : F (ll8 F n) a1 a2 a3 a4 a5 a6 a7 a8 = r := h
theorem ll8_z {β A1 A2 A3 A4 A5 A6 A7 A8 : Type} {F : (A1 → A2 → A3 → A4 → A5 → A6 → A7 → A8 → Option β) → A1 → A2 → A3 → A4 → A5 → A6 → A7 → A8 → Option β} {a1 : A1} {a2 : A2} {a3 : A3} {a4 : A4} {a5 : A5} {a6 : A6} {a7 : A7} {a8 : A8} {r : β} (h : ll8 F 0 a1 a2 a3 a4 a5 a6 a7 a8 = some r) : False := by
  have h2 : (none : Option β) = some r := h
  cases h2
def ll9 {β A1 A2 A3 A4 A5 A6 A7 A8 A9 : Type} (F : (A1 → A2 → A3 → A4 → A5 → A6 → A7 → A8 → A9 → Option β) → A1 → A2 → A3 → A4 → A5 → A6 → A7 → A8 → A9 → Option β) : Nat → A1 → A2 → A3 → A4 → A5 → A6 → A7 → A8 → A9 → Option β
  | 0 => fun _ _ _ _ _ _ _ _ _ => none
  | n + 1 => F (ll9 F n)
theorem ll9_s {β A1 A2 A3 A4 A5 A6 A7 A8 A9 : Type} {F : (A1 → A2 → A3 → A4 → A5 → A6 → A7 → A8 → A9 → Option β) → A1 → A2 → A3 → A4 → A5 → A6 → A7 → A8 → A9 → Option β} {n : Nat} {a1 : A1} {a2 : A2} {a3 : A3} {a4 : A4} {a5 : A5} {a6 : A6} {a7 : A7} {a8 : A8} {a9 : A9} {r : Option β} (h : ll9 F (n + 1) a1 a2 a3 a4 a5 a6 a7 a8 a9 = r) : F (ll9 F n) a1 a2 a3 a4 a5 a6 a7 a8 a9 = r := h
theorem ll9_z {β A1 A2 A3 A4 A5 A6 A7 A8 A9 : Type} {F : (A1 → A2 → A3 → A4 → A5 → A6 → A7 → A8 → A9 → Option β) → A1 → A2 → A3 → A4 → A5 → A6 → A7 → A8 → A9 → Option β} {a1 : A1} {a2 : A2} {a3 : A3} {a4 : A4} {a5 : A5} {a6 : A6} {a7 : A7} {a8 : A8} {a9 : A9} {r : β} (h : ll9 F 0 a1 a2 a3 a4 a5 a6 a7 a8 a9 = some r) : False := by
  have h2 : (none : Option β) = some r := h
  cases h2
def ll10 {β A1 A2 A3 A4 A5 A6 A7 A8 A9 A10 : Type} (F : (A1 → A2 → A3 → A4 → A5 → A6 → A7 → A8 → A9 → A10 → Option β) → A1 → A2 → A3 → A4 → A5 → A6 → A7 → A8 → A9 → A10 → Option β) : Nat → A1 → A2 → A3 → A4 → A5 → A6 → A7 → A8 → A9 → A10 → Option β
  | 0 => fun _ _ _ _ _ _ _ _ _ _ => none
  | n + 1 => F (ll10 F n)
theorem ll10_s {β A1 A2 A3 A4 A5 A6 A7 A8 A9 A10 : Type} {F : (A1 → A2 → A3 → A4 → A5 → A6 → A7 → A8 → A9 → A10 → Option β) → A1 → A2 → A3 → A4 → A5 → A6 → A7 → A8 → A9 → A10 → Option β} {n : Nat} {a1 : A1} {a2 : A2} {a3 : A3} {a4 : A4} {a5 : A5} {a6 : A6} {a7 : A7} {a8 : A8} {a9 : A9} {a10 : A10} {r : Option β} (h : ll10 F (n + 1) a1 a2 a3 a4 a5 a6 a7 a8 a9 a10 = r) : F (ll10 F n) a1 a2 a3 a4 a5 a6 a7 a8 a9 a10 = r := h
theorem ll10_z {β A1 A2 A3 A4 A5 A6 A7 A8 A9 A10 : Type} {F : (A1 → A2 → A3 → A4 → A5 → A6 → A7 → A8 → A9 → A10 → Option β) → A1 → A2 → A3 → A4 → A5 → A6 → A7 → A8 → A9 → A10 → Option β} {a1 : A1} {a2 : A2} {a3 : A3} {a4 : A4} {a5 : A5} {a6 : A6} {a7 : A7} {a8 : A8} {a9 : A9} {a10 : A10} {r : β} (h : ll10 F 0 a1 a2 a3 a4 a5 a6 a7 a8 a9 a10 = some r) : False := by
  have h2 : (none : Option β) = some r := h
  cases h2
def ll12 {β A1 A2 A3 A4 A5 A6 A7 A8 A9 A10 A11 A12 : Type} (F : (A1 → A2 → A3 → A4 → A5 → A6 → A7 → A8 → A9 → A10 → A11 → A12 → Option β) → A1 → A2 → A3 → A4 → A5 → A6 → A7 → A8 → A9 → A10 → A11 → A12 → Option β) : Nat → A1 → A2 → A3 → A4 → A5 → A6 → A7 → A8 → A9 → A10 → A11 → A12 → Option β
  | 0 => fun _ _ _ _ _ _ _ _ _ _ _ _ => none
  | n + 1 => F (ll12 F n)
theorem ll12_s {β A1 A2 A3 A4 A5 A6 A7 A8 A9 A10 A11 A12 : Type} {F : (A1 → A2 → A3 → A4 → A5 → A6 → A7 → A8 → A9 → A10 → A11 → A12 → Option β) → A1 → A2 → A3 → A4 → A5 → A6 → A7 → A8 → A9 → A10 → A11 → A12 → Option β} {n : Nat} {a1 : A1} {a2 : A2} {a3 : A3} {a4 : A4} {a5 : A5} {a6 : A6} {a7 : A7} {a8 : A8} {a9 : A9} {a10 : A10} {a11 : A11} {a12 : A12} {r : Option β} (h : ll12 F (n + 1) a1 a2 a3 a4 a5 a6 a7 a8 a9 a10 a11 a12 = r) : F (ll12 F n) a1 a2 a3 a4 a5 a6 a7 a8 a9 a10 a11 a12 = r := h
theorem ll12_z {β A1 A2 A3 A4 A5 A6 A7 A8 A9 A10 A11 A12 : Type} {F : (A1 → A2 → A3 → A4 → A5 → A6 → A7 → A8 → A9 → A10 → A11 → A12 → Option β) → A1 → A2 → A3 → A4 → A5 → A6 → A7 → A8 → A9 → A10 → A11 → A12 → Option β} {a1 : A1} {a2 : A2} {a3 : A3} {a4 : A4} {a5 : A5} {a6 : A6} {a7 : A7} {a8 : A8} {a9 : A9} {a10 : A10} {a11 : A11} {a12 : A12} {r : β} (h : ll12 F 0 a1 a2 a3 a4 a5 a6 a7 a8 a9 a10 a11 a12 = some r) : False := by
  have h2 : (none : Option β) = some r := h
  cases h2
end
