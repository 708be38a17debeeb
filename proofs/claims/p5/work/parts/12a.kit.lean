/-! my kit: one list of words for all methods, a world's bundle, calls in one row, and the pure words that a method is told in -/
theorem wA_ex : ∃ l : List Cond, l = lw_tbl.filter goodWord := ⟨_, rfl⟩
noncomputable def wA : List Cond := wA_ex.choose
theorem wA_eq : wA = lw_tbl.filter goodWord := wA_ex.choose_spec
theorem wA_in {w : Cond} (h : w ∈ lw_tbl) (g : goodWord w = true) : w ∈ wA := wA_eq ▸ List.mem_filter.mpr ⟨h, g⟩
theorem wA_tbl {w : Cond} (h : w ∈ wA) : w ∈ lw_tbl := (List.mem_filter.mp (wA_eq ▸ h)).1
theorem wA_good (w : Cond) (h : w ∈ wA) : GoodIn wA (w :: wA) := by
  intro x hx
  have hx' : x ∈ wA := (List.mem_cons.mp hx).elim (fun e => e ▸ h) id
  exact ⟨hx', good_of_word (List.mem_filter.mp (wA_eq ▸ hx')).2⟩
/-- pure words -/
def gIn {β : Type} (i : Int32) (n : Nat) (k : Option β) : Option β := if i < 0 ∨ n ≤ i.toNatClampNeg then none else k
theorem gIn_inv {β : Type} {i : Int32} {n : Nat} {k : Option β} {r : β} (h : gIn i n k = some r) : vp_in i n ∧ k = some r := by
  unfold gIn at h
  by_cases c : i < 0 ∨ n ≤ i.toNatClampNeg
  · rw [if_pos c] at h; cases h
  · rw [if_neg c] at h; exact ⟨c, h⟩
def gNz {β : Type} (y : Int32) (k : Option β) : Option β := if y = 0 then none else k
theorem gNz_inv {β : Type} {y : Int32} {k : Option β} {r : β} (h : gNz y k = some r) : ¬ y = 0 ∧ k = some r := by
  unfold gNz at h
  by_cases c : y = 0
  · rw [if_pos c] at h; cases h
  · rw [if_neg c] at h; exact ⟨c, h⟩
def gNzL {β : Type} (y : Int64) (k : Option β) : Option β := if y = 0 then none else k
theorem gNzL_inv {β : Type} {y : Int64} {k : Option β} {r : β} (h : gNzL y k = some r) : ¬ y = 0 ∧ k = some r := by
  unfold gNzL at h
  by_cases c : y = 0
  · rw [if_pos c] at h; cases h
  · rw [if_neg c] at h; exact ⟨c, h⟩
/-- an answer of kind boolean is 0 or 1 -/
def gB {β : Type} (v : Int32) (k : Option β) : Option β := if v = 0 ∨ v = 1 then k else none
theorem gB_inv {β : Type} {v : Int32} {k : Option β} {r : β} (h : gB v k = some r) : narrow .boolean (.int v) = .int v ∧ k = some r := by
  unfold gB at h
  by_cases c : v = 0 ∨ v = 1
  · rw [if_pos c] at h
    refine ⟨?_, h⟩
    rcases c with rfl | rfl <;> rfl
  · rw [if_neg c] at h; cases h
def gCp {β : Type} (sp dp n : Int32) (n0 n1 : Nat) (k : Option β) : Option β := if sp < 0 ∨ dp < 0 ∨ n < 0 ∨ n0 < sp.toNatClampNeg + n.toNatClampNeg ∨ n1 < dp.toNatClampNeg + n.toNatClampNeg then none else k
theorem gCp_inv {β : Type} {sp dp n : Int32} {n0 n1 : Nat} {k : Option β} {r : β} (h : gCp sp dp n n0 n1 k = some r) : (¬ sp < 0 ∧ ¬ dp < 0 ∧ ¬ n < 0 ∧ sp.toNatClampNeg + n.toNatClampNeg ≤ n0 ∧ dp.toNatClampNeg + n.toNatClampNeg ≤ n1) ∧ k = some r := by
  unfold gCp at h
  by_cases c : sp < 0 ∨ dp < 0 ∨ n < 0 ∨ n0 < sp.toNatClampNeg + n.toNatClampNeg ∨ n1 < dp.toNatClampNeg + n.toNatClampNeg
  · rw [if_pos c] at h; cases h
  · rw [if_neg c] at h
    simp only [not_or, Nat.not_lt] at c
    exact ⟨c, h⟩
def sel4 {β : Type} (i : Int32) (k0 k1 k2 k3 : Option β) : Option β := if i = 0 then k0 else if i = 1 then k1 else if i = 2 then k2 else if i = 3 then k3 else none
theorem sel4_inv {β : Type} {i : Int32} {k0 k1 k2 k3 : Option β} {r : β} (h : sel4 i k0 k1 k2 k3 = some r) : (i = 0 ∧ k0 = some r) ∨ (i = 1 ∧ k1 = some r) ∨ (i = 2 ∧ k2 = some r) ∨ (i = 3 ∧ k3 = some r) := by
  unfold sel4 at h
  by_cases c : i = 0
  · rw [if_pos c] at h; exact Or.inl ⟨c, h⟩
  rw [if_neg c] at h
  by_cases c : i = 1
  · rw [if_pos c] at h; exact Or.inr (Or.inl ⟨c, h⟩)
  rw [if_neg c] at h
  by_cases c : i = 2
  · rw [if_pos c] at h; exact Or.inr (Or.inr (Or.inl ⟨c, h⟩))
  rw [if_neg c] at h
  by_cases c : i = 3
  · rw [if_pos c] at h; exact Or.inr (Or.inr (Or.inr ⟨c, h⟩))
  rw [if_neg c] at h; cases h
def bR {α κ β : Type} (o : Option (α × κ)) (k : α → κ → Option β) : Option β := match o with
  | none => none
  | some q => k q.1 q.2
theorem bR_inv {α κ β : Type} {o : Option (α × κ)} {k : α → κ → Option β} {r : β} (h : bR o k = some r) : ∃ a x, o = some (a, x) ∧ k a x = some r := by
  cases o with
  | none => cases h
  | some q => exact ⟨q.1, q.2, rfl, h⟩
theorem bR_some {α κ β : Type} (a : α) (x : κ) (k : α → κ → Option β) : bR (some (a, x)) k = k a x := rfl
theorem bR_of {α κ β : Type} {o : Option (α × κ)} {a : α} {x : κ} (k : α → κ → Option β) (h : o = some (a, x)) : bR o k = k a x := by rw [h]; rfl
def bV {κ β : Type} (o : Option κ) (k : κ → Option β) : Option β := match o with
  | none => none
  | some q => k q
theorem bV_inv {κ β : Type} {o : Option κ} {k : κ → Option β} {r : β} (h : bV o k = some r) : ∃ x, o = some x ∧ k x = some r := by
  cases o with
  | none => cases h
  | some q => exact ⟨q, rfl, h⟩
theorem bV_of {κ β : Type} {o : Option κ} {x : κ} (k : κ → Option β) (h : o = some x) : bV o k = k x := by rw [h]; rfl
def nm {α β : Type} (e : α) (k : α → Option β) : Option β := k e
theorem nm_inv {α β : Type} {e : α} {k : α → Option β} {r : β} (h : nm e k = some r) : ∃ x, x = e ∧ k x = some r := ⟨e, rfl, h⟩
theorem nm_of {α β : Type} (e : α) (k : α → Option β) : nm e k = k e := rfl
theorem it_t {c : Prop} [Decidable c] {α : Type} {a b x : α} (h : c) (e : (if c then a else b) = x) : a = x := by rw [if_pos h] at e; exact e
theorem it_f {c : Prop} [Decidable c] {α : Type} {a b x : α} (h : ¬ c) (e : (if c then a else b) = x) : b = x := by rw [if_neg h] at e; exact e
theorem it_or {c : Prop} [Decidable c] {α : Type} {a b x : α} (e : (if c then a else b) = x) : (c ∧ a = x) ∨ (¬ c ∧ b = x) := by
  by_cases h : c
  · exact Or.inl ⟨h, it_t h e⟩
  · exact Or.inr ⟨h, it_f h e⟩
/-- how often a loop may go round -/
def qF : Nat := 1024
/-- the class's own table of words -/
def q_tb : Nat → Int64 := fun j => match j with
  | 0 => -6148914691236517206
  | 1 => -3689348814741910324
  | 2 => -1085102592571150096
  | 3 => -71777214294589696
  | 4 => -281470681808896
  | _ => -4294967296
def q_tab : Nat → Value := fun j => .long (q_tb j)
def q_sh (s0 s1 s2 s3 : Nat) : Nat → Option Nat := fun j => match j with
  | 0 => some s0
  | 1 => some s1
  | 2 => some s2
  | 3 => some s3
  | _ => none
