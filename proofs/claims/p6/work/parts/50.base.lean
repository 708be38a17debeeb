/-! pure rows that all claims use -/
theorem x_eq {α κ1 κ2 : Type} {o1 : Option (α × κ1)} {o2 : Option (α × κ2)} (h1 : o1.map Prod.fst = o2.map Prod.fst) (h2 : o1.isSome = true) : ∃ (r1 : α) (k1 : κ1) (r2 : α) (k2 : κ2), o1 = some (r1, k1) ∧ o2 = some (r2, k2) ∧ r1 = r2 ∧ True := by
  cases o1 with
  | none => cases h2
  | some q =>
    cases o2 with
    | none => cases h1
    | some q2 =>
      obtain ⟨a, b⟩ := q
      obtain ⟨a2, b2⟩ := q2
      have e : a = a2 := Option.some.inj h1
      exact ⟨a, b, a2, b2, rfl, rfl, e, trivial⟩
theorem fnd_1 (f : Nat → Int32) : fX4_found f (-1000000001) = some (-1000000001, upd f 0 (f 0 + 1)) := rfl
theorem fnd_2 (f : Nat → Int32) : fX4_found f (-1000000002) = some (-1000000002, upd f 1 (f 1 + 1)) := rfl
theorem fnd_3 (f : Nat → Int32) : fX4_found f (-1000000003) = some (-1000000003, upd f 2 (f 2 + 1)) := rfl
theorem fnd_4 (f : Nat → Int32) : fX4_found f (-1000000004) = some (-1000000004, upd f 3 (f 3 + 1)) := rfl
theorem fnd_6 (f : Nat → Int32) : fX4_found f (-1000000006) = some (-1000000006, upd f 5 (f 5 + 1)) := rfl
theorem fnd_7 (f : Nat → Int32) : fX4_found f (-1000000007) = some (-1000000007, upd f 6 (f 6 + 1)) := rfl
theorem fns_1 (f : Nat → Int32) : fX5_finds f (-1000000001) = some (-1000000001, upd f 0 (f 0 + 1)) := rfl
theorem fns_2 (f : Nat → Int32) : fX5_finds f (-1000000002) = some (-1000000002, upd f 1 (f 1 + 1)) := rfl
theorem fns_3 (f : Nat → Int32) : fX5_finds f (-1000000003) = some (-1000000003, upd f 2 (f 2 + 1)) := rfl
theorem fns_4 (f : Nat → Int32) : fX5_finds f (-1000000004) = some (-1000000004, upd f 3 (f 3 + 1)) := rfl
theorem fns_6 (f : Nat → Int32) : fX5_finds f (-1000000006) = some (-1000000006, upd f 5 (f 5 + 1)) := rfl
theorem fns_7 (f : Nat → Int32) : fX5_finds f (-1000000007) = some (-1000000007, upd f 6 (f 6 + 1)) := rfl
/-- a truth as an int -/
def b2 (p : Prop) [Decidable p] : Int32 := if p then 1 else 0
theorem b2_t {p : Prop} [Decidable p] (h : p) : b2 p = 1 := if_pos h
theorem b2_f {p : Prop} [Decidable p] (h : ¬ p) : b2 p = 0 := if_neg h
theorem ite_b2 {p : Prop} [Decidable p] {α : Type} (a b : α) : (if b2 p = 0 then a else b) = if p then b else a := by
  by_cases h : p
  · rw [b2_t h, if_pos h, if_neg (by decide)]
  · rw [b2_f h, if_neg h, if_pos rfl]
theorem gB_b2 {p : Prop} [Decidable p] {β : Type} (k : Option β) : gB (b2 p) k = k := by
  by_cases h : p
  · rw [b2_t h]; rfl
  · rw [b2_f h]; rfl
theorem i64_toInt (x : Int32) : x.toInt64.toInt = x.toInt := Int32.toInt_toInt64 x
theorem in_b2 (x lo hi : Int64) : fX5_in x lo hi = some (b2 (lo.toInt ≤ x.toInt ∧ x.toInt ≤ hi.toInt), ()) := by
  unfold fX5_in
  by_cases h1 : lo.toInt ≤ x.toInt
  · have g1 : ¬ lg_cmp x lo < 0 := by rw [lg_cmp_lt, Int64.lt_iff_toInt_lt]; omega
    rw [if_neg g1]
    by_cases h2 : x.toInt ≤ hi.toInt
    · have g2 : ¬ 0 < lg_cmp x hi := by rw [lg_cmp_gt, Int64.lt_iff_toInt_lt]; omega
      rw [if_neg g2, b2_t ⟨h1, h2⟩]
    · have g2 : 0 < lg_cmp x hi := by rw [lg_cmp_gt, Int64.lt_iff_toInt_lt]; omega
      rw [if_pos g2, b2_f (fun q => h2 q.2)]
  · have g1 : lg_cmp x lo < 0 := by rw [lg_cmp_lt, Int64.lt_iff_toInt_lt]; omega
    rw [if_pos g1, b2_f (fun q => h1 q.1)]
/-- between two numbers that are written -/
theorem in_32 (x : Int32) {lo hi : Int64} (l h : Int) (el : lo.toInt = l) (eh : hi.toInt = h) : fX5_in x.toInt64 lo hi = some (b2 (l ≤ x.toInt ∧ x.toInt ≤ h), ()) := by
  rw [in_b2, i64_toInt]
  subst el; subst eh
  rfl
theorem rng_b2 {x a b : Int32} {β : Type} (k0 k1 : β) : (if x < a then k0 else (if b ≤ x then k0 else k1)) = if a.toInt ≤ x.toInt ∧ x.toInt < b.toInt then k1 else k0 := by
  by_cases h1 : x < a
  · rw [if_pos h1, if_neg]
    rw [Int32.lt_iff_toInt_lt] at h1; omega
  · rw [if_neg h1]
    by_cases h2 : b ≤ x
    · rw [if_pos h2, if_neg]
      rw [Int32.le_iff_toInt_le] at h2; omega
    · rw [if_neg h2, if_pos]
      rw [Int32.lt_iff_toInt_lt] at h1; rw [Int32.le_iff_toInt_le] at h2; omega
theorem isKind_b2 (x : Int32) : fX4_isKind x = some (b2 (0 ≤ x.toInt ∧ x.toInt ≤ 5), ()) := by
  unfold fX4_isKind
  have e0 : (0 : Int32).toInt = 0 := by decide
  have e6 : (6 : Int32).toInt = 6 := by decide
  rw [rng_b2, e0, e6]
  by_cases h : 0 ≤ x.toInt ∧ x.toInt ≤ 5
  · rw [b2_t h, if_pos (by omega)]
  · rw [b2_f h, if_neg (by omega)]
theorem isSheet_b2 (x : Int32) : fX4_isSheet x = some (b2 (0 ≤ x.toInt ∧ x.toInt ≤ 3), ()) := by
  unfold fX4_isSheet
  have e0 : (0 : Int32).toInt = 0 := by decide
  have e6 : (4 : Int32).toInt = 4 := by decide
  rw [rng_b2, e0, e6]
  by_cases h : 0 ≤ x.toInt ∧ x.toInt ≤ 3
  · rw [b2_t h, if_pos (by omega)]
  · rw [b2_f h, if_neg (by omega)]
theorem isCost_b2 (x : Int32) : fX4_isCost x = some (b2 (0 ≤ x.toInt ∧ x.toInt ≤ 99), ()) := by
  unfold fX4_isCost
  have e0 : (0 : Int32).toInt = 0 := by decide
  have e9 : (99 : Int32).toInt = 99 := by decide
  by_cases h1 : x < 0
  · rw [if_pos h1, b2_f]
    rw [Int32.lt_iff_toInt_lt] at h1; omega
  · rw [if_neg h1]
    rw [Int32.lt_iff_toInt_lt] at h1
    by_cases h2 : 99 < x
    · rw [if_pos h2, b2_f]
      rw [Int32.lt_iff_toInt_lt] at h2; omega
    · rw [if_neg h2, b2_t]
      rw [Int32.lt_iff_toInt_lt] at h2; omega
theorem isOne_b2 (x : Int32) : fX5_isOne x = some (b2 (0 ≤ x.toInt ∧ x.toInt ≤ 3), ()) := by
  unfold fX5_isOne
  rw [in_32 x 0 3 (by decide) (by decide), bR_some, gB_b2]
theorem has_b2 (n x : Int32) : fX0_has n x = some (b2 (0 ≤ x.toInt ∧ x.toInt < n.toInt), ()) := by
  unfold fX0_has
  rw [rng_b2]
  by_cases h : 0 ≤ x.toInt ∧ x.toInt < n.toInt
  · rw [b2_t h, if_pos]; exact h
  · rw [b2_f h, if_neg]; exact h
/-- an int between two numbers -/
theorem i_ex {x : Int32} {n : Nat} (hn : n < 2 ^ 31) (h1 : 0 ≤ x.toInt) (h2 : x.toInt < n) : ∃ k : Nat, k < n ∧ x = nI k := by
  refine ⟨x.toInt.toNat, by omega, Int32.toInt_inj.mp ?_⟩
  rw [nI_toInt (by omega)]
  omega
