/-! what a method gives back; numbers; bits of lists below 256 -/
def Ret {α κ : Type} (o : Option (α × κ)) (r : α) (Q : κ → Prop) : Prop := ∃ k, o = some (r, k) ∧ Q k
def RetV {κ : Type} (o : Option κ) (Q : κ → Prop) : Prop := ∃ k, o = some k ∧ Q k
theorem Ret.mk {α κ : Type} {r : α} {k : κ} {Q : κ → Prop} (h : Q k) : Ret (some (r, k)) r Q := ⟨k, rfl, h⟩
theorem Ret.mk' {α κ : Type} {r r' : α} {k : κ} {Q : κ → Prop} (e : r = r') (h : Q k) : Ret (some (r, k)) r' Q := ⟨k, by rw [e], h⟩
theorem RetV.mk {κ : Type} {k : κ} {Q : κ → Prop} (h : Q k) : RetV (some k) Q := ⟨k, rfl, h⟩
theorem Ret.b1 {α κ α' κ' : Type} {o : Option (α × κ)} {r : α} {Q : κ → Prop} {f : α → κ → Option (α' × κ')} {r' : α'} {Q' : κ' → Prop} (h : Ret o r Q) (hk : ∀ k, Q k → Ret (f r k) r' Q') : Ret (bR o f) r' Q' := by
  obtain ⟨k, e, q⟩ := h
  rw [e, bR_some]
  exact hk k q
theorem Ret.b1V {α κ κ' : Type} {o : Option (α × κ)} {r : α} {Q : κ → Prop} {f : α → κ → Option κ'} {Q' : κ' → Prop} (h : Ret o r Q) (hk : ∀ k, Q k → RetV (f r k) Q') : RetV (bR o f) Q' := by
  obtain ⟨k, e, q⟩ := h
  rw [e, bR_some]
  exact hk k q
theorem bV_some {κ β : Type} (x : κ) (k : κ → Option β) : bV (some x) k = k x := rfl
theorem RetV.b1 {κ α' κ' : Type} {o : Option κ} {Q : κ → Prop} {f : κ → Option (α' × κ')} {r' : α'} {Q' : κ' → Prop} (h : RetV o Q) (hk : ∀ k, Q k → Ret (f k) r' Q') : Ret (bV o f) r' Q' := by
  obtain ⟨k, e, q⟩ := h
  rw [e, bV_some]
  exact hk k q
theorem RetV.bb {κ κ' : Type} {o : Option κ} {Q : κ → Prop} {f : κ → Option κ'} {Q' : κ' → Prop} (h : RetV o Q) (hk : ∀ k, Q k → RetV (f k) Q') : RetV (bV o f) Q' := by
  obtain ⟨k, e, q⟩ := h
  rw [e, bV_some]
  exact hk k q
theorem Ret.weaken {α κ : Type} {o : Option (α × κ)} {r : α} {Q Q' : κ → Prop} (h : Ret o r Q) (hq : ∀ k, Q k → Q' k) : Ret o r Q' := by
  obtain ⟨k, e, q⟩ := h
  exact ⟨k, e, hq k q⟩
theorem RetV.weaken {κ : Type} {o : Option κ} {Q Q' : κ → Prop} (h : RetV o Q) (hq : ∀ k, Q k → Q' k) : RetV o Q' := by
  obtain ⟨k, e, q⟩ := h
  exact ⟨k, e, hq k q⟩
/-! numbers (fa_lit, fa_and, fa_or, ts_bit began as rows of kit/laws) -/
theorem fa_lit (n : Nat) : (OfNat.ofNat n : Int32) = nI n := rfl
theorem fa_and (a b : Nat) : nI a &&& nI b = nI (a &&& b) := by
  apply Int32.toBitVec_inj.1
  show BitVec.ofNat 32 a &&& BitVec.ofNat 32 b = BitVec.ofNat 32 (a &&& b)
  apply BitVec.eq_of_getLsbD_eq
  intro i hi
  simp [hi]
theorem fa_or (a b : Nat) : nI a ||| nI b = nI (a ||| b) := by
  apply Int32.toBitVec_inj.1
  show BitVec.ofNat 32 a ||| BitVec.ofNat 32 b = BitVec.ofNat 32 (a ||| b)
  apply BitVec.eq_of_getLsbD_eq
  intro i hi
  simp [hi]
theorem fa_xor (a b : Nat) : nI a ^^^ nI b = nI (a ^^^ b) := by
  apply Int32.toBitVec_inj.1
  show BitVec.ofNat 32 a ^^^ BitVec.ofNat 32 b = BitVec.ofNat 32 (a ^^^ b)
  apply BitVec.eq_of_getLsbD_eq
  intro i hi
  simp [hi]
theorem ts_bit {w : Int64} {s : UInt64} {j : Nat} (hj : j < 64) (hs : s.toNat = j) : ((w.toUInt64 >>> s).toInt64 &&& 1) = 0 ↔ w.toBitVec.getLsbD j = false := by
  have e : (w.toUInt64 >>> s).toInt64.toBitVec = w.toBitVec >>> j := by
    apply BitVec.eq_of_toNat_eq
    show (w.toUInt64 >>> s).toNat = _
    rw [UInt64.toNat_shiftRight, hs, Nat.mod_eq_of_lt hj, BitVec.toNat_ushiftRight]
    rfl
  rw [← Int64.toBitVec_inj, Int64.toBitVec_and, e]
  show w.toBitVec >>> j &&& 1#64 = 0#64 ↔ _
  constructor
  · intro h
    have t := congrArg (fun x => x.getLsbD 0) h
    simpa using t
  · intro h
    apply BitVec.eq_of_getLsbD_eq
    intro i hi
    cases i with
    | zero => simp [h]
    | succ i => simp
theorem ite_le {α : Type} {a b : Nat} (ha : a < 2 ^ 31) (hb : b < 2 ^ 31) (x y : α) : (if nI a ≤ nI b then x else y) = if a ≤ b then x else y := by
  by_cases h : a ≤ b
  · rw [if_pos h, if_pos ((nI_leI ha hb).mpr h)]
  · rw [if_neg h, if_neg (fun q => h ((nI_leI ha hb).mp q))]
theorem ite_lt {α : Type} {a b : Nat} (ha : a < 2 ^ 31) (hb : b < 2 ^ 31) (x y : α) : (if nI a < nI b then x else y) = if a < b then x else y := by
  by_cases h : a < b
  · rw [if_pos h, if_pos ((nI_ltI ha hb).mpr h)]
  · rw [if_neg h, if_neg (fun q => h ((nI_ltI ha hb).mp q))]
theorem ite_eqN {α : Type} {a b : Nat} (ha : a < 2 ^ 31) (hb : b < 2 ^ 31) (x y : α) : (if nI a = nI b then x else y) = if a = b then x else y := by
  by_cases h : a = b
  · rw [if_pos h, if_pos ((nI_eq ha hb).mpr h)]
  · rw [if_neg h, if_neg (fun q => h ((nI_eq ha hb).mp q))]
theorem nI_neg {a : Nat} (ha : a < 2 ^ 31) : ¬ nI a < 0 := by
  rw [Int32.lt_iff_toInt_lt, nI_toInt ha]
  have e : (0 : Int32).toInt = 0 := by decide
  omega
theorem nI_0le {a : Nat} (ha : a < 2 ^ 31) : (0 : Int32) ≤ nI a := by
  rw [Int32.le_iff_toInt_le, nI_toInt ha]
  have e : (0 : Int32).toInt = 0 := by decide
  omega
theorem nI_m1 {a : Nat} (ha : a < 2 ^ 31) : ¬ nI a = -1 := by
  rw [← Int32.toInt_inj, nI_toInt ha]
  have e : (-1 : Int32).toInt = -1 := by decide
  omega
theorem nI_mulL (a b : Nat) : nI a * nI b = nI (a * b) := (Int32.ofNat_mul a b).symm
theorem nI_sub1 {a b : Nat} (h : b ≤ a) : nI a - nI b = nI (a - b) := by
  have : nI a = nI (a - b) + nI b := by rw [nI_add, Nat.sub_add_cancel h]
  rw [this, Int32.add_sub_cancel]
theorem gIn_c {β : Type} {x : Int32} {i n : Nat} {k : Option β} (e : x = nI i) (h : i < n) (hn : n < 2 ^ 31) : gIn x n k = k := by rw [e, gIn_nI h hn]
theorem lg_cmp_0 (x y : Int64) : lg_cmp x y = 0 ↔ x = y := by
  unfold lg_cmp
  by_cases h : x > y
  · rw [if_pos h]
    constructor
    · intro q; exact absurd q (by decide)
    · intro q; subst q; exact absurd h (by simp)
  · rw [if_neg h]
    by_cases h2 : x = y
    · rw [if_pos h2]; simp [h2]
    · rw [if_neg h2]
      constructor
      · intro q; exact absurd q (by decide)
      · intro q; exact absurd q h2
/-! bits -/
def pop (l : Nat) : Nat := l % 2 + l / 2 % 2 + l / 4 % 2 + l / 8 % 2 + l / 16 % 2 + l / 32 % 2 + l / 64 % 2 + l / 128 % 2
theorem pop_le (l : Nat) : pop l ≤ 8 := by unfold pop; omega
/-- a list without one -/
def clr (l g : Nat) : Nat := l &&& (255 ^^^ 2 ^ g)
theorem bit_i : ∀ g, g < 9 → jshl 1 (nI g) = nI (2 ^ g) := by decide +kernel
theorem two_le {g : Nat} (h : g ≤ 8) : 2 ^ g ≤ 256 := Nat.pow_le_pow_right (by decide) h
theorem two_lt {g : Nat} (h : g < 8) : 2 ^ g < 256 := Nat.pow_lt_pow_right (a := 2) (by decide) h
theorem clr_b : ∀ g, g < 8 → (jshl 1 (nI g) ^^^ (-1)) &&& nI 255 = nI (255 ^^^ 2 ^ g) := by decide +kernel
theorem and255 {l : Nat} (h : l < 256) : l &&& 255 = l := by
  have := Nat.and_two_pow_sub_one_eq_mod l 8
  rw [show (2 : Nat) ^ 8 - 1 = 255 from rfl] at this
  rw [this]
  exact Nat.mod_eq_of_lt h
theorem and255i {l : Nat} (h : l < 256) : nI l &&& 255 = nI l := by
  rw [fa_lit 255, fa_and, and255 h]
theorem clr_i {l g : Nat} (hl : l < 256) (hg : g < 8) : nI l &&& (jshl 1 (nI g) ^^^ (-1)) = nI (clr l g) := by
  have e : nI l = nI l &&& nI 255 := by rw [fa_and, and255 hl]
  rw [e, Int32.and_assoc, Int32.and_comm (nI 255), clr_b g hg, fa_and]
  rfl
theorem clr_lt {l g : Nat} (hl : l < 256) : clr l g < 256 := Nat.lt_of_le_of_lt Nat.and_le_left hl
theorem clr_le {l g : Nat} : clr l g ≤ l := Nat.and_le_left
theorem clr_t {l g : Nat} (hl : l < 256) (hg : g < 8) (i : Nat) : (clr l g).testBit i = (l.testBit i && decide (i ≠ g)) := by
  unfold clr
  rw [Nat.testBit_and, Nat.testBit_xor, Nat.testBit_two_pow]
  by_cases h : i < 8
  · have : Nat.testBit 255 i = true := by
      have := Nat.testBit_two_pow_sub_one 8 i
      rw [show (2 : Nat) ^ 8 - 1 = 255 from rfl] at this
      rw [this]; exact decide_eq_true h
    rw [this]
    by_cases c : g = i
    · subst c; simp
    · have c2 : ¬ i = g := fun q => c q.symm
      simp [c, c2]
  · have : l.testBit i = false := Nat.testBit_lt_two_pow (Nat.lt_of_lt_of_le hl (Nat.pow_le_pow_right (n := 2) (i := 8) (by decide) (by omega)))
    rw [this]; simp
theorem pop_i : ∀ l, l < 256 → fJ6_bitCount_0f7a4 (nI l) = some (nI (pop l), ()) := by decide +kernel
theorem ones_i : ∀ l, l < 256 → fX5_ones (nI l) = some (nI (pop l), ()) := by decide +kernel
theorem oth_c {l g : Nat} (hl : l < 256) (hg : g < 8) : fX4_othersOn (nI g) (nI l) = some (nI (pop (clr l g)), ()) := by
  unfold fX4_othersOn
  rw [clr_i hl hg, pop_i _ (clr_lt hl), bR_some]
theorem oth_m {l g : Nat} (hl : l < 256) (hg : g < 8) : fX5_others (nI g) (nI l) = some (nI (pop (clr l g)), ()) := by
  unfold fX5_others
  rw [clr_i hl hg, ones_i _ (clr_lt hl), bR_some]
theorem shr_i : ∀ l, l < 256 → ∀ g, g < 8 → jshr (nI l) (nI g) &&& 1 = b2 (l.testBit g = true) := by decide +kernel
theorem isOn_i {l g : Nat} (hl : l < 256) (hg : g < 8) : fX4_isOn (nI g) (nI l) = some (b2 (l.testBit g = true), ()) := by
  unfold fX4_isOn
  rw [shr_i l hl g hg]
  by_cases h : l.testBit g = true
  · rw [b2_t h]; rfl
  · rw [b2_f h]; rfl
theorem hasM_i {l g : Nat} (hl : l < 256) (hg : g < 8) : fX5_has (nI l) (nI g) = some (b2 (l.testBit g = true), ()) := by
  unfold fX5_has
  rw [shr_i l hl g hg]
  by_cases h : l.testBit g = true
  · rw [b2_t h]; rfl
  · rw [b2_f h]; rfl
/-- a set out of a truth for each -/
def wdn (C : Nat → Bool) : Nat → Nat
  | 0 => 0
  | g + 1 => wdn C g ||| (if C g then 2 ^ g else 0)
theorem wdn_lt (C : Nat → Bool) : ∀ n, wdn C n < 2 ^ n
  | 0 => Nat.zero_lt_one
  | g + 1 => by
    have ih := wdn_lt C g
    have h1 : 2 ^ g < 2 ^ (g + 1) := Nat.pow_lt_pow_right (by decide) (by omega)
    refine Nat.or_lt_two_pow (by omega) ?_
    by_cases c : C g = true
    · rw [if_pos c]; exact h1
    · rw [if_neg c]; omega
theorem wdn_t (C : Nat → Bool) : ∀ n i, (wdn C n).testBit i = (decide (i < n) && C i)
  | 0, i => by simp [wdn]
  | g + 1, i => by
    have ih := wdn_t C g i
    show (wdn C g ||| (if C g then 2 ^ g else 0)).testBit i = _
    rw [Nat.testBit_or, ih]
    by_cases c : i < g
    · have e : ¬ g = i := by omega
      have e2 : i < g + 1 := by omega
      cases h : C g <;> simp [c, e, e2, Nat.testBit_two_pow]
    · by_cases d : i = g
      · subst d
        cases h : C i <;> simp [Nat.testBit_two_pow, h]
      · have e2 : ¬ i < g + 1 := by omega
        have e3 : ¬ g = i := fun q => d q.symm
        cases h : C g <;> simp [c, e2, e3, Nat.testBit_two_pow]
theorem wdn_congr {C D : Nat → Bool} : ∀ {n : Nat}, (∀ g, g < n → C g = D g) → wdn C n = wdn D n
  | 0, _ => rfl
  | g + 1, h => by
    show wdn C g ||| _ = wdn D g ||| _
    rw [wdn_congr (fun i hi => h i (by omega)), h g (by omega)]
/-- WOULD one of a kind come, whose term holds or not, with so many others on the list -/
def cm (k : Nat) (h : Bool) (o : Nat) : Bool :=
  match k with
  | 0 => h
  | 1 => h || decide (4 ≤ o)
  | 2 => h && decide (o ≤ 4)
  | 4 => h || decide (4 ≤ o) || decide (o = 0)
  | 5 => !(h && decide (o ≤ 4))
  | _ => false
/-- the list one round later -/
def Wd (n : Nat) (kd : Nat → Nat) (Hh : Nat → Nat → Bool) (l : Nat) : Nat := wdn (fun g => cm (kd g) (Hh g l) (pop (clr l g))) n
theorem Wd_lt (n : Nat) (kd : Nat → Nat) (Hh : Nat → Nat → Bool) (l : Nat) : Wd n kd Hh l < 2 ^ n := wdn_lt _ n
