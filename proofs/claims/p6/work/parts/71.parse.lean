/-! a term read: the class's words beside the reference's steps -/
/-- by list l, out of four words -/
def LV (V : Nat → Int64) (l : Nat) : Bool := (V (l / 64)).toBitVec.getLsbD (l % 64)
/-- the byte to be read next -/
def pk (t : Nat) (B : Nat → Nat) (k : Nat) : Int32 := if k < t then nI (B k) else -1
section PARSE
variable {t g : Nat} {B : Nat → Nat} {by_ ta : Nat → Int32}
/-- bytes of both -/
def RB (t : Nat) (B : Nat → Nat) (by_ ta : Nat → Int32) : Prop := t ≤ 60 ∧ ∀ j, j < t → B j < 256 ∧ by_ j = nI (B j) ∧ ta j = nI (B j)
theorem sign_nf (H : RB t B by_ ta) {k : Nat} (hk : k ≤ t) : fX2_sign (nI t) (nI k) (-1) by_ = some (pk t B k, ()) := by
  have ht := H.1
  unfold fX2_sign pk
  rw [if_pos rfl, ite_le (by omega) (by omega)]
  by_cases c : t ≤ k
  · rw [if_pos c, if_neg (by omega)]
  · rw [if_neg c, gIn_nI (by omega) (by decide), nI_clamp (by omega), if_pos (by omega), (H.2 k (by omega)).2.1]
theorem look_nf (H : RB t B by_ ta) {k : Nat} (hk : k ≤ t) : fX5_look (nI t) (nI k) ta = some (pk t B k, ()) := by
  have ht := H.1
  unfold fX5_look pk
  rw [ite_le (by omega) (by omega)]
  by_cases c : t ≤ k
  · rw [if_pos c, if_neg (by omega)]
  · rw [if_neg c, gIn_nI (by omega) (by decide), nI_clamp (by omega), if_pos (by omega), (H.2 k (by omega)).2.2]
theorem pk_less {k c : Nat} (hc : c < 2 ^ 31) (h : pk t B k = nI c) : k < t := by
  unfold pk at h
  by_cases d : k < t
  · exact d
  · rw [if_neg d] at h; exact absurd h.symm (nI_m1 hc)
theorem nI_z (k : Nat) : nI k + 0 = nI k := by simp
theorem passes_t (H : RB t B by_ ta) {k : Nat} {c : Int32} (hk : k ≤ t) (h : pk t B k = c) : fX2_passes (nI t) (nI k) (-1) by_ c = some (1, nI (k + 1)) := by
  unfold fX2_passes fX2_passes_13
  rw [sign_nf H hk, bR_some, if_pos h, oneIf_1, bR_some, nm_of, nI_1]
  rfl
theorem passes_f (H : RB t B by_ ta) {k : Nat} {c : Int32} (hk : k ≤ t) (h : ¬ pk t B k = c) : fX2_passes (nI t) (nI k) (-1) by_ c = some (0, nI k) := by
  unfold fX2_passes fX2_passes_13
  rw [sign_nf H hk, bR_some, if_neg h, oneIf_0, bR_some, nm_of, nI_z]
  rfl
theorem passes_x {p f c : Int32} (hf : ¬ f = -1) (hc : ¬ (-1 : Int32) = c) : fX2_passes (nI t) p f by_ c = some (0, p + 0) := by
  unfold fX2_passes fX2_passes_13 fX2_sign
  rw [if_neg hf, bR_some, if_neg hc, oneIf_0, bR_some, nm_of]
  rfl
theorem fail_nf (p : Int32) : fX2_fail p (-1) = some (0, p) := by unfold fX2_fail; rw [if_pos rfl]
theorem fail_x {p f : Int32} (hf : ¬ f = -1) : fX2_fail p f = some (0, f) := by unfold fX2_fail; rw [if_neg hf]
theorem faulty_nf (a : Int32) : fX5_faulty a (-1) = some a := by unfold fX5_faulty fX5_faulty_19; rw [if_neg (by decide)]
theorem faulty_x {a : Int32} {q : Nat} (hq : q < 2 ^ 31) : fX5_faulty a (nI q) = some (nI q) := by unfold fX5_faulty fX5_faulty_19; rw [if_pos (nI_0le hq)]
/-- steps and words so far go with each other -/
def Good (g t k m : Nat) (st : Nat → Int32) (k' m' : Nat) (st' : Nat → Int32) (V : Nat → Int64) (cs : Nat → Nat) : Prop :=
  k < k' ∧ k' ≤ t ∧ m < m' ∧ m' + k ≤ m + k' ∧ (∀ j, j < m → st' j = st j) ∧ (∀ j, m ≤ j → j < m' → cs j < 143 ∧ st' j = nI (cs j)) ∧ ∀ l, l < 256 → Seg (pop (clr l g)) l cs m (m' - m) (LV V l)
/-- it is read well -/
def NFp (g t o k m : Nat) (st : Nat → Int32) (oC : Nat → Option (Int64 × Int32 × Int32)) (oM : Option (Int32 × Int32 × Int32 × Int32 × (Nat → Int32))) : Prop :=
  ∃ (k' m' : Nat) (st' : Nat → Int32) (V : Nat → Int64) (cs : Nat → Nat), oM = some (nI k', -1, nI m', nI o, st') ∧ (∀ w, w < 4 → oC w = some (V w, (nI k', -1))) ∧ Good g t k m st k' m' st' V cs
/-- a fault at q -/
def FAp (t o k m : Nat) (oC : Nat → Option (Int64 × Int32 × Int32)) (oM : Option (Int32 × Int32 × Int32 × Int32 × (Nat → Int32))) : Prop :=
  ∃ (a' : Int32) (q m' : Nat) (st' : Nat → Int32), oM = some (a', nI q, nI m', nI o, st') ∧ (∀ w, w < 4 → ∃ v p, oC w = some (v, (p, nI q))) ∧ k ≤ q ∧ q ≤ t ∧ m ≤ m' ∧ m' + k ≤ m + q
/-- the word of those lists on which one is -/
def lw (c w : Nat) : Int64 := if 6 ≤ c then (if w.testBit (c - 6) then -1 else 0) else q_tb c
theorem lw_bit : ∀ c, c < 8 → ∀ l, l < 256 → LV (lw c) l = l.testBit c := by decide +kernel
theorem listsWith_eq : ∀ c, c < 8 → ∀ w, w < 4 → fX2_listsWith (nI w) (nI c) = some (lw c w, ()) := by decide +kernel
/-- whether so many others go with a sign and a digit -/
def cmpB (sg d o : Nat) : Bool := if sg = 60 then decide (o < d) else if sg = 61 then decide (o = d) else decide (d < o)
theorem one_bit : ∀ i, i < 64 → (jlshl 1 (nI i)).toBitVec = BitVec.twoPow 64 i := by decide +kernel
theorem lwo_loop {w sg d : Nat} (hg : g < 8) (hw : w < 4) (hs : sg = 60 ∨ sg = 61 ∨ sg = 62) (hd : d < 10) : ∀ (f i : Nat) (y : Int64), i ≤ 64 → 64 - i < f → (∀ j, j < 64 → y.toBitVec.getLsbD j = (decide (j < i) && cmpB sg d (pop (clr (64 * w + j) g)))) → ∃ y', ll4 (fX2_listsWhereOthers_5 (nI g) (nI w)) f (nI sg) (nI d) y (nI i) = some (y', ()) ∧ ∀ j, j < 64 → y'.toBitVec.getLsbD j = cmpB sg d (pop (clr (64 * w + j) g)) := by
  intro f
  induction f with
  | zero => intro i y _ h; exact absurd h (by omega)
  | succ f ih =>
    intro i y hi hf hy
    have ih := ih (i + 1)
    show ∃ y', fX2_listsWhereOthers_5 (nI g) (nI w) (ll4 (fX2_listsWhereOthers_5 (nI g) (nI w)) f) (nI sg) (nI d) y (nI i) = some (y', ()) ∧ _
    generalize ll4 (fX2_listsWhereOthers_5 (nI g) (nI w)) f = ag at ih ⊢
    unfold fX2_listsWhereOthers_5
    rw [show (if (64 : Int32) ≤ nI i then some (y, ()) else _) = (if 64 ≤ i then some (y, ()) else _) from ite_le (a := 64) (by decide) (by omega) _ _]
    by_cases c : 64 ≤ i
    · rw [if_pos c]
      refine ⟨y, rfl, fun j hj => ?_⟩
      rw [hy j hj, decide_eq_true (by omega), Bool.true_and]
    · have e : nI w * 64 + nI i = nI (64 * w + i) := by rw [fa_lit 64, nI_mulL, nI_add, Nat.mul_comm]
      have hp := pop_le (clr (64 * w + i) g)
      rw [if_neg c, nm_of, e, clr_i (by omega) hg, pop_i _ (clr_lt (by omega)), bR_some]
      have e91t : fX2_listsWhereOthers_91 (nI g) (nI w) ag 1 (nI sg) (nI d) y (nI i) = ag (nI sg) (nI d) (y ||| jlshl 1 (nI i)) (nI (i + 1)) := by
        unfold fX2_listsWhereOthers_91 fX2_listsWhereOthers_107
        rw [if_neg one_ne, nm_of, nm_of, nI_1]
      have e91f : fX2_listsWhereOthers_91 (nI g) (nI w) ag 0 (nI sg) (nI d) y (nI i) = ag (nI sg) (nI d) (y ||| 0) (nI (i + 1)) := by
        unfold fX2_listsWhereOthers_91 fX2_listsWhereOthers_107
        rw [if_pos rfl, nm_of, nm_of, nI_1]
      have key : ∀ b : Bool, cmpB sg d (pop (clr (64 * w + i) g)) = b → ∃ y', (if b then ag (nI sg) (nI d) (y ||| jlshl 1 (nI i)) (nI (i + 1)) else ag (nI sg) (nI d) (y ||| 0) (nI (i + 1))) = some (y', ()) ∧ ∀ j, j < 64 → y'.toBitVec.getLsbD j = cmpB sg d (pop (clr (64 * w + j) g)) := by
        intro b hb
        cases b with
        | true =>
          refine ih _ (by omega) (by omega) (fun j hj => ?_)
          rw [Int64.toBitVec_or, one_bit i (by omega), BitVec.getLsbD_or, hy j hj, BitVec.getLsbD_twoPow]
          by_cases z : j = i
          · subst z; rw [hb]; simp; omega
          · by_cases z2 : j < i
            · rw [decide_eq_true z2, decide_eq_true (show j < i + 1 by omega)]
              simp
              intro q; omega
            · rw [decide_eq_false z2, decide_eq_false (show ¬ j < i + 1 by omega)]
              simp
              omega
        | false =>
          refine ih _ (by omega) (by omega) (fun j hj => ?_)
          rw [Int64.toBitVec_or, show (0 : Int64).toBitVec = 0#64 from rfl, BitVec.or_zero, hy j hj]
          by_cases z : j = i
          · subst z; rw [hb]; simp
          · by_cases z2 : j < i
            · rw [decide_eq_true z2, decide_eq_true (show j < i + 1 by omega)]
            · rw [decide_eq_false z2, decide_eq_false (show ¬ j < i + 1 by omega)]
      rw [e91t, e91f]
      have k := key _ rfl
      unfold cmpB at k
      rcases hs with rfl | rfl | rfl
      · rw [if_pos (show 60 = 60 from rfl)] at k
        rw [if_pos (show nI 60 = 60 from rfl), ite_le (by omega) (by omega)]
        by_cases z : d ≤ pop (clr (64 * w + i) g)
        · rw [if_pos z]
          rw [decide_eq_false (by omega)] at k
          exact k
        · rw [if_neg z]
          rw [decide_eq_true (by omega)] at k
          exact k
      · rw [if_neg (show ¬ 61 = 60 by decide), if_pos (show 61 = 61 from rfl)] at k
        rw [if_neg (show ¬ nI 61 = 60 by decide), if_pos (show nI 61 = 61 from rfl), ite_eqN (by omega) (by omega)]
        by_cases z : pop (clr (64 * w + i) g) = d
        · rw [if_pos z]
          rw [decide_eq_true z] at k
          exact k
        · rw [if_neg z]
          rw [decide_eq_false z] at k
          exact k
      · rw [if_neg (show ¬ 62 = 60 by decide), if_neg (show ¬ 62 = 61 by decide)] at k
        rw [if_neg (show ¬ nI 62 = 60 by decide), if_neg (show ¬ nI 62 = 61 by decide), ite_le (by omega) (by omega)]
        by_cases z : pop (clr (64 * w + i) g) ≤ d
        · rw [if_pos z]
          rw [decide_eq_false (by omega)] at k
          exact k
        · rw [if_neg z]
          rw [decide_eq_true (by omega)] at k
          exact k
theorem lwo_ex {sg d : Nat} (hg : g < 8) (hs : sg = 60 ∨ sg = 61 ∨ sg = 62) (hd : d < 10) : ∃ V : Nat → Int64, (∀ w, w < 4 → fX2_listsWhereOthers (nI g) (nI w) (nI sg) (nI d) = some (V w, ())) ∧ ∀ l, l < 256 → LV V l = cmpB sg d (pop (clr l g)) := by
  have h : ∀ w, ∃ v : Int64, w < 4 → fX2_listsWhereOthers (nI g) (nI w) (nI sg) (nI d) = some (v, ()) ∧ ∀ j, j < 64 → v.toBitVec.getLsbD j = cmpB sg d (pop (clr (64 * w + j) g)) := by
    intro w
    by_cases hw : w < 4
    · obtain ⟨v, e, hv⟩ := lwo_loop (g := g) hg hw hs hd 1024 0 0 (by omega) (by omega) (fun j hj => by simp)
      exact ⟨v, fun _ => ⟨e, hv⟩⟩
    · exact ⟨0, fun q => absurd q hw⟩
  refine ⟨fun w => (h w).choose, fun w hw => ((h w).choose_spec hw).1, fun l hl => ?_⟩
  have := ((h (l / 64)).choose_spec (by omega)).2 (l % 64) (Nat.mod_lt _ (by decide))
  unfold LV
  rw [this, show 64 * (l / 64) + l % 64 = l from Nat.div_add_mod l 64]
end PARSE
