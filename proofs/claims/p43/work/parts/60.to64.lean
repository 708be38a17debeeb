section
/-! the two states beside each other -/
def Both {α κ1 κ2 : Type} (o1 : Option (α × κ1)) (o2 : Option (α × κ2)) (Q : κ1 → κ2 → Prop) : Prop := ∃ r k1 k2, o1 = some (r, k1) ∧ o2 = some (r, k2) ∧ Q k1 k2
theorem Both.of {α κ1 κ2 : Type} {o1 : Option (α × κ1)} {o2 : Option (α × κ2)} {Q : κ1 → κ2 → Prop} {r : α} {Q1 : κ1 → Prop} {Q2 : κ2 → Prop} (h1 : Ret o1 r Q1) (h2 : Ret o2 r Q2) (h : ∀ k1 k2, Q1 k1 → Q2 k2 → Q k1 k2) : Both o1 o2 Q := by
  obtain ⟨k1, e1, q1⟩ := h1
  obtain ⟨k2, e2, q2⟩ := h2
  exact ⟨r, k1, k2, e1, e2, h k1 k2 q1 q2⟩
theorem Both.mk {α κ1 κ2 : Type} {Q : κ1 → κ2 → Prop} {r : α} {k1 : κ1} {k2 : κ2} (h : Q k1 k2) : Both (some (r, k1)) (some (r, k2)) Q := ⟨r, k1, k2, rfl, rfl, h⟩
theorem Both.mk' {α κ1 κ2 : Type} {Q : κ1 → κ2 → Prop} {r r' : α} {k1 : κ1} {k2 : κ2} (e : r = r') (h : Q k1 k2) : Both (some (r, k1)) (some (r', k2)) Q := ⟨r, k1, k2, rfl, by rw [e], h⟩
/-- findings counted -/
def FS (fi st : Nat → Int32) : Prop := ∀ k, k < 7 → fi k = st k
theorem FS.up {fi st : Nat → Int32} (h : FS fi st) {j : Nat} (hj : j < 7) : FS (upd fi j (fi j + 1)) (upd st j (st j + 1)) := by
  intro k hk
  by_cases c : k = j
  · subst c; rw [pk_us, pk_us, h k hk]
  · rw [pk_un c, pk_un c]; exact h k hk
def RA (sz li to : Int32) (ki co : Nat → Int32) (te : Nat → Int64) (s : Nat → Int32) (n l : Nat) (kd cc : Nat → Nat) (Hh : Nat → Nat → Bool) : Prop :=
  PC n kd Hh sz ki te ∧ PM n kd Hh s ∧ (l < 2 ^ n ∧ li = nI l ∧ s 1 = nI l) ∧ (∀ g, g < n → cc g < 100 ∧ co g = nI (cc g) ∧ s (3 + 3 * g) = nI (cc g)) ∧ (∃ t, t < 2 ^ n ∧ to = nI t ∧ ∀ g, g < n → (t.testBit g = true ↔ ¬ s (4 + 3 * g) = 0)) ∧ (∀ j, 4 * n ≤ j → j < 32 → te j = -1)
theorem nm1_i : ∀ n, n < 9 → ((nI n - 1).toInt64).toInt = (n : Int) - 1 := by decide +kernel
theorem nl1_i : ∀ n, n < 9 → ((nI (2 ^ n) - 1).toInt64).toInt = ((2 ^ n : Nat) : Int) - 1 := by decide +kernel
theorem has_g {n : Nat} (hn : n ≤ 8) (x : Int32) : fX0_has (nI n) x = some (b2 (0 ≤ x.toInt ∧ x.toInt < n), ()) := by
  rw [has_b2, nI_toInt (by omega)]
theorem isSet_g {n : Nat} (hn : n ≤ 8) (x : Int32) : fX0_isSet (nI n) x = some (b2 (0 ≤ x.toInt ∧ x.toInt < (2 ^ n : Nat)), ()) := by
  unfold fX0_isSet
  have hN := two_le hn
  rw [lists_c hn, bR_some, rng_b2, nI_toInt (by omega), show (0 : Int32).toInt = 0 from by decide]
  by_cases c : 0 ≤ x.toInt ∧ x.toInt < (2 ^ n : Nat)
  · rw [if_pos c, b2_t c]
  · rw [if_neg c, b2_f c]
section REL
variable {sz li to : Int32} {ki co : Nat → Int32} {te : Nat → Int64} {s kn fi st pile wish mark : Nat → Int32} {n l : Nat} {kd cc : Nat → Nat} {Hh : Nat → Nat → Bool}
theorem isG_g (M : PM n kd Hh s) (x : Int32) : fX5_isGuest s x = some (b2 (0 ≤ x.toInt ∧ x.toInt < n), ()) := by
  unfold fX5_isGuest
  rw [M.2.1, in_b2, bR_some, gB_b2, i64_toInt, nm1_i n (by have := M.1; omega)]
  rw [b2_congr (show ((0 : Int64).toInt ≤ x.toInt ∧ x.toInt ≤ (n : Int) - 1) ↔ (0 ≤ x.toInt ∧ x.toInt < n) from by
    rw [show (0 : Int64).toInt = 0 from by decide]; omega)]
theorem isList_g (M : PM n kd Hh s) (x : Int32) : fX5_isList s x.toInt64 = some (b2 (0 ≤ x.toInt ∧ x.toInt < (2 ^ n : Nat)), ()) := by
  unfold fX5_isList
  rw [lists_m M, bR_some, in_b2, bR_some, gB_b2, i64_toInt, nl1_i n (by have := M.1; omega)]
  rw [b2_congr (show ((0 : Int64).toInt ≤ x.toInt ∧ x.toInt ≤ ((2 ^ n : Nat) : Int) - 1) ↔ (0 ≤ x.toInt ∧ x.toInt < (2 ^ n : Nat)) from by
    rw [show (0 : Int64).toInt = 0 from by decide]; omega)]
theorem RA.l256 (R : RA sz li to ki co te s n l kd cc Hh) : l < 256 := Nat.lt_of_lt_of_le R.2.2.1.1 (two_le R.1.1)
theorem TK.congr {g : Nat} {H : Nat → Bool} {s s' : Nat → Int32} (h : TK g H s) (e1 : s' (4 + 3 * g) = s (4 + 3 * g)) (e2 : ∀ k, k < 64 → s' (26 + 64 * g + k) = s (26 + 64 * g + k)) : TK g H s' := by
  obtain ⟨m, cs, h1, h2, h3, h4⟩ := h
  exact ⟨m, cs, h1, by rw [e1]; exact h2, fun k hk => ⟨(h3 k hk).1, by rw [e2 k (by omega)]; exact (h3 k hk).2⟩, h4⟩
/-- a place of the row that is no guest's term -/
theorem PM.upd {j : Nat} {v : Int32} (M : PM n kd Hh s) (h0 : ¬ j = 0) (h : ∀ g, g < n → ¬ j = 2 + 3 * g ∧ ¬ j = 4 + 3 * g) (h26 : j < 26) : PM n kd Hh (upd s j v) := by
  obtain ⟨a, b, c, d⟩ := M
  exact ⟨a, by rw [pk_un (by omega)]; exact b, fun g hg => ⟨(c g hg).1, by rw [pk_un (fun q => (h g hg).1 q.symm)]; exact (c g hg).2⟩, fun g hg => (d g hg).congr (pk_un (fun q => (h g hg).2 q.symm)) (fun k hk => pk_un (by omega))⟩
theorem RA.list (R : RA sz li to ki co te s n l kd cc Hh) {l' : Nat} (h : l' < 2 ^ n) : RA sz (nI l') to ki co te (upd s 1 (nI l')) n l' kd cc Hh := by
  obtain ⟨a, b, -, d, ⟨t, t1, t2, t3⟩, f⟩ := R
  refine ⟨a, b.upd (by omega) (fun g hg => by omega) (by omega), ⟨h, rfl, pk_us⟩, fun g hg => ⟨(d g hg).1, (d g hg).2.1, ?_⟩, ⟨t, t1, t2, fun g hg => ?_⟩, f⟩
  · rw [pk_un (by omega)]; exact (d g hg).2.2
  · rw [pk_un (by omega)]; exact t3 g hg
/-- a row with one put anew -/
def un (f : Nat → Nat) (g v : Nat) : Nat → Nat := fun j => if j = g then v else f j
theorem un_s {f : Nat → Nat} {g v : Nat} : un f g v g = v := if_pos rfl
theorem un_n {f : Nat → Nat} {g v j : Nat} (h : ¬ j = g) : un f g v j = f j := if_neg h
theorem RA.cost (R : RA sz li to ki co te s n l kd cc Hh) {g v : Nat} (hg : g < n) (hv : v < 100) : RA sz li to ki (upd co g (nI v)) te (upd s (3 + 3 * g) (nI v)) n l kd (un cc g v) Hh := by
  obtain ⟨a, b, c, d, ⟨t, t1, t2, t3⟩, f⟩ := R
  have hn := a.1
  refine ⟨a, b.upd (by omega) (fun j hj => by omega) (by omega), ⟨c.1, c.2.1, by rw [pk_un (by omega)]; exact c.2.2⟩, fun j hj => ?_, ⟨t, t1, t2, fun j hj => ?_⟩, f⟩
  · by_cases e : j = g
    · subst e
      rw [un_s, pk_us, pk_us]
      exact ⟨hv, rfl, rfl⟩
    · rw [un_n e, pk_un e, pk_un (by omega)]
      exact d j hj
  · rw [pk_un (by omega)]; exact t3 j hj
theorem RA.kind (R : RA sz li to ki co te s n l kd cc Hh) {g v : Nat} (hg : g < n) (hv : v < 6) : RA sz li to (upd ki g (nI v)) co te (upd s (2 + 3 * g) (nI v)) n l (un kd g v) cc Hh := by
  obtain ⟨a, b, c, d, ⟨t, t1, t2, t3⟩, f⟩ := R
  obtain ⟨a1, a2, a3, a4⟩ := a
  obtain ⟨b1, b2, b3, b4⟩ := b
  refine ⟨⟨a1, a2, fun j hj => ?_, a4⟩, ⟨b1, by rw [pk_un (by omega)]; exact b2, fun j hj => ?_, fun j hj => (b4 j hj).congr (pk_un (by omega)) (fun k hk => pk_un (by omega))⟩, ⟨c.1, c.2.1, by rw [pk_un (by omega)]; exact c.2.2⟩, fun j hj => ⟨(d j hj).1, (d j hj).2.1, by rw [pk_un (by omega)]; exact (d j hj).2.2⟩, ⟨t, t1, t2, fun j hj => by rw [pk_un (by omega)]; exact t3 j hj⟩, f⟩
  · by_cases e : j = g
    · subst e
      rw [un_s, pk_us]
      exact ⟨hv, rfl⟩
    · rw [un_n e, pk_un e]
      exact a3 j hj
  · by_cases e : j = g
    · subst e
      rw [un_s, pk_us]
      exact ⟨hv, rfl⟩
    · rw [un_n e, pk_un (by omega)]
      exact b3 j hj
theorem becomes_eq {j : Nat} (hj : j < 538) (v : Int32) : fX5_becomes s (nI j) v = some (s j, upd s j v) := by
  unfold fX5_becomes
  rw [gIn_nI hj (by decide), nm_of, gIn_nI hj (by decide), nI_clamp (by omega)]
theorem op_of (R : RA sz li to ki co te s n l kd cc Hh) (K : KV n kd Hh kn) (F : FS fi st) (x1 x2 : Int32) : Both (fX4_of sz li ki co te kn fi x1 x2) (fX5_of s st pile x1 x2) (fun k1 k2 => KV n kd Hh k1.1 ∧ FS k1.2 k2.1) := by
  have hl := R.l256
  obtain ⟨P, M, hL, hC, hT, -⟩ := R
  have hn := P.1
  have hsz := P.2.1
  subst hsz
  unfold fX4_of fX5_of
  rw [has_g hn, isG_g M, bR_some, bR_some, ite_b2, ite_b2]
  by_cases h : 0 ≤ x1.toInt ∧ x1.toInt < n
  · rw [if_pos h, if_pos h, in_32 x2 0 5 (by decide) (by decide), bR_some, ite_b2]
    obtain ⟨g, hg, rfl⟩ := i_ex (x := x1) (n := n) (by omega) h.1 h.2
    by_cases h2 : 0 ≤ x2.toInt ∧ x2.toInt ≤ 5
    · rw [if_pos h2, if_neg (show ¬ (x2.toInt < 0 ∨ 5 < x2.toInt) by omega)]
      obtain ⟨w, hw, rfl⟩ := i_ex (x := x2) (n := 6) (by decide) h2.1 (by omega)
      rw [hL.2.2, hL.2.1]
      match w, hw with
      | 0, _ =>
        rw [if_pos (by decide), if_pos (by decide), its_eq s (w := 0) (by omega) (by decide), bR_some, gIn_nI (by omega) (by decide), nI_clamp (by omega)]
        exact Both.mk' ((P.2.2.1 g hg).2.trans (M.2.2.1 g hg).2.symm) ⟨K, F⟩
      | 1, _ =>
        rw [if_neg (by decide), if_pos (by decide), if_pos (by decide), its_eq s (w := 1) (by omega) (by decide), bR_some, gIn_nI (by omega) (by decide), nI_clamp (by omega)]
        exact Both.mk' ((hC g hg).2.1.trans (by rw [show 2 + 3 * g + 1 = 3 + 3 * g by omega]; exact (hC g hg).2.2.symm)) ⟨K, F⟩
      | 2, _ =>
        rw [if_neg (by decide), if_neg (by decide), if_pos (by decide), if_neg (by decide), if_pos (by decide)]
        exact Both.mk ⟨K, F⟩
      | 3, _ =>
        rw [if_neg (by decide), if_neg (by decide), if_neg (by decide), if_pos (by decide), if_neg (by decide), if_neg (by decide), if_pos (by decide)]
        refine Both.of (r := b2 (cm (kd g) (Hh g l) (pop (clr l g)) = true)) (Q1 := fun k => KV n kd Hh k.1 ∧ k.2 = fi) (Q2 := fun k => k.1 = st) (Ret.b1 (comers_r P K hl) (fun k hk => ?_)) (Ret.b1 (comesBy_r M hg hl pile) (fun k _ => ret_if (Q := fun k => k.1 = st) (k := (st, k)) (show st = st from rfl) Iff.rfl)) (fun k1 k2 q1 q2 => ⟨q1.1, by rw [q2, q1.2]; exact F⟩)
        · rw [shr_i _ (Wd_256 hn kd Hh l) g (by omega)]
          refine Ret.mk' (b2_congr ?_) ⟨hk, rfl⟩
          unfold Wd
          rw [wdn_t, decide_eq_true hg, Bool.true_and]
      | 4, _ =>
        rw [if_neg (by decide), if_neg (by decide), if_neg (by decide), if_neg (by decide), if_pos (by decide), if_neg (by decide), if_neg (by decide), if_neg (by decide), if_pos (by decide), termHolds_eq te (by omega) hl, bR_some, oneIf_b2, bR_some, P.2.2.2 g hg l hl |>.symm]
        refine Both.of (r := b2 (Hh g l = true)) (Q1 := fun k => k = (kn, fi)) (Q2 := fun k => k.1 = st) (Ret.mk rfl) (Ret.b1 (holds_r (by omega) hl (M.2.2.2 g hg) pile) (fun k _ => ret_if (Q := fun k => k.1 = st) (k := (st, k)) (show st = st from rfl) Iff.rfl)) (fun k1 k2 q1 q2 => ?_)
        subst q1
        exact ⟨K, by rw [q2]; exact F⟩
      | 5, _ =>
        rw [if_neg (by decide), if_neg (by decide), if_neg (by decide), if_neg (by decide), if_neg (by decide), if_pos (by decide), if_neg (by decide), if_neg (by decide), if_neg (by decide), if_neg (by decide), if_pos (by decide), oth_c hl (by omega), oth_m hl (by omega), bR_some, bR_some]
        exact Both.mk ⟨K, F⟩
      | w + 6, h => exact absurd h (by omega)
    · rw [if_neg h2, if_pos (show x2.toInt < 0 ∨ 5 < x2.toInt by omega)]
      unfold fX5_of_20
      rw [fnd_1, fns_1, bR_some, bR_some]
      exact Both.mk ⟨K, F.up (by decide)⟩
  · rw [if_neg h, if_neg h]
    unfold fX5_of_20
    rw [fnd_1, fns_1, bR_some, bR_some]
    exact Both.mk ⟨K, F.up (by decide)⟩
theorem op_cost (R : RA sz li to ki co te s n l kd cc Hh) (F : FS fi st) (x1 x2 : Int32) : Both (fX4_cost sz co fi x1 x2) (fX5_cost s st x1 x2) (fun k1 k2 => (∃ cc', RA sz li to ki k1.1 te k2.1 n l kd cc' Hh) ∧ FS k1.2 k2.2) := by
  have R0 := R
  obtain ⟨P, M, hL, hC, hT, -⟩ := R
  have hn := P.1
  have hsz := P.2.1
  subst hsz
  unfold fX4_cost fX5_cost
  rw [has_g hn, isG_g M, bR_some, bR_some, ite_b2, ite_b2, isCost_b2, in_32 x2 0 99 (by decide) (by decide), bR_some, bR_some, ite_b2, ite_b2]
  unfold fX4_cost_18 fX5_cost_35
  rw [fnd_1, fns_1, bR_some, bR_some]
  by_cases h : 0 ≤ x1.toInt ∧ x1.toInt < n
  · rw [if_pos h, if_pos h]
    obtain ⟨g, hg, rfl⟩ := i_ex (x := x1) (n := n) (by omega) h.1 h.2
    by_cases h2 : 0 ≤ x2.toInt ∧ x2.toInt ≤ 99
    · rw [if_pos h2, if_pos h2]
      obtain ⟨v, hv, rfl⟩ := i_ex (x := x2) (n := 100) (by decide) h2.1 (by omega)
      have e : 2 + 3 * nI g + 1 = nI (3 + 3 * g) := by rw [fa_lit 2, fa_lit 3, nI_mulL, nI_add, nI_1]; congr 1; omega
      rw [e, becomes_eq (by omega), bR_some, gIn_nI (by omega) (by decide), nm_of, gIn_nI (by omega) (by decide), nI_clamp (by omega)]
      exact Both.mk' ((hC g hg).2.1.trans (hC g hg).2.2.symm) ⟨⟨_, R0.cost hg hv⟩, F⟩
    · rw [if_neg h2, if_neg h2]
      exact Both.mk ⟨⟨cc, R0⟩, F.up (by decide)⟩
  · rw [if_neg h, if_neg h]
    exact Both.mk ⟨⟨cc, R0⟩, F.up (by decide)⟩
theorem op_turn (R : RA sz li to ki co te s n l kd cc Hh) (K : KV n kd Hh kn) (F : FS fi st) (x1 x2 : Int32) : Both (fX4_turn sz ki kn fi x1 x2) (fX5_turn s st x1 x2) (fun k1 k2 => (∃ kd', RA sz li to k1.1 co te k2.1 n l kd' cc Hh ∧ KV n kd' Hh k1.2.1) ∧ FS k1.2.2 k2.2) := by
  have R0 := R
  obtain ⟨P, M, hL, hC, hT, -⟩ := R
  have hn := P.1
  have hsz := P.2.1
  subst hsz
  unfold fX4_turn fX5_turn
  rw [has_g hn, isG_g M, bR_some, bR_some, ite_b2, ite_b2, isKind_b2, in_32 x2 0 5 (by decide) (by decide), bR_some, bR_some, ite_b2, ite_b2]
  unfold fX4_turn_18 fX5_turn_33
  rw [fnd_1, fns_1, bR_some, bR_some]
  by_cases h : 0 ≤ x1.toInt ∧ x1.toInt < n
  · rw [if_pos h, if_pos h]
    obtain ⟨g, hg, rfl⟩ := i_ex (x := x1) (n := n) (by omega) h.1 h.2
    by_cases h2 : 0 ≤ x2.toInt ∧ x2.toInt ≤ 5
    · rw [if_pos h2, if_pos h2]
      obtain ⟨v, hv, rfl⟩ := i_ex (x := x2) (n := 6) (by decide) h2.1 (by omega)
      have e : 2 + 3 * nI g = nI (2 + 3 * g) := by rw [fa_lit 2, fa_lit 3, nI_mulL, nI_add]
      unfold fX0_turnInto
      rw [e, becomes_eq (by omega), bR_some, gIn_nI (by omega) (by decide), nm_of, gIn_nI (by omega) (by decide), nI_clamp (by omega), fillI 256 (by decide), bV_some, bR_some]
      exact Both.mk' ((P.2.2.1 g hg).2.trans (M.2.2.1 g hg).2.symm) ⟨⟨_, R0.kind hg hv, KV_new kn⟩, F⟩
    · rw [if_neg h2, if_neg h2]
      exact Both.mk ⟨⟨kd, R0, K⟩, F.up (by decide)⟩
  · rw [if_neg h, if_neg h]
    exact Both.mk ⟨⟨kd, R0, K⟩, F.up (by decide)⟩
theorem under_i : ∀ k, k < 6 → ∀ v, v < 6 → fX4_isUnder (nI k) (nI v) = some (b2 (v = 0 ∨ k = v ∨ (v = 1 ∧ k = 4) ∨ (v = 2 ∧ k = 5)), ()) := by decide +kernel
theorem op_as (R : RA sz li to ki co te s n l kd cc Hh) (F : FS fi st) (x1 x2 : Int32) : Both (fX4_as sz ki co fi x1 x2) (fX5_as s st x1 x2) (fun k1 k2 => FS k1 k2) := by
  obtain ⟨P, M, hL, hC, hT, -⟩ := R
  have hn := P.1
  have hsz := P.2.1
  subst hsz
  unfold fX4_as fX5_as
  rw [has_g hn, isG_g M, bR_some, bR_some, ite_b2, ite_b2, isKind_b2, in_32 x2 0 5 (by decide) (by decide), bR_some, bR_some, ite_b2, ite_b2]
  unfold fX4_as_18 fX5_as_20
  rw [fnd_1, fns_1, bR_some, bR_some]
  by_cases h : 0 ≤ x1.toInt ∧ x1.toInt < n
  · rw [if_pos h, if_pos h]
    obtain ⟨g, hg, rfl⟩ := i_ex (x := x1) (n := n) (by omega) h.1 h.2
    by_cases h2 : 0 ≤ x2.toInt ∧ x2.toInt ≤ 5
    · rw [if_pos h2, if_pos h2]
      obtain ⟨v, hv, rfl⟩ := i_ex (x := x2) (n := 6) (by decide) h2.1 (by omega)
      rw [its_0 s (by omega), bR_some, (M.2.2.1 g hg).2, gIn_nI (by omega) (by decide), nI_clamp (by omega), (P.2.2.1 g hg).2, under_i _ (P.2.2.1 g hg).1 v hv, bR_some, ite_b2, gIn_nI (by omega) (by decide), fnd_3, bR_some]
      unfold fX5_as_53 fX5_as_63 fX5_as_67 fX5_as_68
      rw [its_1 s (by omega), bR_some, fns_3, bR_some, (hC g hg).2.1, (hC g hg).2.2]
      have hk := (P.2.2.1 g hg).1
      generalize kd g = k at hk ⊢
      have v0 : nI v = 0 ↔ v = 0 := nI_eq (b := 0) (by omega) (by decide)
      have v1 : nI v = 1 ↔ v = 1 := nI_eq (b := 1) (by omega) (by decide)
      have v2 : nI v = 2 ↔ v = 2 := nI_eq (b := 2) (by omega) (by decide)
      have k4 : nI k = 4 ↔ k = 4 := nI_eq (b := 4) (by omega) (by decide)
      have k5 : nI k = 5 ↔ k = 5 := nI_eq (b := 5) (by omega) (by decide)
      have kv : nI k = nI v ↔ k = v := nI_eq (by omega) (by omega)
      rw [if_neg (show ¬ (1 : Int32) = 0 by decide), if_pos (show (0 : Int32) = 0 from rfl)]
      by_cases d : v = 0 ∨ k = v ∨ (v = 1 ∧ k = 4) ∨ (v = 2 ∧ k = 5)
      · rw [if_pos d]
        by_cases d0 : v = 0
        · rw [if_pos (v0.mpr d0)]; exact Both.mk F
        rw [if_neg (fun q => d0 (v0.mp q))]
        by_cases d1 : k = v
        · rw [if_pos (kv.mpr d1)]; exact Both.mk F
        rw [if_neg (fun q => d1 (kv.mp q))]
        by_cases d2 : v = 1
        · rw [if_pos (v1.mpr d2), if_pos (k4.mpr (by omega))]; exact Both.mk F
        rw [if_neg (fun q => d2 (v1.mp q)), if_pos (v2.mpr (by omega)), if_pos (k5.mpr (by omega))]
        exact Both.mk F
      · rw [if_neg d, if_neg (fun q => absurd (v0.mp q) (by omega)), if_neg (fun q => absurd (kv.mp q) (by omega))]
        by_cases d2 : v = 1
        · rw [if_pos (v1.mpr d2), if_neg (fun q => absurd (k4.mp q) (by omega)), if_neg (fun q => absurd (v2.mp q) (by omega))]; exact Both.mk (F.up (by decide))
        · rw [if_neg (fun q => d2 (v1.mp q))]
          by_cases d3 : v = 2
          · rw [if_pos (v2.mpr d3), if_neg (fun q => absurd (k5.mp q) (by omega))]; exact Both.mk (F.up (by decide))
          · rw [if_neg (fun q => d3 (v2.mp q))]; exact Both.mk (F.up (by decide))
    · rw [if_neg h2, if_neg h2]
      exact Both.mk (F.up (by decide))
  · rw [if_neg h, if_neg h]
    exact Both.mk (F.up (by decide))
end REL
end
section
section OPS
variable {sz li to : Int32} {ki co : Nat → Int32} {te : Nat → Int64} {s kn fi st pile wish mark : Nat → Int32} {n l : Nat} {kd cc : Nat → Nat} {Hh : Nat → Nat → Bool}
theorem tb_m1 {te : Nat → Int64} {g l : Nat} (h : te (4 * g + l / 64) = -1) : tb te g l = true := by
  unfold tb
  rw [h]
  exact (by decide +kernel : ∀ i, i < 64 → (-1 : Int64).toBitVec.getLsbD i = true) (l % 64) (Nat.mod_lt _ (by decide))
theorem RA.guest (R : RA sz li to ki co te s n l kd cc Hh) {k v : Nat} (hn : n < 8) (hk : k < 6) (hv : v < 100) {s' : Nat → Int32} (e0 : s' 0 = nI (n + 1)) (e2 : s' (2 + 3 * n) = nI k) (e3 : s' (3 + 3 * n) = nI v) (e4 : s' (4 + 3 * n) = 0) (ee : ∀ j, ¬ j = 0 → ¬ j = 2 + 3 * n → ¬ j = 3 + 3 * n → ¬ j = 4 + 3 * n → s' j = s j) : RA (nI (n + 1)) li to (upd ki n (nI k)) (upd co n (nI v)) te s' (n + 1) l (un kd n k) (un cc n v) (fun g l => if g = n then true else Hh g l) := by
  obtain ⟨⟨a1, a2, a3, a4⟩, ⟨b1, b2, b3, b4⟩, c, d, ⟨t, t1, t2, t3⟩, f⟩ := R
  have h2 : 2 ^ n < 2 ^ (n + 1) := Nat.pow_lt_pow_right (by decide) (by omega)
  refine ⟨⟨by omega, rfl, fun g hg => ?_, fun g hg q hq => ?_⟩, ⟨by omega, e0, fun g hg => ?_, fun g hg => ?_⟩, ⟨by omega, c.2.1, by rw [ee 1 (by omega) (by omega) (by omega) (by omega)]; exact c.2.2⟩, fun g hg => ?_, ⟨t, by omega, t2, fun g hg => ?_⟩, fun j h1 h2 => f j (by omega) h2⟩
  · by_cases e : g = n
    · subst e; rw [un_s, pk_us]; exact ⟨hk, rfl⟩
    · rw [un_n e, pk_un e]; exact a3 g (by omega)
  · show (if g = n then true else Hh g q) = _
    by_cases e : g = n
    · subst e; rw [if_pos rfl, tb_m1 (f _ (by omega) (by omega))]
    · rw [if_neg e]; exact a4 g (by omega) q hq
  · by_cases e : g = n
    · subst e; rw [un_s]; exact ⟨hk, e2⟩
    · rw [un_n e, ee _ (by omega) (by omega) (by omega) (by omega)]; exact b3 g (by omega)
  · by_cases e : g = n
    · subst e
      refine ⟨0, fun _ => 0, by omega, e4, fun k hk => absurd hk (by omega), fun _ q _ => if_pos rfl, fun h => absurd h (by omega)⟩
    · have := b4 g (by omega)
      have e5 : (fun l => if g = n then true else Hh g l) = Hh g := by funext q; rw [if_neg e]
      show TK g (fun l => if g = n then true else Hh g l) s'
      rw [e5]
      exact this.congr (ee _ (by omega) (by omega) (by omega) (by omega)) (fun k hk => ee _ (by omega) (by omega) (by omega) (by omega))
  · by_cases e : g = n
    · subst e; rw [un_s, pk_us]; exact ⟨hv, rfl, e3⟩
    · rw [un_n e, pk_un e, ee _ (by omega) (by omega) (by omega) (by omega)]; exact d g (by omega)
  · by_cases e : g = n
    · subst e
      rw [e4, Nat.testBit_lt_two_pow t1]
      simp
    · rw [ee _ (by omega) (by omega) (by omega) (by omega)]; exact t3 g (by omega)
theorem op_guest (R : RA sz li to ki co te s n l kd cc Hh) (K : KV n kd Hh kn) (F : FS fi st) (x1 x2 : Int32) : Both (fX4_guest sz ki co kn fi x1 x2) (fX5_guest s st x1 x2) (fun k1 k2 => (∃ n' kd' cc' Hh', RA k1.1 li to k1.2.1 k1.2.2.1 te k2.1 n' l kd' cc' Hh' ∧ KV n' kd' Hh' k1.2.2.2.1) ∧ FS k1.2.2.2.2 k2.2) := by
  have R0 := R
  obtain ⟨P, M, hL, hC, hT, -⟩ := R
  have hn := P.1
  have hsz := P.2.1
  subst hsz
  unfold fX4_guest fX5_guest
  rw [isKind_b2, isCost_b2, in_32 x1 0 5 (by decide) (by decide), in_32 x2 0 99 (by decide) (by decide), bR_some, bR_some, bR_some, bR_some, ite_b2, ite_b2, ite_b2, ite_b2]
  unfold fX4_guest_14 fX5_guest_24
  rw [fnd_1, fns_1, bR_some, bR_some]
  by_cases h : 0 ≤ x1.toInt ∧ x1.toInt ≤ 5
  · rw [if_pos h, if_pos h]
    by_cases h2 : 0 ≤ x2.toInt ∧ x2.toInt ≤ 99
    · rw [if_pos h2, if_pos h2, M.2.1, fa_lit 8, ite_le (by decide) (by omega), ite_eqN (by omega) (by decide), fnd_2, fns_2, bR_some, bR_some]
      obtain ⟨k, hk, rfl⟩ := i_ex (x := x1) (n := 6) (by decide) h.1 (by omega)
      obtain ⟨v, hv, rfl⟩ := i_ex (x := x2) (n := 100) (by decide) h2.1 (by omega)
      by_cases h8 : n = 8
      · rw [if_pos (by omega), if_pos h8]
        exact Both.mk ⟨⟨n, kd, cc, Hh, R0, K⟩, F.up (by decide)⟩
      · rw [if_neg (by omega), if_neg h8]
        unfold fX0_welcome
        have e : 2 + 3 * nI n = nI (2 + 3 * n) := by rw [fa_lit 2, fa_lit 3, nI_mulL, nI_add]
        have e1 : nI (2 + 3 * n) + 1 = nI (3 + 3 * n) := by rw [nI_1]; congr 1; omega
        have e2 : nI (2 + 3 * n) + 2 = nI (4 + 3 * n) := by rw [fa_lit 2, nI_add]; congr 1; omega
        rw [gIn_nI (by omega) (by decide), gIn_nI (by omega) (by decide), nm_of, fillI 256 (by decide), bV_some, bR_some, e, nm_of, e1, e2, gIn_nI (by omega) (by decide), gIn_nI (by omega) (by decide), gIn_nI (by omega) (by decide), nI_clamp (by omega), nI_clamp (by omega), nI_clamp (by omega), nI_clamp (by omega), pk_us, pk_un (show ¬ 0 = 4 + 3 * n by omega), pk_un (show ¬ 0 = 3 + 3 * n by omega), pk_un (show ¬ 0 = 2 + 3 * n by omega), M.2.1, nI_1]
        refine Both.mk' (by rw [fa_lit 1, nI_sub1 (by omega)]; rfl) ⟨⟨n + 1, _, _, _, R0.guest (by omega) hk hv ?_ ?_ ?_ ?_ ?_, KV_new kn⟩, F⟩
        · dsimp only; rw [pk_us]
        · dsimp only; rw [pk_un (by omega), pk_un (by omega), pk_un (by omega), pk_us]
        · dsimp only; rw [pk_un (by omega), pk_un (by omega), pk_us]
        · dsimp only; rw [pk_un (by omega), pk_us]
        · intro j h0 h2 h3 h4
          dsimp only
          rw [pk_un h0, pk_un h4, pk_un h3, pk_un h2]
    · rw [if_neg h2, if_neg h2]
      exact Both.mk ⟨⟨n, kd, cc, Hh, R0, K⟩, F.up (by decide)⟩
  · rw [if_neg h, if_neg h]
    exact Both.mk ⟨⟨n, kd, cc, Hh, R0, K⟩, F.up (by decide)⟩
theorem op_list (R : RA sz li to ki co te s n l kd cc Hh) (F : FS fi st) (x1 : Int32) : Both (fX4_list sz li fi x1) (fX5_list s st x1) (fun k1 k2 => (∃ l', RA sz k1.1 to ki co te k2.1 n l' kd cc Hh) ∧ FS k1.2 k2.2) := by
  have R0 := R
  obtain ⟨P, M, hL, hC, hT, -⟩ := R
  have hn := P.1
  have hN := two_le hn
  have hsz := P.2.1
  subst hsz
  unfold fX4_list fX5_list
  rw [isSet_g hn, isList_g M, bR_some, bR_some, ite_b2, ite_b2, fnd_1, fns_1, bR_some, bR_some]
  by_cases h : 0 ≤ x1.toInt ∧ x1.toInt < (2 ^ n : Nat)
  · rw [if_pos h, if_pos h]
    obtain ⟨v, hv, rfl⟩ := i_ex (x := x1) (n := 2 ^ n) (by omega) h.1 h.2
    rw [fa_lit 1, becomes_eq (by decide), bR_some]
    exact Both.mk' (hL.2.1.trans hL.2.2.symm) ⟨⟨v, R0.list hv⟩, F⟩
  · rw [if_neg h, if_neg h]
    exact Both.mk ⟨⟨l, R0⟩, F.up (by decide)⟩
theorem RA.cM (R : RA sz li to ki co te s n l kd cc Hh) : ∀ g, g < n → cc g < 100 ∧ s (3 + 3 * g) = nI (cc g) := fun g hg => ⟨(R.2.2.2.1 g hg).1, (R.2.2.2.1 g hg).2.2⟩
theorem RA.cC (R : RA sz li to ki co te s n l kd cc Hh) : ∀ g, g < n → cc g < 100 ∧ co g = nI (cc g) := fun g hg => ⟨(R.2.2.2.1 g hg).1, (R.2.2.2.1 g hg).2.1⟩
theorem op_now (R : RA sz li to ki co te s n l kd cc Hh) (K : KV n kd Hh kn) (F : FS fi st) (x1 : Int32) : Both (fX4_now sz li ki co te kn fi x1) (fX5_now s st pile x1) (fun k1 k2 => KV n kd Hh k1.1 ∧ FS k1.2 k2.1) := by
  have hl := R.l256
  have cM := R.cM
  have cC := R.cC
  obtain ⟨P, M, hL, hC, hT, -⟩ := R
  have hn := P.1
  have hsz := P.2.1
  subst hsz
  unfold fX4_now fX5_now
  by_cases h : x1.toInt < 0 ∨ 4 < x1.toInt
  · rw [if_pos h, if_pos h, fnd_1, fns_1, bR_some, bR_some]
    exact Both.mk ⟨K, F.up (by decide)⟩
  · rw [if_neg h, if_neg h, hL.2.1, hL.2.2]
    obtain ⟨w, hw, rfl⟩ := i_ex (x := x1) (n := 5) (by decide) (by omega) (by omega)
    match w, hw with
    | 0, _ =>
      rw [if_pos (by decide), if_pos (by decide)]
      exact Both.mk ⟨K, F⟩
    | 1, _ =>
      rw [if_neg (by decide), if_pos (by decide), if_neg (by decide), if_pos (by decide), pop_i l hl, ones_i l hl, bR_some, bR_some]
      exact Both.mk ⟨K, F⟩
    | 2, _ =>
      rw [if_neg (by decide), if_neg (by decide), if_pos (by decide), if_neg (by decide), if_neg (by decide), if_pos (by decide)]
      exact Both.of (Q1 := fun k => KV n kd Hh k.1 ∧ k.2 = fi) (Q2 := fun k => k.1 = st) (Ret.b1 (comers_r P K hl) (fun k hk => Ret.mk ⟨hk, rfl⟩)) (Ret.b1 (would_r M hl pile) (fun k _ => ⟨_, rfl, rfl⟩)) (fun k1 k2 q1 q2 => ⟨q1.1, by rw [q1.2, q2]; exact F⟩)
    | 3, _ =>
      rw [if_neg (by decide), if_neg (by decide), if_neg (by decide), if_pos (by decide), if_neg (by decide), if_neg (by decide), if_neg (by decide), if_pos (by decide)]
      refine Both.of (r := b2 (Wd n kd Hh l = l)) (Q1 := fun k => KV n kd Hh k.1 ∧ k.2 = fi) (Q2 := fun k => k.1 = st) (Ret.b1 (isSettled_r P K hl) (fun k hk => ?_)) (Ret.b1 (would_r M hl pile) (fun k _ => ?_)) (fun k1 k2 q1 q2 => ⟨q1.1, by rw [q1.2, q2]; exact F⟩)
      · rw [oneIf_b2, bR_some]; exact Ret.mk ⟨hk, rfl⟩
      · have hw := Wd_256 hn kd Hh l
        rw [ite_eqN (by omega) (by omega)]
        by_cases c : Wd n kd Hh l = l
        · rw [if_pos c, b2_t c]; exact Ret.mk rfl
        · rw [if_neg c, b2_f c]; exact Ret.mk rfl
    | 4, _ =>
      rw [if_neg (by decide), if_neg (by decide), if_neg (by decide), if_neg (by decide), if_pos (by decide), if_neg (by decide), if_neg (by decide), if_neg (by decide), if_neg (by decide), if_pos (by decide), costsOf_eq hn cC hl, costOf_eq hn M.2.1 cM hl, bR_some, bR_some]
      exact Both.mk ⟨K, F⟩
    | w + 5, h => exact absurd h (by omega)
theorem wd_bit {g : Nat} (hg : g < n) : Wd n kd Hh l &&& 2 ^ g = if cm (kd g) (Hh g l) (pop (clr l g)) = true then 2 ^ g else 0 := by
  apply Nat.eq_of_testBit_eq
  intro i
  unfold Wd
  rw [Nat.testBit_and, wdn_t, Nat.testBit_two_pow]
  by_cases c : g = i
  · subst c
    rw [decide_eq_true hg, decide_eq_true rfl, Bool.true_and, Bool.and_true]
    by_cases d : cm (kd g) (Hh g l) (pop (clr l g)) = true
    · rw [if_pos d, d, Nat.testBit_two_pow, decide_eq_true rfl]
    · rw [if_neg d, Nat.zero_testBit]
      exact Bool.eq_false_iff.mpr d
  · rw [decide_eq_false c, Bool.and_false]
    split
    · rw [Nat.testBit_two_pow, decide_eq_false c]
    · rw [Nat.zero_testBit]
theorem calledM_r (M : PM n kd Hh s) {g : Nat} (hg : g < n) (hl : l < 256) (pile : Nat → Int32) : Ret (fX5_called s pile (nI l) (nI g)) (nI (cal n kd Hh l g)) (fun _ => True) := by
  unfold fX5_called
  refine Ret.b1 (comesBy_r M hg hl pile) (fun k _ => ?_)
  have hn := M.1
  unfold fX5_called_23 cal
  rw [ite_b2, wd_bit hg, clr_i hl (by omega), bit_i g (by omega)]
  by_cases d : cm (kd g) (Hh g l) (pop (clr l g)) = true
  · rw [if_pos d, if_pos d, fa_or]; exact Ret.mk trivial
  · rw [if_neg d, if_neg d, fa_lit 0, fa_or]; exact Ret.mk trivial
theorem calling_r (M : PM n kd Hh s) (hs : s 1 = nI l) {g : Nat} (hg : g < n) (hl : l < 256) (pile : Nat → Int32) : Ret (fX5_calling s pile (nI g)) (b2 (¬ cal n kd Hh l g = l)) (fun k => k.1 = upd s 1 (nI (cal n kd Hh l g))) := by
  unfold fX5_calling
  rw [nm_of, hs]
  refine Ret.b1 (calledM_r M hg hl pile) (fun k _ => ?_)
  have hw := cal_256 (kd := kd) (Hh := Hh) (g := g) M.1 hl
  rw [pk_us, ite_eqN (by omega) (by omega)]
  by_cases c : cal n kd Hh l g = l
  · rw [if_pos c, b2_f (fun q => q c)]; exact Ret.mk rfl
  · rw [if_neg c, b2_t c]; exact Ret.mk rfl
theorem op_call (R : RA sz li to ki co te s n l kd cc Hh) (K : KV n kd Hh kn) (F : FS fi st) (x1 : Int32) : Both (fX4_call sz li ki te kn fi x1) (fX5_call s st pile x1) (fun k1 k2 => (∃ l', RA sz k1.1 to ki co te k2.1 n l' kd cc Hh) ∧ KV n kd Hh k1.2.1 ∧ FS k1.2.2 k2.2.1) := by
  have hl := R.l256
  have R0 := R
  obtain ⟨P, M, hL, hC, hT, -⟩ := R
  have hn := P.1
  have hsz := P.2.1
  subst hsz
  unfold fX4_call fX5_call
  rw [has_g hn, isG_g M, bR_some, bR_some, ite_b2, ite_b2, fnd_1, fns_1, bR_some, bR_some]
  by_cases h : 0 ≤ x1.toInt ∧ x1.toInt < n
  · rw [if_pos h, if_pos h, hL.2.1]
    obtain ⟨g, hg, rfl⟩ := i_ex (x := x1) (n := n) (by omega) h.1 h.2
    refine Both.of (Q1 := fun k => k.1 = nI (cal n kd Hh l g) ∧ KV n kd Hh k.2.1 ∧ k.2.2 = fi) (Q2 := fun k => k.1 = upd s 1 (nI (cal n kd Hh l g)) ∧ k.2.1 = st) (Ret.b1 (ringUp_r P K hl (show g < 8 by omega)) (fun k hk => Ret.mk ⟨hk.1, hk.2, rfl⟩)) (Ret.b1 (calling_r M hL.2.2 hg hl pile) (fun k hk => Ret.mk ⟨hk, rfl⟩)) (fun k1 k2 q1 q2 => ⟨⟨cal n kd Hh l g, ?_⟩, q1.2.1, by rw [q1.2.2, q2.2]; exact F⟩)
    rw [q1.1, q2.1]
    exact R0.list (cal_lt hL.1)
  · rw [if_neg h, if_neg h]
    exact Both.mk ⟨⟨l, R0⟩, K, F.up (by decide)⟩
theorem calls_in {m : Int32} {t : Int32} {agC : Int32 → (Nat → Int32) → (Nat → Int32) → Int32 → Int32 → Int32 → Option (Int32 × Int32 × (Nat → Int32) × (Nat → Int32))} {agM : (Nat → Int32) → (Nat → Int32) → (Nat → Int32) → Int32 → Int32 → Int32 → Option (Int32 × (Nat → Int32) × (Nat → Int32) × (Nat → Int32))} {Q : Int32 × (Nat → Int32) × (Nat → Int32) → (Nat → Int32) × (Nat → Int32) × (Nat → Int32) → Prop}
    (hag : ∀ (l : Nat) (kn s pile : Nat → Int32) (a : Int32), RA (nI n) (nI l) to ki co te s n l kd cc Hh → KV n kd Hh kn → Both (agC (nI l) kn fi m a (t + 1)) (agM s st pile m a (t + 1)) Q) : ∀ (f i l : Nat) (kn s pile : Nat → Int32) (a : Int32), i ≤ n → n - i < f → RA (nI n) (nI l) to ki co te s n l kd cc Hh → KV n kd Hh kn → Both (ll7 (fX4_calls_30 (nI n) ki te agC) f (nI l) kn fi m a t (nI i)) (ll7 (fX5_calls_31 agM) f s st pile m a t (nI i)) Q
  | 0, i, l, kn, s, pile, a, _, h, _, _ => absurd h (by omega)
  | f + 1, i, l, kn, s, pile, a, hi, hf, R, K => by
    have ih := calls_in hag f (i + 1)
    show Both (fX4_calls_30 (nI n) ki te agC (ll7 (fX4_calls_30 (nI n) ki te agC) f) (nI l) kn fi m a t (nI i)) (fX5_calls_31 agM (ll7 (fX5_calls_31 agM) f) s st pile m a t (nI i)) Q
    generalize ll7 (fX4_calls_30 (nI n) ki te agC) f = ag1 at ih ⊢
    generalize ll7 (fX5_calls_31 agM) f = ag2 at ih ⊢
    have hl := R.l256
    have P := R.1
    have M := R.2.1
    have hL := R.2.2.1
    have hn := P.1
    unfold fX4_calls_30 fX5_calls_31
    rw [M.2.1, ite_le (by omega) (by omega), ite_le (by omega) (by omega)]
    by_cases c : n ≤ i
    · rw [if_pos c, if_pos c, nm_of, nm_of]
      exact hag l kn s pile a R K
    · rw [if_neg c, if_neg c]
      obtain ⟨k1, e1, q1, q2⟩ := ringUp_r P K hl (show i < 8 by omega)
      obtain ⟨k2, e2, q3⟩ := calling_r M hL.2.2 (show i < n by omega) hl pile
      rw [e1, e2, bR_some, bR_some, nm_of, nm_of, nm_of, nm_of, nI_1, q1, q3]
      exact ih (cal n kd Hh l i) k1.2 _ k2.2 _ (by omega) (by omega) (R.list (cal_lt hL.1)) q2
theorem calls_out {m : Nat} (hm : m ≤ 20) {Q : Int32 × (Nat → Int32) × (Nat → Int32) → (Nat → Int32) × (Nat → Int32) × (Nat → Int32) → Prop} (hQ : ∀ (l : Nat) (kn s pile : Nat → Int32), RA (nI n) (nI l) to ki co te s n l kd cc Hh → KV n kd Hh kn → Q (nI l, kn, fi) (s, st, pile)) : ∀ (f j l : Nat) (kn s pile : Nat → Int32) (a : Int32), j ≤ m → m - j < f → RA (nI n) (nI l) to ki co te s n l kd cc Hh → KV n kd Hh kn → Both (ll6 (fX4_calls_22 (nI n) ki te) f (nI l) kn fi (nI m) a (nI j)) (ll6 fX5_calls_23 f s st pile (nI m) a (nI j)) Q
  | 0, j, l, kn, s, pile, a, _, h, _, _ => absurd h (by omega)
  | f + 1, j, l, kn, s, pile, a, hj, hf, R, K => by
    have ih := calls_out hm hQ f (j + 1)
    show Both (fX4_calls_22 (nI n) ki te (ll6 (fX4_calls_22 (nI n) ki te) f) (nI l) kn fi (nI m) a (nI j)) (fX5_calls_23 (ll6 fX5_calls_23 f) s st pile (nI m) a (nI j)) Q
    generalize ll6 (fX4_calls_22 (nI n) ki te) f = ag1 at ih ⊢
    generalize ll6 fX5_calls_23 f = ag2 at ih ⊢
    unfold fX4_calls_22 fX5_calls_23
    rw [ite_le (by omega) (by omega), ite_le (by omega) (by omega)]
    by_cases c : m ≤ j
    · rw [if_pos c, if_pos c]
      exact Both.mk (hQ l kn s pile R K)
    · rw [if_neg c, if_neg c]
      exact calls_in (fun l kn s pile a R K => by rw [nI_1]; exact ih l kn s pile a (by omega) (by omega) R K) 1024 0 l kn s pile a (by omega) (by have := R.1.1; omega) R K
theorem op_calls (R : RA sz li to ki co te s n l kd cc Hh) (K : KV n kd Hh kn) (F : FS fi st) (x1 : Int32) : Both (fX4_calls sz li ki te kn fi x1) (fX5_calls s st pile x1) (fun k1 k2 => (∃ l', RA sz k1.1 to ki co te k2.1 n l' kd cc Hh) ∧ KV n kd Hh k1.2.1 ∧ FS k1.2.2 k2.2.1) := by
  have R0 := R
  obtain ⟨P, M, hL, hC, hT, -⟩ := R
  have hn := P.1
  have hsz := P.2.1
  subst hsz
  have hli := hL.2.1
  subst hli
  unfold fX4_calls fX5_calls
  have e1 : (1 : Int32).toInt = 1 := by decide
  have e4 : (20 : Int32).toInt = 20 := by decide
  unfold fX4_calls_11
  rw [in_32 x1 1 20 (by decide) (by decide), bR_some, ite_b2, fnd_1, fns_1, bR_some, bR_some]
  by_cases h : 1 ≤ x1.toInt ∧ x1.toInt ≤ 20
  · rw [if_pos h, if_neg (show ¬ x1 < 1 by rw [Int32.lt_iff_toInt_lt]; omega), if_pos (show x1 ≤ 20 by rw [Int32.le_iff_toInt_le]; omega)]
    obtain ⟨m, hm, rfl⟩ := i_ex (x := x1) (n := 21) (by decide) (by omega) (by omega)
    exact calls_out (by omega) (fun l kn s pile R K => ⟨⟨l, R⟩, K, F⟩) 1024 0 l kn s pile 0 (by omega) (by omega) R0 K
  · rw [if_neg h]
    by_cases h1 : x1 < 1
    · rw [if_pos h1]; exact Both.mk ⟨⟨l, R0⟩, K, F.up (by decide)⟩
    · rw [if_neg h1, if_neg (show ¬ x1 ≤ 20 by rw [Int32.lt_iff_toInt_lt] at h1; rw [Int32.le_iff_toInt_le]; omega)]
      exact Both.mk ⟨⟨l, R0⟩, K, F.up (by decide)⟩
theorem behindM_loop (M : PM n kd Hh s) {m : Nat} (hm : m ≤ 64) : ∀ (f i a : Nat) (pile : Nat → Int32), i ≤ m → m - i < f → a < 256 → Ret (ll4 (fX5_behind_5 s) f pile (nI m) (nI a) (nI i)) (nI (it (Wd n kd Hh) (m - i) a)) (fun _ => True)
  | 0, i, a, pile, _, h, _ => absurd h (by omega)
  | f + 1, i, a, pile, hi, hf, ha => by
    have ih := behindM_loop M hm f (i + 1)
    show Ret (fX5_behind_5 s (ll4 (fX5_behind_5 s) f) pile (nI m) (nI a) (nI i)) _ _
    generalize ll4 (fX5_behind_5 s) f = ag at ih ⊢
    unfold fX5_behind_5
    rw [ite_le (by omega) (by omega)]
    by_cases c : m ≤ i
    · rw [if_pos c, show m - i = 0 by omega]
      exact Ret.mk trivial
    · rw [if_neg c]
      refine Ret.b1 (would_r M ha pile) (fun k _ => ?_)
      rw [nm_of, nI_1, show m - i = (m - (i + 1)) + 1 by omega]
      exact ih _ k (by omega) (by omega) (Wd_256 M.1 kd Hh a)
theorem behindM_r (M : PM n kd Hh s) {m : Nat} (hm : m ≤ 64) (hl : l < 256) (pile : Nat → Int32) : Ret (fX5_behind s pile (nI l) (nI m)) (nI (it (Wd n kd Hh) m l)) (fun _ => True) := behindM_loop M hm 1024 0 l pile (by omega) (by omega) hl
theorem op_rounds (R : RA sz li to ki co te s n l kd cc Hh) (K : KV n kd Hh kn) (F : FS fi st) (x1 : Int32) : Both (fX4_rounds sz li ki te kn fi x1) (fX5_rounds s st pile x1) (fun k1 k2 => (∃ l', RA sz k1.1 to ki co te k2.1 n l' kd cc Hh) ∧ KV n kd Hh k1.2.1 ∧ FS k1.2.2 k2.2.1) := by
  have R0 := R
  have hl := R.l256
  obtain ⟨P, M, hL, hC, hT, -⟩ := R
  have hn := P.1
  have hsz := P.2.1
  subst hsz
  unfold fX4_rounds fX5_rounds
  have e1 : (1 : Int32).toInt = 1 := by decide
  have e4 : (64 : Int32).toInt = 64 := by decide
  unfold fX4_rounds_11
  rw [in_32 x1 1 64 (by decide) (by decide), bR_some, ite_b2, fnd_1, fns_1, bR_some, bR_some]
  by_cases h : 1 ≤ x1.toInt ∧ x1.toInt ≤ 64
  · rw [if_pos h, if_neg (show ¬ x1 < 1 by rw [Int32.lt_iff_toInt_lt]; omega), if_pos (show x1 ≤ 64 by rw [Int32.le_iff_toInt_le]; omega), hL.2.1, hL.2.2]
    obtain ⟨m, hm, rfl⟩ := i_ex (x := x1) (n := 65) (by decide) (by omega) (by omega)
    obtain ⟨k1, e1, q1⟩ := behind_r P K (m := m) hl (by omega)
    obtain ⟨k2, e2, -⟩ := behindM_r M (m := m) (by omega) hl pile
    rw [e1, e2, bR_some, bR_some, pk_us]
    exact Both.mk ⟨⟨_, R0.list (it_lt (fun l => Wd_lt n kd Hh l) hL.1 m)⟩, q1, F⟩
  · rw [if_neg h]
    by_cases h1 : x1 < 1
    · rw [if_pos h1]; exact Both.mk ⟨⟨l, R0⟩, K, F.up (by decide)⟩
    · rw [if_neg h1, if_neg (show ¬ x1 ≤ 64 by rw [Int32.lt_iff_toInt_lt] at h1; rw [Int32.le_iff_toInt_le]; omega)]
      exact Both.mk ⟨⟨l, R0⟩, K, F.up (by decide)⟩
theorem op_on (R : RA sz li to ki co te s n l kd cc Hh) (K : KV n kd Hh kn) (F : FS fi st) (x1 : Int32) : Both (fX4_on sz li ki te kn fi x1) (fX5_on s st pile x1) (fun k1 k2 => KV n kd Hh k1.1 ∧ FS k1.2 k2.1) := by
  have hl := R.l256
  obtain ⟨P, M, hL, hC, hT, -⟩ := R
  have hn := P.1
  have hsz := P.2.1
  subst hsz
  unfold fX4_on fX5_on
  have e1 : (0 : Int32).toInt = 0 := by decide
  have e4 : (64 : Int32).toInt = 64 := by decide
  unfold fX4_on_10
  rw [in_32 x1 0 64 (by decide) (by decide), bR_some, ite_b2, fnd_1, fns_1, bR_some, bR_some]
  by_cases h : 0 ≤ x1.toInt ∧ x1.toInt ≤ 64
  · rw [if_pos h, if_neg (show ¬ x1 < 0 by rw [Int32.lt_iff_toInt_lt]; omega), if_pos (show x1 ≤ 64 by rw [Int32.le_iff_toInt_le]; omega), hL.2.1, hL.2.2]
    obtain ⟨m, hm, rfl⟩ := i_ex (x := x1) (n := 65) (by decide) (by omega) (by omega)
    obtain ⟨k1, e1, q1⟩ := behind_r P K (m := m) hl (by omega)
    obtain ⟨k2, e2, -⟩ := behindM_r M (m := m) (by omega) hl pile
    rw [e1, e2, bR_some, bR_some]
    exact Both.mk ⟨q1, F⟩
  · rw [if_neg h]
    by_cases h1 : x1 < 0
    · rw [if_pos h1]; exact Both.mk ⟨K, F.up (by decide)⟩
    · rw [if_neg h1, if_neg (show ¬ x1 ≤ 64 by rw [Int32.lt_iff_toInt_lt] at h1; rw [Int32.le_iff_toInt_le]; omega)]
      exact Both.mk ⟨K, F.up (by decide)⟩
end OPS
end
section
section OPS2
variable {sz li to : Int32} {ki co : Nat → Int32} {te : Nat → Int64} {s kn fi st pile wish mark : Nat → Int32} {n l : Nat} {kd cc : Nat → Nat} {Hh : Nat → Nat → Bool}
theorem RA.tM (R : RA sz li to ki co te s n l kd cc Hh) : ∀ g, g < n → ∃ m, m ≤ 60 ∧ s (4 + 3 * g) = nI m := fun g hg => by
  obtain ⟨m, -, h1, h2, -⟩ := R.2.1.2.2.2 g hg
  exact ⟨m, h1, h2⟩
/-- who has told a term -/
def td (s : Nat → Int32) (g : Nat) : Bool := decide (¬ s (4 + 3 * g) = 0)
theorem count_loop {taped x1 : Int32} (hn : n ≤ 8) (h0 : s 0 = nI n) (hm : ∀ g, g < n → ∃ m, m ≤ 60 ∧ s (4 + 3 * g) = nI m) : ∀ (f i : Nat), i ≤ n → n - i < f → ∃ f', ll4 (fX5_count_4 taped s) f st x1 (nI (wdn (td s) i)) (nI i) = ll4 (fX5_count_4 taped s) (f' + 1) st x1 (nI (wdn (td s) n)) (nI n)
  | 0, i, _, h => absurd h (by omega)
  | f + 1, i, hi, hf => by
    by_cases c : n ≤ i
    · have e : i = n := by omega
      rw [e]
      exact ⟨f, rfl⟩
    · obtain ⟨f', ih⟩ := count_loop hn h0 hm f (i + 1) (by omega) (by omega)
      refine ⟨f', ?_⟩
      rw [← ih]
      show fX5_count_4 taped s (ll4 (fX5_count_4 taped s) f) st x1 (nI (wdn (td s) i)) (nI i) = _
      generalize ll4 (fX5_count_4 taped s) f = ag
      unfold fX5_count_4
      obtain ⟨m, hm1, hm2⟩ := hm i (by omega)
      rw [h0, ite_le (by omega) (by omega), if_neg c, its_2 s (by omega), bR_some, hm2, fa_lit 0, ite_le (by omega) (by decide)]
      unfold fX5_count_31
      rw [nm_of, nm_of, nm_of, nm_of, bit_i i (by omega), fa_or, fa_or, nI_1]
      by_cases d : m = 0
      · rw [if_pos (by omega)]
        have e : wdn (td s) (i + 1) = wdn (td s) i ||| 0 := by
          show _ ||| (if _ then _ else _) = _
          rw [if_neg]
          unfold td
          rw [hm2, d]
          simp
          rfl
        rw [e]
      · rw [if_neg (by omega)]
        have e : wdn (td s) (i + 1) = wdn (td s) i ||| 2 ^ i := by
          show _ ||| (if _ then _ else _) = _
          rw [if_pos]
          unfold td
          rw [hm2, fa_lit 0]
          refine decide_eq_true (fun q => d ((nI_eq (by omega) (by decide)).mp q))
        rw [e]
theorem op_count {tl tp : Int32} (R : RA sz li to ki co te s n l kd cc Hh) (F : FS fi st) (ht : tl = tp) (x1 : Int32) : Both (fX4_count sz to co tl fi x1) (fX5_count tp s st x1) (fun k1 k2 => FS k1 k2) := by
  have cM := R.cM
  have cC := R.cC
  have tM := R.tM
  obtain ⟨P, M, hL, hC, ⟨t, t1, t2, t3⟩, -⟩ := R
  have hn := P.1
  have hN := two_le hn
  have hsz := P.2.1
  subst hsz
  subst ht
  have ht : t = wdn (td s) n := by
    apply Nat.eq_of_testBit_eq
    intro i
    rw [wdn_t]
    by_cases c : i < n
    · rw [decide_eq_true c, Bool.true_and]
      unfold td
      have := t3 i c
      cases e : t.testBit i
      · rw [e] at this
        exact (decide_eq_false (fun q => by have := this.mpr q; cases this)).symm
      · rw [e] at this
        exact (decide_eq_true (this.mp rfl)).symm
    · rw [decide_eq_false c, Bool.false_and]
      exact Nat.testBit_lt_two_pow (Nat.lt_of_lt_of_le t1 (Nat.pow_le_pow_right (by decide) (by omega)))
  obtain ⟨f', e⟩ := count_loop (st := st) (taped := tl) (x1 := x1) hn M.2.1 tM 1024 0 (by omega) (by omega)
  have e2 : fX5_count tl s st x1 = fX5_count_4 tl s (ll4 (fX5_count_4 tl s) f') st x1 (nI t) (nI n) := by
    rw [ht]
    exact e
  rw [e2]
  clear e e2
  generalize ll4 (fX5_count_4 tl s) f' = ag
  unfold fX4_count fX5_count_4
  rw [M.2.1, if_pos (Int32.le_refl (nI n))]
  by_cases h : x1.toInt < 0 ∨ 3 < x1.toInt
  · rw [if_pos h, if_pos h, fnd_1, fns_1, bR_some, bR_some]
    exact Both.mk (F.up (by decide))
  · rw [if_neg h, if_neg h]
    obtain ⟨w, hw, rfl⟩ := i_ex (x := x1) (n := 4) (by decide) (by omega) (by omega)
    match w, hw with
    | 0, _ =>
      rw [if_pos (by decide), if_pos (by decide)]
      exact Both.mk F
    | 1, _ =>
      rw [if_neg (by decide), if_pos (by decide), if_neg (by decide), if_pos (by decide)]
      exact Both.mk F
    | 2, _ =>
      rw [if_neg (by decide), if_neg (by decide), if_pos (by decide), if_neg (by decide), if_neg (by decide), if_pos (by decide), everyone_c hn, bR_some, costsOf_eq hn cC (by omega), fa_lit 255, costOf_eq hn M.2.1 cM (by decide), bR_some, bR_some]
      refine Both.mk' ?_ F
      congr 1
      apply csum_congr
      intro g hg
      rw [Nat.testBit_two_pow_sub_one, decide_eq_true hg]
      exact ((by decide +kernel : ∀ g, g < 8 → Nat.testBit 255 g = true) g (by omega)).symm
    | 3, _ =>
      rw [if_neg (by decide), if_neg (by decide), if_neg (by decide), if_pos (by decide), if_neg (by decide), if_neg (by decide), if_neg (by decide), if_pos (by decide)]
      exact Both.mk' t2 F
    | w + 4, h => exact absurd h (by omega)
theorem op_tear (x : Int32) : Both (fX4_tear x) (fX5_tear x) (fun k1 k2 => k1 = 0 ∧ k2 = 0) := by
  unfold fX4_tear fX5_tear fX4_oneIf fX5_tear_12
  by_cases c : x = 0
  · rw [if_pos c, if_pos c, bR_some]; exact Both.mk ⟨rfl, rfl⟩
  · rw [if_neg c, if_neg c, bR_some]; exact Both.mk ⟨rfl, rfl⟩
theorem sum_c (fi : Nat → Int32) : ll3 fX4_status_33 qF fi 0 0 = some (0 + fi 0 + fi 1 + fi 2 + fi 3 + fi 4 + fi 5 + fi 6, fi) := rfl
theorem sum_m (st : Nat → Int32) : ll4 fX5_status_25 qF st (-1) 0 0 = some (0 + st 0 + st 1 + st 2 + st 3 + st 4 + st 5 + st 6, st) := rfl
theorem sum_0 (st : Nat → Int32) : ll4 fX5_status_25 qF st (nI 0) 0 0 = some (0 + st 0 + 0 + 0 + 0 + 0 + 0 + 0, st) := rfl
theorem sum_1 (st : Nat → Int32) : ll4 fX5_status_25 qF st (nI 1) 0 0 = some (0 + 0 + st 1 + 0 + 0 + 0 + 0 + 0, st) := rfl
theorem sum_2 (st : Nat → Int32) : ll4 fX5_status_25 qF st (nI 2) 0 0 = some (0 + 0 + 0 + st 2 + 0 + 0 + 0 + 0, st) := rfl
theorem sum_3 (st : Nat → Int32) : ll4 fX5_status_25 qF st (nI 3) 0 0 = some (0 + 0 + 0 + 0 + st 3 + 0 + 0 + 0, st) := rfl
theorem sum_4 (st : Nat → Int32) : ll4 fX5_status_25 qF st (nI 4) 0 0 = some (0 + 0 + 0 + 0 + 0 + st 4 + 0 + 0, st) := rfl
theorem sum_5 (st : Nat → Int32) : ll4 fX5_status_25 qF st (nI 5) 0 0 = some (0 + 0 + 0 + 0 + 0 + 0 + st 5 + 0, st) := rfl
theorem sum_6 (st : Nat → Int32) : ll4 fX5_status_25 qF st (nI 6) 0 0 = some (0 + 0 + 0 + 0 + 0 + 0 + 0 + st 6, st) := rfl
theorem op_status (F : FS fi st) (x1 : Int32) : Both (fX4_status fi x1) (fX5_status st x1) (fun k1 k2 => FS k1 k2) := by
  unfold fX4_status fX5_status fX4_status_11
  have el : (-1 : Int32).toInt = -1 := by decide
  have e7 : (7 : Int32).toInt = 7 := by decide
  have e0 : (0 : Int32).toInt = 0 := by decide
  rw [in_32 x1 (-1) 6 (by decide) (by decide), bR_some, ite_b2, fnd_1, fns_1, bR_some, bR_some]
  by_cases h : -1 ≤ x1.toInt ∧ x1.toInt ≤ 6
  · rw [if_pos h, if_neg (show ¬ x1 < -1 by rw [Int32.lt_iff_toInt_lt]; omega), if_pos (show x1 < 7 by rw [Int32.lt_iff_toInt_lt]; omega)]
    by_cases h1 : x1 < 0
    · have e : x1 = -1 := Int32.toInt_inj.mp (by rw [Int32.lt_iff_toInt_lt] at h1; omega)
      rw [if_pos h1, e, sum_c, sum_m, F 0 (by decide), F 1 (by decide), F 2 (by decide), F 3 (by decide), F 4 (by decide), F 5 (by decide), F 6 (by decide)]
      exact Both.mk F
    · rw [if_neg h1]
      rw [Int32.lt_iff_toInt_lt] at h1
      obtain ⟨w, hw, rfl⟩ := i_ex (x := x1) (n := 7) (by decide) (by omega) (by omega)
      rw [gIn_nI hw (by decide), nI_clamp (by omega), F w hw]
      match w, hw with
      | 0, _ => rw [sum_0]; exact Both.mk' (by simp) F
      | 1, _ => rw [sum_1]; exact Both.mk' (by simp) F
      | 2, _ => rw [sum_2]; exact Both.mk' (by simp) F
      | 3, _ => rw [sum_3]; exact Both.mk' (by simp) F
      | 4, _ => rw [sum_4]; exact Both.mk' (by simp) F
      | 5, _ => rw [sum_5]; exact Both.mk' (by simp) F
      | 6, _ => rw [sum_6]; exact Both.mk' (by simp) F
      | w + 7, h => exact absurd h (by omega)
  · rw [if_neg h]
    by_cases h1 : x1 < -1
    · rw [if_pos h1]; exact Both.mk (F.up (by decide))
    · rw [if_neg h1, if_neg (show ¬ x1 < 7 by rw [Int32.lt_iff_toInt_lt] at h1 ⊢; omega)]
      exact Both.mk (F.up (by decide))
theorem RA.congr (R : RA sz li to ki co te s n l kd cc Hh) {ki' co' : Nat → Int32} {te' : Nat → Int64} {s' : Nat → Int32} (h1 : ∀ j, j < 8 → ki' j = ki j) (h2 : ∀ j, j < 8 → co' j = co j) (h3 : ∀ j, j < 32 → te' j = te j) (h4 : ∀ j, j < 538 → s' j = s j) : RA sz li to ki' co' te' s' n l kd cc Hh := by
  obtain ⟨⟨a1, a2, a3, a4⟩, ⟨b1, b2, b3, b4⟩, c, d, ⟨t, t1, t2, t3⟩, f⟩ := R
  refine ⟨⟨a1, a2, fun g hg => ?_, fun g hg q hq => ?_⟩, ⟨b1, ?_, fun g hg => ?_, fun g hg => ?_⟩, ⟨c.1, c.2.1, ?_⟩, fun g hg => ?_, ⟨t, t1, t2, fun g hg => ?_⟩, fun j e1 e2 => ?_⟩
  · rw [h1 g (by omega)]; exact a3 g hg
  · have := a4 g hg q hq
    unfold tb at this ⊢
    rw [h3 _ (by omega)]; exact this
  · rw [h4 0 (by omega)]; exact b2
  · rw [h4 _ (by omega)]; exact b3 g hg
  · exact (b4 g hg).congr (h4 _ (by omega)) (fun k hk => h4 _ (by omega))
  · rw [h4 1 (by omega)]; exact c.2.2
  · rw [h2 g (by omega), h4 _ (by omega)]; exact d g hg
  · rw [h4 _ (by omega)]; exact t3 g hg
  · rw [h3 j e2]; exact f j e1 e2
theorem take_eq (a b c : Int32) (ki co : Nat → Int32) (te : Nat → Int64) (kn : Nat → Int32) (sz li to : Int32) (ki1 co1 : Nat → Int32) (te1 : Nat → Int64) : fX0_take a b c ki co te kn sz li to ki1 co1 te1 = some (sz, li, to, va_cpy ki1 ki 0 0 8, va_cpy co1 co 0 0 8, va_cpy te1 te 0 0 32, fillF 256 (-1) kn) := by
  unfold fX0_take
  rw [fillI 256 (by decide), bV_some]
  rfl
theorem cpy_at {α : Type} (f g : Nat → α) {n j : Nat} (h : j < n) : va_cpy f g 0 0 n j = f j := by
  unfold va_cpy
  rw [if_pos ⟨Nat.zero_le _, by omega⟩]
  congr 1
  omega
theorem image_loop {ik : Int32} : ∀ (f i : Nat) (ks : Nat → Int32), i ≤ 538 → 538 - i < f → (∀ j, j < i → ks j = s j) → Ret (ll3 (fX5_image_2 s) f ik ks (nI i)) 1 (fun k => k.1 = 1 ∧ ∀ j, j < 538 → k.2 j = s j)
  | 0, i, _, _, h, _ => absurd h (by omega)
  | f + 1, i, ks, hi, hf, hk => by
    have ih := image_loop (ik := ik) f (i + 1)
    show Ret (fX5_image_2 s (ll3 (fX5_image_2 s) f) ik ks (nI i)) _ _
    generalize ll3 (fX5_image_2 s) f = ag at ih ⊢
    unfold fX5_image_2
    rw [fa_lit 538, ite_le (by decide) (by omega)]
    by_cases c : 538 ≤ i
    · rw [if_pos c]
      exact Ret.mk ⟨rfl, fun j hj => hk j (by omega)⟩
    · rw [if_neg c, gIn_nI (by omega) (by decide), gIn_nI (by omega) (by decide), nm_of, nI_1, nI_clamp (by omega)]
      refine ih _ (by omega) (by omega) (fun j hj => ?_)
      by_cases d : j = i
      · subst d; rw [pk_us]
      · rw [pk_un d]; exact hk j (by omega)
theorem undo_loop {ik : Int32} {ks : Nat → Int32} : ∀ (f i : Nat) (s : Nat → Int32), i ≤ 538 → 538 - i < f → (∀ j, j < i → s j = ks j) → Ret (ll3 (fX5_undo_16 ik ks) f s st (nI i)) (ks 0) (fun k => (∀ j, j < 538 → k.1 j = ks j) ∧ k.2 = st)
  | 0, i, _, _, h, _ => absurd h (by omega)
  | f + 1, i, s, hi, hf, hk => by
    have ih := undo_loop (ik := ik) (ks := ks) f (i + 1)
    show Ret (fX5_undo_16 ik ks (ll3 (fX5_undo_16 ik ks) f) s st (nI i)) _ _
    generalize ll3 (fX5_undo_16 ik ks) f = ag at ih ⊢
    unfold fX5_undo_16
    rw [fa_lit 538, ite_le (by decide) (by omega)]
    by_cases c : 538 ≤ i
    · rw [if_pos c]
      exact Ret.mk' (hk 0 (by omega)) ⟨fun j hj => hk j (by omega), rfl⟩
    · rw [if_neg c, gIn_nI (by omega) (by decide), gIn_nI (by omega) (by decide), nm_of, nI_1, nI_clamp (by omega)]
      refine ih _ (by omega) (by omega) (fun j hj => ?_)
      by_cases d : j = i
      · subst d; rw [pk_us]
      · rw [pk_un d]; exact hk j (by omega)
theorem op_image {ik ik2 a b c : Int32} {ki2 co2 kn2 : Nat → Int32} {te2 : Nat → Int64} {ks : Nat → Int32} (R : RA sz li to ki co te s n l kd cc Hh) : Both (fX4_image ik sz li to ki co te a b c ki2 co2 te2 kn2) (fX5_image ik2 s ks) (fun k1 k2 => k1.1 = 1 ∧ k2.1 = 1 ∧ RA k1.2.1 k1.2.2.1 k1.2.2.2.1 k1.2.2.2.2.1 k1.2.2.2.2.2.1 k1.2.2.2.2.2.2.1 k2.2 n l kd cc Hh) := by
  obtain ⟨k, e, q1, q2⟩ := image_loop (s := s) (ik := ik2) 1024 0 ks (by omega) (by omega) (fun j hj => absurd hj (by omega))
  have e : fX5_image ik2 s ks = some (1, k) := e
  unfold fX4_image
  rw [e, take_eq, bV_some]
  exact Both.mk ⟨rfl, q1, R.congr (fun j hj => cpy_at _ _ hj) (fun j hj => cpy_at _ _ hj) (fun j hj => cpy_at _ _ hj) q2⟩
theorem op_undo {ik : Int32} {sz2 li2 to2 : Int32} {ki2 co2 : Nat → Int32} {te2 : Nat → Int64} {ks : Nat → Int32} {n2 l2 : Nat} {kd2 cc2 : Nat → Nat} {Hh2 : Nat → Nat → Bool} (R : RA sz li to ki co te s n l kd cc Hh) (K : KV n kd Hh kn) (R2 : RA sz2 li2 to2 ki2 co2 te2 ks n2 l2 kd2 cc2 Hh2) (F : FS fi st) : Both (fX4_undo ik sz li to ki co te kn sz2 li2 to2 ki2 co2 te2 fi) (fX5_undo ik s ks st) (fun k1 k2 => (∃ n' l' kd' cc' Hh', RA k1.1 k1.2.1 k1.2.2.1 k1.2.2.2.1 k1.2.2.2.2.1 k1.2.2.2.2.2.1 k2.1 n' l' kd' cc' Hh' ∧ KV n' kd' Hh' k1.2.2.2.2.2.2.1) ∧ FS k1.2.2.2.2.2.2.2 k2.2) := by
  unfold fX4_undo fX5_undo
  by_cases c : ik = 0
  · rw [if_pos c, if_pos c, fnd_4, fns_4, bR_some, bR_some]
    exact Both.mk ⟨⟨n, l, kd, cc, Hh, R, K⟩, F.up (by decide)⟩
  · rw [if_neg c, if_neg c, take_eq, bV_some]
    obtain ⟨k, e, q1, q2⟩ := undo_loop (st := st) (ik := ik) (ks := ks) 1024 0 s (by omega) (by omega) (fun j hj => absurd hj (by omega))
    have e : ll3 (fX5_undo_16 ik ks) qF s st 0 = some (ks 0, k) := e
    rw [e]
    exact Both.mk' (R2.1.2.1.trans R2.2.1.2.1.symm) ⟨⟨n2, l2, kd2, cc2, Hh2, R2.congr (fun j hj => cpy_at _ _ hj) (fun j hj => cpy_at _ _ hj) (fun j hj => cpy_at _ _ hj) q1, KV_new kn⟩, by rw [q2]; exact F⟩
/-! the tape -/
def RT (tl : Int32) (by_ : Nat → Int32) (tp : Int32) (ta : Nat → Int32) (t : Nat) : Prop := t ≤ 60 ∧ tl = nI t ∧ tp = nI t ∧ ∀ j, j < t → ∃ b, b < 256 ∧ by_ j = nI b ∧ ta j = nI b
def bt (x : Int32) (i : Nat) : Bool := x.toBitVec.getLsbD i
theorem b_ext {x y : Int32} (h : ∀ i, i < 32 → bt x i = bt y i) : x = y := Int32.toBitVec_inj.mp (BitVec.eq_of_getLsbD_eq (fun i hi => h i hi))
theorem b_and (x y : Int32) (i : Nat) : bt (x &&& y) i = (bt x i && bt y i) := by unfold bt; rw [Int32.toBitVec_and, BitVec.getLsbD_and]
theorem b_255 : ∀ i, i < 32 → bt 255 i = decide (i < 8) := by decide +kernel
theorem s_l : ∀ n, n < 32 → ((nI n &&& 31).toBitVec.smod 32).toNat = n := by decide +kernel
theorem s_u : ∀ n, n < 32 → (((nI n).toUInt32 &&& Int32.toUInt32 31).toBitVec % 32).toNat = n := by decide +kernel
theorem b_ushr (n : Nat) (hn : n < 32) (x : Int32) (i : Nat) : bt ((x.toUInt32 >>> ((nI n).toUInt32 &&& Int32.toUInt32 31)).toInt32) i = bt x (n + i) := by
  show (x.toUInt32 >>> ((nI n).toUInt32 &&& Int32.toUInt32 31)).toBitVec.getLsbD i = x.toUInt32.toBitVec.getLsbD (n + i)
  rw [UInt32.toBitVec_shiftRight]
  show (x.toUInt32.toBitVec >>> (((nI n).toUInt32 &&& Int32.toUInt32 31).toBitVec % 32).toNat).getLsbD i = _
  rw [s_u n hn, BitVec.getLsbD_ushiftRight]
theorem b_sshr (n : Nat) (hn : n < 32) (x : Int32) {i : Nat} (hi : i < 32) : bt (x >>> (nI n &&& 31)) i = if n + i < 32 then bt x (n + i) else bt x 31 := by
  unfold bt
  rw [Int32.toBitVec_shiftRight]
  show (x.toBitVec.sshiftRight ((nI n &&& 31).toBitVec.smod 32).toNat).getLsbD i = _
  rw [s_l n hn, BitVec.getLsbD_sshiftRight, BitVec.msb_eq_getLsbD_last]
  simp [hi]
theorem byte_eq (x : Int32) {j : Nat} (hj : j < 4) : jushr x (8 * nI j) &&& 255 = jshr x (8 * nI j) &&& 255 := by
  have e : 8 * nI j = nI (8 * j) := by rw [fa_lit 8, nI_mulL]
  rw [e]
  apply b_ext
  intro i hi
  rw [b_and, b_and, b_255 i hi]
  by_cases c : i < 8
  · rw [b_ushr _ (by omega), b_sshr _ (by omega) _ hi, if_pos (by omega)]
  · rw [decide_eq_false c, Bool.and_false, Bool.and_false]
theorem byte_ex (x : Int32) : ∃ b, b < 256 ∧ x &&& 255 = nI b := pk_andE x 8 (by decide)
theorem feed_loop {x1 : Int32} (F : FS fi st) : ∀ (f k t : Nat) (by_ ta : Nat → Int32), k ≤ 4 → k < f → RT (nI t) by_ (nI t) ta t → t + k ≤ 60 → Both (ll4 fX2_append_4 f (nI t) by_ x1 (nI k - 1)) (ll5 fX5_feed_41 f (nI t) st ta x1 (nI k - 1)) (fun k1 k2 => (∃ t', RT k1.1 k1.2 k2.1 k2.2.2 t') ∧ k2.2.1 = st)
  | 0, k, t, _, _, _, h, _, _ => absurd h (by omega)
  | f + 1, k, t, by_, ta, hk, hf, hT, hle => by
    have ih := feed_loop (x1 := x1) F f (k - 1) (t + 1)
    show Both (fX2_append_4 (ll4 fX2_append_4 f) (nI t) by_ x1 (nI k - 1)) (fX5_feed_41 (ll5 fX5_feed_41 f) (nI t) st ta x1 (nI k - 1)) _
    generalize ll4 fX2_append_4 f = ag1 at ih ⊢
    generalize ll5 fX5_feed_41 f = ag2 at ih ⊢
    unfold fX2_append_4 fX5_feed_41
    by_cases c : k = 0
    · subst c
      rw [if_pos (by decide), if_pos (by decide)]
      exact Both.mk ⟨⟨t, hT⟩, rfl⟩
    · have e : nI k - 1 = nI (k - 1) := by rw [fa_lit 1, nI_sub1 (by omega)]
      have e3 : nI (k - 1) + (-1) = nI (k - 1) - 1 := by
        rw [Int32.sub_eq_add_neg]
      rw [e, if_neg (nI_neg (by omega)), if_neg (nI_neg (by omega)), gIn_nI (by omega) (by decide), gIn_nI (by omega) (by decide), nm_of, nm_of, nm_of, nm_of, nI_1, e3, nI_clamp (by omega), byte_eq x1 (by omega)]
      obtain ⟨b, hb, eb⟩ := byte_ex (jshr x1 (8 * nI (k - 1)))
      rw [eb]
      refine ih _ _ (by omega) (by omega) ⟨by omega, rfl, rfl, fun j hj => ?_⟩ (by omega)
      by_cases d : j = t
      · subst d; exact ⟨b, hb, pk_us, pk_us⟩
      · rw [pk_un d, pk_un d]; exact hT.2.2.2 j (by omega)
theorem op_feed {tl tp : Int32} {by_ ta : Nat → Int32} {t : Nat} (T : RT tl by_ tp ta t) (F : FS fi st) (x1 x2 : Int32) : Both (fX4_feed tl by_ fi x1 x2) (fX5_feed tp st ta x1 x2) (fun k1 k2 => (∃ t', RT k1.1 k1.2.1 k2.1 k2.2.2 t') ∧ FS k1.2.2 k2.2.1) := by
  have T0 := T
  obtain ⟨t1, rfl, rfl, t2⟩ := T
  unfold fX4_feed fX5_feed fX4_feed_10
  have e1 : (1 : Int32).toInt = 1 := by decide
  have e4 : (4 : Int32).toInt = 4 := by decide
  rw [in_32 x2 1 4 (by decide) (by decide), bR_some, ite_b2, fnd_1, fns_1, bR_some, bR_some]
  by_cases h : 1 ≤ x2.toInt ∧ x2.toInt ≤ 4
  · rw [if_pos h, if_neg (show ¬ x2 < 1 by rw [Int32.lt_iff_toInt_lt]; omega), if_pos (show x2 ≤ 4 by rw [Int32.le_iff_toInt_le]; omega)]
    obtain ⟨m, hm, rfl⟩ := i_ex (x := x2) (n := 5) (by decide) (by omega) (by omega)
    rw [fa_lit 60, nI_sub1 t1, ite_lt (by omega) (by omega), nI_add, ite_le (by omega) (by decide), fnd_2, fns_2, bR_some, bR_some, nm_of]
    by_cases c : t + m ≤ 60
    · rw [if_neg (by omega), if_pos c]
      unfold fX2_append
      rw [nm_of]
      obtain ⟨r, k1, k2, q1, q2, q3, q4⟩ := feed_loop (x1 := x1) F 1024 m t by_ ta (by omega) (by omega) T0 c
      have q1 : ll4 fX2_append_4 qF (nI t) by_ x1 (nI m - 1) = some (r, k1) := q1
      have q2 : ll5 fX5_feed_41 qF (nI t) st ta x1 (nI m - 1) = some (r, k2) := q2
      rw [q1, q2, bR_some]
      exact Both.mk ⟨q3, by rw [q4]; exact F⟩
    · rw [if_pos (by omega), if_neg c]
      exact Both.mk ⟨⟨t, T0⟩, F.up (by decide)⟩
  · rw [if_neg h]
    by_cases h1 : x2 < 1
    · rw [if_pos h1]; exact Both.mk ⟨⟨t, T0⟩, F.up (by decide)⟩
    · rw [if_neg h1, if_neg (show ¬ x2 ≤ 4 by rw [Int32.lt_iff_toInt_lt] at h1; rw [Int32.le_iff_toInt_le]; omega)]
      exact Both.mk ⟨⟨t, T0⟩, F.up (by decide)⟩
end OPS2
end
section
/-! what settles -/
def cnt (p : Nat → Bool) : Nat → Nat
  | 0 => 0
  | n + 1 => cnt p n + if p n then 1 else 0
theorem cnt_le (p : Nat → Bool) : ∀ n, cnt p n ≤ n
  | 0 => Nat.le_refl 0
  | n + 1 => by
    have ih := cnt_le p n
    show cnt p n + (if p n then 1 else 0) ≤ n + 1
    split <;> omega
theorem cnt_congr {p q : Nat → Bool} : ∀ {n : Nat}, (∀ i, i < n → p i = q i) → cnt p n = cnt q n
  | 0, _ => rfl
  | n + 1, h => by
    show cnt p n + _ = cnt q n + _
    rw [cnt_congr (fun i hi => h i (by omega)), h n (by omega)]
theorem cnt_less {p q : Nat → Bool} {x : Nat} : ∀ {n : Nat}, x < n → p x = true → q x = false → (∀ i, i < n → ¬ i = x → q i = p i) → cnt p n = cnt q n + 1
  | 0, h, _, _, _ => absurd h (by omega)
  | n + 1, h, h1, h2, h3 => by
    show cnt p n + (if p n then 1 else 0) = cnt q n + (if q n then 1 else 0) + 1
    by_cases c : x = n
    · subst c
      rw [h1, h2, cnt_congr (fun i hi => (h3 i (by omega) (by omega)).symm)]
      simp
    · rw [cnt_less (x := x) (by omega) h1 h2 (fun i hi => h3 i (by omega)), h3 n (by omega) (fun q => c q.symm)]
      omega
theorem cnt_all (n : Nat) : cnt (fun _ => true) n = n := by
  induction n with
  | zero => rfl
  | succ n ih => show cnt (fun _ => true) n + 1 = n + 1; rw [ih]
theorem cnt_pos {p : Nat → Bool} : ∀ {n i : Nat}, i < n → p i = true → 0 < cnt p n
  | 0, i, h, _ => absurd h (by omega)
  | n + 1, i, h, hp => by
    show 0 < cnt p n + (if p n then 1 else 0)
    by_cases c : i = n
    · subst c; rw [if_pos hp]; omega
    · have := cnt_pos (p := p) (n := n) (i := i) (by omega) hp; omega
section SETT
variable {sz li to : Int32} {ki co : Nat → Int32} {te : Nat → Int64} {s kn fi st pile wish mark : Nat → Int32} {n l : Nat} {kd cc : Nat → Nat} {Hh : Nat → Nat → Bool}
theorem when_loop (P : PC n kd Hh sz ki te) {w p : Nat → Int32} (V : WV n kd Hh w) (F : FS fi st) : ∀ (d i a f1 f2 : Nat) (kn : Nat → Int32), i + d = 256 → d + 2 ≤ f1 → d + 1 ≤ f2 → a < 2 ^ n → KV n kd Hh kn → Both (ll4 (fX4_when_10 sz li ki te) f1 kn fi (nI a) (nI i)) (ll5 (fX5_when_13 s) f2 st p w (nI a) (nI i)) (fun k1 k2 => KV n kd Hh k1.1 ∧ FS k1.2 k2.1) := by
  intro d
  have hN := two_le P.1
  induction d with
  | zero =>
    intro i a f1 f2 kn hi h1 h2 ha K
    have e : i = 256 := by omega
    subst e
    obtain ⟨g1, rfl⟩ : ∃ g, f1 = g + 1 + 1 := ⟨f1 - 2, by omega⟩
    obtain ⟨g2, rfl⟩ : ∃ g, f2 = g + 1 := ⟨f2 - 1, by omega⟩
    show Both (fX4_when_10 sz li ki te (ll4 (fX4_when_10 sz li ki te) (g1 + 1)) kn fi (nI a) (nI 256)) (fX5_when_13 s (ll5 (fX5_when_13 s) g2) st p w (nI a) (nI 256)) _
    have e1 : ∀ k x, ll4 (fX4_when_10 sz li ki te) (g1 + 1) k fi x (nI 257) = some (-1000000004, (k, upd fi 3 (fi 3 + 1))) := by
      intro k x
      show fX4_when_10 sz li ki te (ll4 (fX4_when_10 sz li ki te) g1) k fi x (nI 257) = _
      unfold fX4_when_10
      rw [if_pos (show (256 : Int32) < nI 257 by decide), fnd_4, bR_some]
    generalize ll4 (fX4_when_10 sz li ki te) (g1 + 1) = ag1 at e1 ⊢
    unfold fX4_when_10 fX5_when_13 fX5_when_43
    rw [if_neg (show ¬ (256 : Int32) < nI 256 by decide), if_pos (show (256 : Int32) ≤ nI 256 by decide), gIn_nI (by omega) (by decide), nI_clamp (by omega), V a ha, ite_eqN (by have := Wd_256 P.1 kd Hh a; omega) (by omega)]
    obtain ⟨k1, q1, K1⟩ := isSettled_r P K (l := a) (by omega)
    rw [q1, bR_some, ite_b2]
    by_cases c : Wd n kd Hh a = a
    · rw [if_pos c, if_pos c]
      exact Both.mk ⟨K1, F⟩
    · rw [if_neg c, if_neg c, fns_4, bR_some]
      obtain ⟨k2, q2, K2⟩ := comers_r P K1 (l := a) (by omega)
      rw [q2, bR_some, nm_of, nI_1, e1]
      exact Both.mk ⟨K2, F.up (by decide)⟩
  | succ d ih =>
    intro i a f1 f2 kn hi h1 h2 ha K
    obtain ⟨g1, rfl⟩ : ∃ g, f1 = g + 1 := ⟨f1 - 1, by omega⟩
    obtain ⟨g2, rfl⟩ : ∃ g, f2 = g + 1 := ⟨f2 - 1, by omega⟩
    have ih := ih (i + 1) (Wd n kd Hh a) g1 g2
    show Both (fX4_when_10 sz li ki te (ll4 (fX4_when_10 sz li ki te) g1) kn fi (nI a) (nI i)) (fX5_when_13 s (ll5 (fX5_when_13 s) g2) st p w (nI a) (nI i)) _
    generalize ll4 (fX4_when_10 sz li ki te) g1 = ag1 at ih ⊢
    generalize ll5 (fX5_when_13 s) g2 = ag2 at ih ⊢
    unfold fX4_when_10 fX5_when_13 fX5_when_43
    rw [fa_lit 256, ite_lt (by decide) (by omega), ite_le (by decide) (by omega), if_neg (by omega), if_neg (by omega), gIn_nI (by omega) (by decide), gIn_nI (by omega) (by decide), gIn_nI (by omega) (by decide), nI_clamp (by omega), V a ha, ite_eqN (by have := Wd_256 P.1 kd Hh a; omega) (by omega), nm_of, nm_of]
    obtain ⟨k1, q1, K1⟩ := isSettled_r P K (l := a) (by omega)
    rw [q1, bR_some, ite_b2]
    by_cases c : Wd n kd Hh a = a
    · rw [if_pos c, if_pos c, if_pos (by rw [c])]
      exact Both.mk ⟨K1, F⟩
    · rw [if_neg c, if_neg c]
      obtain ⟨k2, q2, K2⟩ := comers_r P K1 (l := a) (by omega)
      rw [q2, bR_some, nm_of, nI_1]
      exact ih k2 (by omega) (by omega) (by omega) (Wd_lt n kd Hh a) K2
theorem op_when (R : RA sz li to ki co te s n l kd cc Hh) (K : KV n kd Hh kn) (F : FS fi st) : Both (fX4_when sz li ki te kn fi) (fX5_when s st pile wish) (fun k1 k2 => KV n kd Hh k1.1 ∧ FS k1.2 k2.1) := by
  obtain ⟨P, M, hL, hC, hT, -⟩ := R
  unfold fX4_when fX5_when
  obtain ⟨k, e, V⟩ := looksAll_r M pile wish
  rw [e, bV_some, nm_of, hL.2.1, hL.2.2]
  exact when_loop P V F 256 0 l 1024 1024 kn (by omega) (by omega) (by omega) hL.1 K
/-! how many -/
def ss (n : Nat) (kd : Nat → Nat) (Hh : Nat → Nat → Bool) (l : Nat) : Bool := decide (Wd n kd Hh l = l)
theorem cnt_s (p : Nat → Bool) (i : Nat) : nI (cnt p i) + b2 (p i = true) = nI (cnt p (i + 1)) := by
  show _ = nI (cnt p i + if p i then 1 else 0)
  cases h : p i with
  | false => rw [b2_f (by simp), if_neg (by simp), fa_lit 0, nI_add]
  | true => rw [b2_t rfl, if_pos rfl, nI_1]
theorem settled_loop (P : PC n kd Hh sz ki te) : ∀ (f i : Nat) (kn : Nat → Int32), i ≤ 2 ^ n → 2 ^ n - i < f → KV n kd Hh kn → Ret (ll3 (fX4_settled_4 sz ki te) f kn (nI (cnt (ss n kd Hh) i)) (nI i)) (nI (cnt (ss n kd Hh) (2 ^ n))) (KV n kd Hh)
  | 0, i, _, _, h, _ => absurd h (by omega)
  | f + 1, i, kn, hi, hf, K => by
    have ih := settled_loop P f (i + 1)
    have hN := two_le P.1
    show Ret (fX4_settled_4 sz ki te (ll3 (fX4_settled_4 sz ki te) f) kn (nI (cnt (ss n kd Hh) i)) (nI i)) _ _
    generalize ll3 (fX4_settled_4 sz ki te) f = ag at ih ⊢
    unfold fX4_settled_4
    have hsz := P.2.1
    rw [show fX0_lists sz = some (nI (2 ^ n), ()) from by rw [hsz]; exact lists_c P.1, bR_some, ite_le (by omega) (by omega)]
    by_cases c : 2 ^ n ≤ i
    · have e : i = 2 ^ n := by omega
      rw [if_pos c, e]
      exact Ret.mk K
    · rw [if_neg c]
      refine Ret.b1 (isSettled_r P K (by omega)) (fun k hk => ?_)
      rw [oneIf_b2, bR_some, nm_of, nm_of, nI_1, b2_congr (show Wd n kd Hh i = i ↔ ss n kd Hh i = true from by unfold ss; exact decide_eq_true_iff.symm), cnt_s]
      exact ih k (by omega) (by omega) hk
theorem settledM_loop (M : PM n kd Hh s) {w : Nat → Int32} (V : WV n kd Hh w) : ∀ (f i : Nat) (p : Nat → Int32), i ≤ 2 ^ n → 2 ^ n - i < f → Ret (ll4 (fX5_manySettled_8 s) f p w (nI (cnt (ss n kd Hh) i)) (nI i)) (nI (cnt (ss n kd Hh) (2 ^ n))) (fun k => WV n kd Hh k.2)
  | 0, i, _, _, h => absurd h (by omega)
  | f + 1, i, p, hi, hf => by
    have ih := settledM_loop M V f (i + 1)
    have hN := two_le M.1
    show Ret (fX5_manySettled_8 s (ll4 (fX5_manySettled_8 s) f) p w (nI (cnt (ss n kd Hh) i)) (nI i)) _ _
    generalize ll4 (fX5_manySettled_8 s) f = ag at ih ⊢
    unfold fX5_manySettled_8
    rw [lists_m M, bR_some, ite_le (by omega) (by omega)]
    by_cases c : 2 ^ n ≤ i
    · have e : i = 2 ^ n := by omega
      rw [if_pos c, e]
      exact Ret.mk V
    · rw [if_neg c, gIn_nI (by omega) (by decide), nI_clamp (by omega), V i (by omega), ite_eqN (by have := Wd_256 M.1 kd Hh i; omega) (by omega)]
      unfold fX5_manySettled_32
      have h := cnt_s (ss n kd Hh) i
      by_cases d : Wd n kd Hh i = i
      · rw [if_pos d, nm_of, nm_of, nI_1 i]
        rw [b2_t (show ss n kd Hh i = true from decide_eq_true d)] at h
        rw [h]
        exact ih p (by omega) (by omega)
      · rw [if_neg d, nm_of, nm_of, nI_1]
        rw [b2_f (show ¬ ss n kd Hh i = true from by unfold ss; rw [decide_eq_false d]; simp)] at h
        rw [h]
        exact ih p (by omega) (by omega)
theorem manySettled_r (M : PM n kd Hh s) : Ret (fX5_manySettled s pile wish) (nI (cnt (ss n kd Hh) (2 ^ n))) (fun k => WV n kd Hh k.2) := by
  unfold fX5_manySettled
  refine RetV.b1 (looksAll_r M pile wish) (fun k V => ?_)
  exact settledM_loop M V 1024 0 k.1 (Nat.zero_le _) (by have := two_le M.1; omega)
theorem op_settled (R : RA sz li to ki co te s n l kd cc Hh) (K : KV n kd Hh kn) : Both (fX4_settled sz ki te kn) (fX5_settled s pile wish) (fun k1 _ => KV n kd Hh k1) := by
  obtain ⟨P, M, -⟩ := R
  unfold fX4_settled fX5_settled
  exact Both.of (settled_loop P 1024 0 kn (Nat.zero_le _) (by have := two_le P.1; omega) K) (Q2 := fun _ => True) (Ret.b1 (manySettled_r M) (fun k _ => Ret.mk trivial)) (fun k1 k2 q1 _ => q1)
theorem ith_loop (P : PC n kd Hh sz ki te) (M : PM n kd Hh s) {w p : Nat → Int32} (V : WV n kd Hh w) (F : FS fi st) {v : Nat} (hv : v < 2 ^ 31) : ∀ (f i b : Nat) (kn : Nat → Int32), i ≤ 2 ^ n → 2 ^ n - i < f → b ≤ v → KV n kd Hh kn → Both (ll5 (fX4_ith_15 sz ki te) f kn fi (nI v) (nI b) (nI i)) (ll5 (fX5_ith_19 s) f st p w (nI (v - b)) (nI i)) (fun k1 k2 => KV n kd Hh k1.1 ∧ FS k1.2 k2.1)
  | 0, i, _, _, _, h, _, _ => absurd h (by omega)
  | f + 1, i, b, kn, hi, hf, hb, K => by
    have ih := ith_loop P M (p := p) V F hv f (i + 1)
    have hN := two_le P.1
    show Both (fX4_ith_15 sz ki te (ll5 (fX4_ith_15 sz ki te) f) kn fi (nI v) (nI b) (nI i)) (fX5_ith_19 s (ll5 (fX5_ith_19 s) f) st p w (nI (v - b)) (nI i)) _
    generalize ll5 (fX4_ith_15 sz ki te) f = ag1 at ih ⊢
    generalize ll5 (fX5_ith_19 s) f = ag2 at ih ⊢
    unfold fX4_ith_15 fX5_ith_19 fX4_ith_47 fX5_ith_46
    have hsz := P.2.1
    rw [show fX0_lists sz = some (nI (2 ^ n), ()) from by rw [hsz]; exact lists_c P.1, lists_m M, bR_some, bR_some, ite_le (by omega) (by omega), ite_le (by omega) (by omega)]
    by_cases c : 2 ^ n ≤ i
    · rw [if_pos c, if_pos c, fnd_4, fns_4, bR_some, bR_some]
      exact Both.mk ⟨K, F.up (by decide)⟩
    · obtain ⟨k1, q1, K1⟩ := isSettled_r P K (l := i) (by omega)
      rw [if_neg c, if_neg c, gIn_nI (by omega) (by decide), nI_clamp (by omega), V i (by omega), ite_eqN (by have := Wd_256 P.1 kd Hh i; omega) (by omega), q1, bR_some, ite_b2, nm_of, nm_of, nm_of, nm_of, nm_of, nm_of, nI_1, nI_1, ite_eqN (by omega) (by omega)]
      by_cases d : Wd n kd Hh i = i
      · rw [if_pos d, if_pos d]
        by_cases e : b = v
        · rw [if_pos e, if_pos (show nI (v - b) = 0 from by rw [e, Nat.sub_self]; rfl)]
          exact Both.mk ⟨K1, F⟩
        · have e2 : ¬ nI (v - b) = 0 := fun q => e (by have := (nI_eq (b := 0) (by omega) (by decide)).mp q; omega)
          have e3 : nI (v - b) + (-1) = nI (v - (b + 1)) := by
            have : nI (v - b) = nI (v - (b + 1)) + 1 := by rw [nI_1]; congr 1; omega
            rw [this, Int32.add_assoc]
            show nI (v - (b + 1)) + 0 = _
            simp
          rw [if_neg e, if_neg e2, e3]
          exact ih (b + 1) k1 (by omega) (by omega) (by omega) K1
      · rw [if_neg d, if_neg d]
        exact ih b k1 (by omega) (by omega) hb K1
theorem op_ith (R : RA sz li to ki co te s n l kd cc Hh) (K : KV n kd Hh kn) (F : FS fi st) (x1 : Int32) : Both (fX4_ith sz ki te kn fi x1) (fX5_ith s st pile wish x1) (fun k1 k2 => KV n kd Hh k1.1 ∧ FS k1.2 k2.1) := by
  obtain ⟨P, M, -⟩ := R
  unfold fX4_ith fX5_ith
  by_cases h : 0 ≤ x1
  · rw [if_pos h, if_pos h]
    obtain ⟨v, hv, rfl⟩ := nI_of (x := x1) (fun q => by
      rw [Int32.lt_iff_toInt_lt] at q; rw [Int32.le_iff_toInt_le] at h; omega)
    obtain ⟨k, e, V⟩ := looksAll_r M pile wish
    rw [e, bV_some]
    have := ith_loop P M (p := k.1) V F hv 1024 0 0 kn (Nat.zero_le _) (by have := two_le P.1; omega) (Nat.zero_le _) K
    rw [Nat.sub_zero] at this
    exact this
  · rw [if_neg h, if_neg h, fnd_1, fns_1, bR_some, bR_some]
    exact Both.mk ⟨K, F.up (by decide)⟩
/-! of all that are settled -/
def fold (p : Nat → Bool) (f : Nat → Nat → Nat) (a : Nat) : Nat → Nat
  | 0 => a
  | i + 1 => if p i then f (fold p f a i) i else fold p f a i
theorem fold_t {p : Nat → Bool} {f : Nat → Nat → Nat} {a i : Nat} (h : p i = true) : fold p f a (i + 1) = f (fold p f a i) i := if_pos h
theorem fold_f {p : Nat → Bool} {f : Nat → Nat → Nat} {a i : Nat} (h : ¬ p i = true) : fold p f a (i + 1) = fold p f a i := if_neg h
theorem fold_lt {p : Nat → Bool} {f : Nat → Nat → Nat} {a M : Nat} (ha : a < M) (hf : ∀ x i, x < M → i < M → f x i < M) : ∀ i, i ≤ M → fold p f a i < M
  | 0, _ => ha
  | i + 1, h => by
    have ih := fold_lt (p := p) ha hf i (by omega)
    by_cases c : p i = true
    · rw [fold_t c]; exact hf _ _ ih (by omega)
    · rw [fold_f c]; exact ih
def mx (a i : Nat) : Nat := if a < pop i then pop i else a
def mn (a i : Nat) : Nat := if pop i < a then pop i else a
theorem mx_d (a i : Nat) : mx a i = if a < pop i then pop i else a := rfl
theorem mn_d (a i : Nat) : mn a i = if pop i < a then pop i else a := rfl
theorem fold_mx {p : Nat → Bool} : ∀ i, fold p mx 0 i ≤ 8
  | 0 => by show (0 : Nat) ≤ 8; omega
  | i + 1 => by
    have ih := fold_mx (p := p) i
    have := pop_le i
    by_cases c : p i = true
    · rw [fold_t c, mx_d]; split <;> omega
    · rw [fold_f c]; exact ih
theorem fold_mn {p : Nat → Bool} : ∀ i, fold p mn 8 i ≤ 8
  | 0 => by show (8 : Nat) ≤ 8; omega
  | i + 1 => by
    have ih := fold_mn (p := p) i
    have := pop_le i
    by_cases c : p i = true
    · rw [fold_t c, mn_d]; split <;> omega
    · rw [fold_f c]; exact ih
/-- what sure answers -/
def sureR (p : Nat → Bool) (N x : Nat) : Nat := if x = 0 then fold p (fun a i => a &&& i) (N - 1) N else if x = 1 then fold p (fun a i => a ||| i) 0 N else if x = 2 then fold p mx 0 N else fold p mn 8 N
/-- the greatest as the class counts it: -1 while there is none -/
def mC (p : Nat → Bool) (i : Nat) : Int32 := if cnt p i = 0 then -1 else nI (fold p mx 0 i)
theorem mC_t {p : Nat → Bool} {i : Nat} (h : p i = true) : mC p (i + 1) = jmax (mC p i) (nI (pop i)) := by
  have h8 := fold_mx (p := p) i
  have hp := pop_le i
  have e : cnt p (i + 1) = cnt p i + 1 := by show cnt p i + (if p i then 1 else 0) = _; rw [if_pos h]
  unfold mC
  rw [e, if_neg (by omega), fold_t h]
  by_cases c : cnt p i = 0
  · rw [if_pos c]
    have z : ∀ (q : Nat → Bool) (j : Nat), cnt q j = 0 → fold q mx 0 j = 0 := by
      intro q j
      induction j with
      | zero => intro _; rfl
      | succ j ih =>
        intro hc
        have hc : cnt q j + (if q j then 1 else 0) = 0 := hc
        by_cases d : q j = true
        · rw [if_pos d] at hc; omega
        · rw [fold_f d]; exact ih (by omega)
    rw [z p i c]
    exact (by decide +kernel : ∀ o, o < 9 → nI (if 0 < o then o else 0) = jmax (-1) (nI o)) (pop i) (by omega)
  · rw [if_neg c]
    show nI (if _ < _ then _ else _) = if _ < _ then _ else _
    rw [ite_lt (by omega) (by omega)]
    split <;> rfl
theorem mC_f {p : Nat → Bool} {i : Nat} (h : ¬ p i = true) : mC p (i + 1) = mC p i := by
  have e : cnt p (i + 1) = cnt p i := by show cnt p i + (if p i then 1 else 0) = _; rw [if_neg h]; rfl
  unfold mC
  rw [e, fold_f h]
theorem and_or_lt (hn : n ≤ 8) : (∀ x i, x < 256 → i < 256 → (fun a i => a &&& i) x i < 256) ∧ (∀ x i, x < 256 → i < 256 → (fun a i => a ||| i) x i < 256) := ⟨fun _ _ h _ => and_256 _ h, fun _ _ h1 h2 => or_256 h1 h2⟩
theorem sure_end {x : Nat} (hx : x < 4) {N : Nat} (p : Nat → Bool) (hc : ¬ cnt p N = 0) {κ : Type} (k : κ) : (if (nI x).toInt < 0 ∨ 2 < (nI x).toInt then some (nI (fold p mn 8 N), k) else (if nI x = 0 then some (nI (fold p (fun a i => a &&& i) (N - 1) N), k) else (if nI x = 1 then some (nI (fold p (fun a i => a ||| i) 0 N), k) else (if nI x = 2 then some (mC p N, k) else none)))) = some (nI (sureR p N x), k) := by
  unfold sureR mC
  rw [if_neg hc]
  match x, hx with
  | 0, _ => rfl
  | 1, _ => rfl
  | 2, _ => rfl
  | 3, _ => rfl
  | x + 4, h => exact absurd h (by omega)
theorem sure_loop (P : PC n kd Hh sz ki te) {x : Nat} (hx : x < 4) : ∀ (f i : Nat) (kn : Nat → Int32), i ≤ 2 ^ n → 2 ^ n - i < f → KV n kd Hh kn → Ret (ll8 (fX4_sure_36 sz ki te) f kn fi (nI x) (nI (fold (ss n kd Hh) (fun a i => a &&& i) (2 ^ n - 1) i)) (nI (fold (ss n kd Hh) (fun a i => a ||| i) 0 i)) (mC (ss n kd Hh) i) (nI (fold (ss n kd Hh) mn 8 i)) (nI i)) (if cnt (ss n kd Hh) (2 ^ n) = 0 then -1000000004 else nI (sureR (ss n kd Hh) (2 ^ n) x)) (fun k => KV n kd Hh k.1 ∧ k.2 = if cnt (ss n kd Hh) (2 ^ n) = 0 then upd fi 3 (fi 3 + 1) else fi)
  | 0, i, _, _, h, _ => absurd h (by omega)
  | f + 1, i, kn, hi, hf, K => by
    have ih := sure_loop P hx f (i + 1)
    have hN := two_le P.1
    show Ret (fX4_sure_36 sz ki te (ll8 (fX4_sure_36 sz ki te) f) kn fi (nI x) (nI (fold (ss n kd Hh) (fun a i => a &&& i) (2 ^ n - 1) i)) (nI (fold (ss n kd Hh) (fun a i => a ||| i) 0 i)) (mC (ss n kd Hh) i) (nI (fold (ss n kd Hh) mn 8 i)) (nI i)) _ _
    generalize ll8 (fX4_sure_36 sz ki te) f = ag at ih ⊢
    unfold fX4_sure_36 fX4_sure_94
    have hsz := P.2.1
    rw [show fX0_lists sz = some (nI (2 ^ n), ()) from by rw [hsz]; exact lists_c P.1, bR_some, ite_le (by omega) (by omega)]
    by_cases c : 2 ^ n ≤ i
    · have e : i = 2 ^ n := by omega
      subst e
      rw [if_pos c]
      by_cases z : cnt (ss n kd Hh) (2 ^ n) = 0
      · rw [if_pos z, if_pos z, if_neg (show ¬ (0 : Int32) ≤ mC (ss n kd Hh) (2 ^ n) from by unfold mC; rw [if_pos z]; decide), fnd_4, bR_some]
        exact Ret.mk ⟨K, rfl⟩
      · rw [if_neg z, if_neg z, if_pos (show (0 : Int32) ≤ mC (ss n kd Hh) (2 ^ n) from by unfold mC; rw [if_neg z]; exact nI_0le (by have := fold_mx (p := ss n kd Hh) (2 ^ n); omega)), sure_end hx _ z]
        exact Ret.mk ⟨K, rfl⟩
    · rw [if_neg c]
      refine Ret.b1 (isSettled_r P K (by omega)) (fun k hk => ?_)
      have ih := ih k (by omega) (by omega) hk
      rw [ite_b2]
      by_cases d : Wd n kd Hh i = i
      · have d2 : ss n kd Hh i = true := decide_eq_true d
        have h8 := fold_mn (p := ss n kd Hh) i
        have hp := pop_le i
        rw [fold_t d2, fold_t d2, fold_t d2, mC_t d2] at ih
        rw [if_pos d, pop_i i (by omega)]
        simp only [bR_some, nm_of, nI_1, fa_and, fa_or]
        have e : jmin (nI (fold (ss n kd Hh) mn 8 i)) (nI (pop i)) = nI (mn (fold (ss n kd Hh) mn 8 i) i) := by
          show (if _ < _ then _ else _) = nI (if _ < _ then _ else _)
          rw [ite_lt (by omega) (by omega)]
          split <;> rfl
        rw [e]
        exact ih
      · have d2 : ¬ ss n kd Hh i = true := by unfold ss; rw [decide_eq_false d]; simp
        rw [fold_f d2, fold_f d2, fold_f d2, mC_f d2] at ih
        rw [if_neg d, nm_of, nI_1]
        exact ih
theorem sureM_loop (M : PM n kd Hh s) {w p : Nat → Int32} (V : WV n kd Hh w) {x : Nat} (hx : x < 4) : ∀ (f i : Nat), i ≤ 2 ^ n → 2 ^ n - i < f → Ret (ll9 (fX5_sure_52 s) f st p w (nI x) (nI (fold (ss n kd Hh) (fun a i => a &&& i) (2 ^ n - 1) i)) (nI (fold (ss n kd Hh) (fun a i => a ||| i) 0 i)) (nI (fold (ss n kd Hh) mx 0 i)) (nI (fold (ss n kd Hh) mn 8 i)) (nI i)) (nI (sureR (ss n kd Hh) (2 ^ n) x)) (fun k => k.1 = st)
  | 0, i, _, h => absurd h (by omega)
  | f + 1, i, hi, hf => by
    have ih := sureM_loop M V hx (p := p) f (i + 1)
    have hN := two_le M.1
    show Ret (fX5_sure_52 s (ll9 (fX5_sure_52 s) f) st p w (nI x) (nI (fold (ss n kd Hh) (fun a i => a &&& i) (2 ^ n - 1) i)) (nI (fold (ss n kd Hh) (fun a i => a ||| i) 0 i)) (nI (fold (ss n kd Hh) mx 0 i)) (nI (fold (ss n kd Hh) mn 8 i)) (nI i)) _ _
    generalize ll9 (fX5_sure_52 s) f = ag at ih ⊢
    unfold fX5_sure_52 fX5_sure_103 fX5_sure_125 fX5_sure_127
    rw [lists_m M, bR_some, ite_le (by omega) (by omega)]
    by_cases c : 2 ^ n ≤ i
    · have e : i = 2 ^ n := by omega
      subst e
      rw [if_pos c]
      unfold sureR
      match x, hx with
      | 0, _ => exact Ret.mk rfl
      | 1, _ => exact Ret.mk rfl
      | 2, _ => exact Ret.mk rfl
      | 3, _ => exact Ret.mk rfl
      | x + 4, h => exact absurd h (by omega)
    · have ih := ih (by omega) (by omega)
      rw [if_neg c, gIn_nI (by omega) (by decide), nI_clamp (by omega), V i (by omega), ite_eqN (by have := Wd_256 M.1 kd Hh i; omega) (by omega)]
      by_cases d : Wd n kd Hh i = i
      · have d2 : ss n kd Hh i = true := decide_eq_true d
        have h8 := fold_mn (p := ss n kd Hh) i
        have h9 := fold_mx (p := ss n kd Hh) i
        have hp := pop_le i
        rw [fold_t d2, fold_t d2, fold_t d2, fold_t d2] at ih
        rw [if_pos d, nm_of, nm_of, ones_i i (by omega)]
        simp only [bR_some, nm_of, nI_1, fa_and, fa_or]
        rw [ite_le (by omega) (by omega), ite_le (by omega) (by omega)]
        rw [mx_d, mn_d] at ih
        by_cases c1 : pop i ≤ fold (ss n kd Hh) mx 0 i
        · rw [if_pos c1]
          rw [if_neg (show ¬ fold (ss n kd Hh) mx 0 i < pop i by omega)] at ih
          by_cases c2 : fold (ss n kd Hh) mn 8 i ≤ pop i
          · rw [if_pos c2]
            rw [if_neg (show ¬ pop i < fold (ss n kd Hh) mn 8 i by omega)] at ih
            exact ih
          · rw [if_neg c2]
            rw [if_pos (show pop i < fold (ss n kd Hh) mn 8 i by omega)] at ih
            exact ih
        · rw [if_neg c1, ite_le (by omega) (by omega)]
          rw [if_pos (show fold (ss n kd Hh) mx 0 i < pop i by omega)] at ih
          by_cases c2 : fold (ss n kd Hh) mn 8 i ≤ pop i
          · rw [if_pos c2]
            rw [if_neg (show ¬ pop i < fold (ss n kd Hh) mn 8 i by omega)] at ih
            exact ih
          · rw [if_neg c2]
            rw [if_pos (show pop i < fold (ss n kd Hh) mn 8 i by omega)] at ih
            exact ih
      · have d2 : ¬ ss n kd Hh i = true := by unfold ss; rw [decide_eq_false d]; simp
        rw [fold_f d2, fold_f d2, fold_f d2, fold_f d2] at ih
        rw [if_neg d, nm_of, nI_1]
        exact ih
theorem op_sure (R : RA sz li to ki co te s n l kd cc Hh) (K : KV n kd Hh kn) (F : FS fi st) (x1 : Int32) : Both (fX4_sure sz ki te kn fi x1) (fX5_sure s st pile wish x1) (fun k1 k2 => KV n kd Hh k1.1 ∧ FS k1.2 k2.1) := by
  obtain ⟨P, M, -⟩ := R
  have hn := P.1
  have hsz := P.2.1
  have hN := two_le hn
  unfold fX4_sure fX5_sure fX4_sure_9
  have e0 : (0 : Int32).toInt = 0 := by decide
  have e3 : (3 : Int32).toInt = 3 := by decide
  rw [in_32 x1 0 3 (by decide) (by decide), bR_some, ite_b2, fnd_1, fns_1, bR_some, bR_some]
  by_cases h : 0 ≤ x1.toInt ∧ x1.toInt ≤ 3
  · rw [if_pos h, if_neg (show ¬ x1 < 0 by rw [Int32.lt_iff_toInt_lt]; omega), if_pos (show x1 ≤ 3 by rw [Int32.le_iff_toInt_le]; omega)]
    obtain ⟨x, hx, rfl⟩ := i_ex (x := x1) (n := 4) (by decide) h.1 (by omega)
    rw [show fX0_everyone sz = some (nI (2 ^ n - 1), ()) from by rw [hsz]; exact everyone_c hn, bR_some]
    obtain ⟨k1, q1, q2, q3⟩ := sure_loop (fi := fi) P hx 1024 0 kn (Nat.zero_le _) (by omega) K
    have q1 : ll8 (fX4_sure_36 sz ki te) qF kn fi (nI x) (nI (2 ^ n - 1)) 0 (-1) 8 0 = some (_, k1) := q1
    obtain ⟨k2, p1, p2⟩ := manySettled_r (pile := pile) (wish := wish) M
    have hc := cnt_le (ss n kd Hh) (2 ^ n)
    rw [q1, p1, bR_some, lists_m M, bR_some, nm_of, fa_lit 1, nI_sub1 Nat.one_le_two_pow, fns_4, bR_some]
    by_cases z : cnt (ss n kd Hh) (2 ^ n) = 0
    · rw [if_pos z] at q3 ⊢
      rw [z, if_pos (show nI 0 = 0 from rfl)]
      exact Both.mk ⟨q2, by rw [q3]; exact F.up (by decide)⟩
    · rw [if_neg z] at q3 ⊢
      rw [if_neg (show ¬ nI (cnt (ss n kd Hh) (2 ^ n)) = 0 from fun q => z ((nI_eq (b := 0) (by omega) (by decide)).mp q))]
      obtain ⟨k3, p3, p4⟩ := sureM_loop (st := st) (p := k2.1) M p2 hx 1024 0 (Nat.zero_le _) (by omega)
      have p3 : ll9 (fX5_sure_52 s) qF st k2.1 k2.2 (nI x) (nI (2 ^ n - 1)) 0 0 8 0 = some (_, k3) := p3
      rw [p3]
      exact Both.mk ⟨q2, by rw [q3, p4]; exact F⟩
  · rw [if_neg h]
    by_cases h1 : x1 < 0
    · rw [if_pos h1]; exact Both.mk ⟨K, F.up (by decide)⟩
    · rw [if_neg h1, if_neg (show ¬ x1 ≤ 3 by rw [Int32.lt_iff_toInt_lt] at h1; rw [Int32.le_iff_toInt_le]; omega)]
      exact Both.mk ⟨K, F.up (by decide)⟩
end SETT
end
section
/-! rounds that come round again -/
/-- from l on: u rounds ahead of the ring, which is v long -/
def Cyc (f : Nat → Nat) (l u v : Nat) : Prop := 1 ≤ v ∧ u + v ≤ 256 ∧ it f (u + v) l = it f u l ∧ ∀ i j, i < j → j < u + v → ¬ it f i l = it f j l
theorem Cyc.per {f : Nat → Nat} {l u v : Nat} (h : Cyc f l u v) {k : Nat} (hk : u ≤ k) : it f (k + v) l = it f k l := by
  have e : k = (k - u) + u := by omega
  rw [show k + v = (k - u) + (u + v) by omega, it_add, h.2.2.1, ← it_add, ← e]
theorem Cyc.pers {f : Nat → Nat} {l u v : Nat} (h : Cyc f l u v) {k : Nat} (hk : u ≤ k) : ∀ q, it f (k + q * v) l = it f k l
  | 0 => by rw [Nat.zero_mul, Nat.add_zero]
  | q + 1 => by rw [Nat.succ_mul, ← Nat.add_assoc, h.per (by omega)]; exact Cyc.pers h hk q
/-- the place on the ring where 256 rounds lead -/
theorem Cyc.at {f : Nat → Nat} {l u v : Nat} (h : Cyc f l u v) : ∃ c, u ≤ c ∧ c < u + v ∧ it f 256 l = it f c l := by
  have hv := h.1
  have hu := h.2.1
  refine ⟨u + (256 - u) % v, by omega, by have := Nat.mod_lt (256 - u) (show v > 0 by omega); omega, ?_⟩
  have e : 256 = u + (256 - u) % v + (256 - u) / v * v := by
    have := Nat.div_add_mod (256 - u) v
    rw [Nat.mul_comm] at this
    omega
  have := h.pers (k := u + (256 - u) % v) (by omega) ((256 - u) / v)
  rw [← e] at this
  exact this
theorem Cyc.ne {f : Nat → Nat} {l u v c p : Nat} (h : Cyc f l u v) (h1 : u ≤ c) (h2 : c < u + v) (h3 : 1 ≤ p) (h4 : p < v) : ¬ it f (c + p) l = it f c l := by
  by_cases d : c + p < u + v
  · exact fun q => h.2.2.2 c (c + p) (by omega) d q.symm
  · have e := h.per (k := c + p - v) (by omega)
    rw [show c + p - v + v = c + p by omega] at e
    rw [e]
    exact h.2.2.2 (c + p - v) c (by omega) h2
section RING
variable {sz li to : Int32} {ki co : Nat → Int32} {te : Nat → Int64} {s kn fi st pile wish mark : Nat → Int32} {n l : Nat} {kd cc : Nat → Nat} {Hh : Nat → Nat → Bool}
theorem ringLength_loop (P : PC n kd Hh sz ki te) {a u v c : Nat} {li : Int32} (ha : a < 256) (C : Cyc (Wd n kd Hh) l u v) (h1 : u ≤ c) (h2 : c < u + v) (hac : a = it (Wd n kd Hh) c l) : ∀ (f p : Nat) (kn : Nat → Int32), 1 ≤ p → p ≤ v → v - p < f → KV n kd Hh kn → Ret (ll5 (fX0_ringLength_23 sz li ki te) f kn (nI a) (nI (it (Wd n kd Hh) p a)) (nI p) (nI (p - 1))) (nI v) (KV n kd Hh)
  | 0, p, _, _, _, h, _ => absurd h (by omega)
  | f + 1, p, kn, hp, hv, hf, K => by
    have ih := ringLength_loop (li := li) P ha C h1 h2 hac f (p + 1)
    have hv2 := C.2.1
    show Ret (fX0_ringLength_23 sz li ki te (ll5 (fX0_ringLength_23 sz li ki te) f) kn (nI a) (nI (it (Wd n kd Hh) p a)) (nI p) (nI (p - 1))) _ _
    generalize ll5 (fX0_ringLength_23 sz li ki te) f = ag at ih ⊢
    have hi := it_256 (kd := kd) (Hh := Hh) P.1 ha p
    unfold fX0_ringLength_23
    rw [fa_lit 256, ite_le (by decide) (by omega), if_neg (by omega), ite_eqN (by omega) (by omega)]
    have e : it (Wd n kd Hh) p a = it (Wd n kd Hh) (c + p) l := by rw [hac, ← it_add, Nat.add_comm]
    by_cases d : p = v
    · have : it (Wd n kd Hh) p a = a := by rw [e, d, C.per h1, hac]
      rw [if_pos this, d]
      exact Ret.mk K
    · have : ¬ it (Wd n kd Hh) p a = a := by rw [e, hac]; exact C.ne h1 h2 hp (by omega)
      rw [if_neg this]
      refine Ret.b1 (comers_r P K hi) (fun k hk => ?_)
      rw [nm_of, nm_of, nI_1, nI_1, show p - 1 + 1 = p + 1 - 1 by omega, ← it_s (Wd n kd Hh)]
      exact ih k (by omega) (by omega) (by omega) hk
theorem ringLength_r (P : PC n kd Hh sz ki te) (K : KV n kd Hh kn) {u v : Nat} (hl : l < 256) (C : Cyc (Wd n kd Hh) l u v) : Ret (fX0_ringLength sz (nI l) ki te kn) (nI v) (KV n kd Hh) := by
  unfold fX0_ringLength
  obtain ⟨c, h1, h2, h3⟩ := C.at
  refine Ret.b1 (behind_r P K (m := 256) hl (by omega)) (fun k hk => ?_)
  have ha := it_256 (kd := kd) (Hh := Hh) P.1 hl 256
  refine Ret.b1 (comers_r P hk ha) (fun k2 hk2 => ?_)
  exact ringLength_loop (li := nI l) P ha C h1 h2 h3 1024 1 k2 (by omega) C.1 (by have := C.2.1; omega) hk2
theorem roundsToRing_loop (P : PC n kd Hh sz ki te) {u v : Nat} {li : Int32} (hl : l < 256) (C : Cyc (Wd n kd Hh) l u v) : ∀ (f k : Nat) (kn : Nat → Int32), k ≤ u → u - k < f → KV n kd Hh kn → Ret (ll5 (fX0_roundsToRing_21 sz li ki te) f kn (nI (it (Wd n kd Hh) k l)) (nI (it (Wd n kd Hh) (k + v) l)) (nI k) (nI k)) (nI u) (KV n kd Hh)
  | 0, k, _, _, h, _ => absurd h (by omega)
  | f + 1, k, kn, hk, hf, K => by
    have ih := roundsToRing_loop (li := li) P hl C f (k + 1)
    have hv := C.1
    have hv2 := C.2.1
    show Ret (fX0_roundsToRing_21 sz li ki te (ll5 (fX0_roundsToRing_21 sz li ki te) f) kn (nI (it (Wd n kd Hh) k l)) (nI (it (Wd n kd Hh) (k + v) l)) (nI k) (nI k)) _ _
    generalize ll5 (fX0_roundsToRing_21 sz li ki te) f = ag at ih ⊢
    have h1 := it_256 (kd := kd) (Hh := Hh) P.1 hl k
    have h2 := it_256 (kd := kd) (Hh := Hh) P.1 hl (k + v)
    unfold fX0_roundsToRing_21
    rw [fa_lit 256, ite_le (by decide) (by omega), if_neg (by omega), ite_eqN (by omega) (by omega)]
    by_cases d : k = u
    · rw [if_pos (by rw [d]; exact C.2.2.1.symm), d]
      exact Ret.mk K
    · rw [if_neg (C.2.2.2 k (k + v) (by omega) (by omega))]
      refine Ret.b1 (comers_r P K h1) (fun k1 hk1 => ?_)
      refine Ret.b1 (comers_r P hk1 h2) (fun k2 hk2 => ?_)
      rw [nm_of, nm_of, nI_1, ← it_s (Wd n kd Hh), ← it_s (Wd n kd Hh), show k + v + 1 = k + 1 + v by omega]
      exact ih k2 (by omega) (by omega) hk2
theorem roundsToRing_r (P : PC n kd Hh sz ki te) (K : KV n kd Hh kn) {u v : Nat} (hl : l < 256) (C : Cyc (Wd n kd Hh) l u v) : Ret (fX0_roundsToRing sz (nI l) ki te kn (nI v)) (nI u) (KV n kd Hh) := by
  unfold fX0_roundsToRing
  have hv2 := C.2.1
  refine Ret.b1 (behind_r P K (m := v) hl (by omega)) (fun k hk => ?_)
  have := roundsToRing_loop (li := nI l) P hl C 1024 0 k (by omega) (by omega) hk
  rw [Nat.zero_add] at this
  exact this
/-- how many are not marked -/
def cU (m : Nat → Int32) : Nat := cnt (fun x => decide (m x = -1)) 256
/-- marks of the first m lists -/
def MK (f : Nat → Nat) (l m : Nat) (mr : Nat → Int32) : Prop := (∀ j, j < m → mr (it f j l) = nI j) ∧ (∀ x, x < 256 → mr x = -1 ∨ ∃ j, j < m ∧ it f j l = x) ∧ m + cU mr = 256
theorem ring_loop (hn : n ≤ 8) {w p : Nat → Int32} {x : Nat} (hx : x < 2) (V : WV n kd Hh w) (hl : l < 2 ^ n) : ∀ (f m : Nat) (mr : Nat → Int32), MK (Wd n kd Hh) l m mr → cU mr < f → ∃ u v, Cyc (Wd n kd Hh) l u v ∧ Ret (ll7 (fX5_ring_52 s) f st p w mr (nI x) (nI (it (Wd n kd Hh) m l)) (nI m)) (if x = 0 then nI u else nI v) (fun k => k.1 = st) := by
  intro f
  induction f with
  | zero => intro m mr H h; exact absurd h (by omega)
  | succ f ih =>
    intro m mr H hf
    have ih := ih (m + 1)
    have ha := it_lt (fun l => Wd_lt n kd Hh l) hl m
    have hN := two_le hn
    have hm : m ≤ 256 := by have := H.2.2; omega
    show ∃ u v, Cyc (Wd n kd Hh) l u v ∧ Ret (fX5_ring_52 s (ll7 (fX5_ring_52 s) f) st p w mr (nI x) (nI (it (Wd n kd Hh) m l)) (nI m)) _ _
    generalize ll7 (fX5_ring_52 s) f = ag at ih ⊢
    unfold fX5_ring_52
    rw [gIn_nI (by omega) (by decide), gIn_nI (by omega) (by decide), gIn_nI (by omega) (by decide), gIn_nI (by omega) (by decide), gIn_nI (by omega) (by decide), nI_clamp (by omega)]
    by_cases c : mr (it (Wd n kd Hh) m l) = -1
    · rw [if_neg (show ¬ (0 : Int32) ≤ mr (it (Wd n kd Hh) m l) from by rw [c]; decide), nm_of, nm_of, nI_1, V _ ha, ← it_s (Wd n kd Hh)]
      have hnew : MK (Wd n kd Hh) l (m + 1) (upd mr (it (Wd n kd Hh) m l) (nI m)) := by
        refine ⟨fun j hj => ?_, fun y hy => ?_, ?_⟩
        · by_cases d : it (Wd n kd Hh) j l = it (Wd n kd Hh) m l
          · by_cases e : j = m
            · rw [e, pk_us]
            · have := H.1 j (by omega)
              rw [d, c] at this
              exact absurd this.symm (nI_m1 (by omega))
          · rw [pk_un d]
            exact H.1 j (by
              have : ¬ j = m := fun q => d (by rw [q])
              omega)
        · by_cases d : y = it (Wd n kd Hh) m l
          · exact Or.inr ⟨m, by omega, d.symm⟩
          · rw [pk_un d]
            rcases H.2.1 y hy with q | ⟨j, q1, q2⟩
            · exact Or.inl q
            · exact Or.inr ⟨j, by omega, q2⟩
        · have : cU mr = cU (upd mr (it (Wd n kd Hh) m l) (nI m)) + 1 := cnt_less (p := fun x => decide (mr x = -1)) (q := fun x => decide (upd mr (it (Wd n kd Hh) m l) (nI m) x = -1)) (x := it (Wd n kd Hh) m l) (n := 256) (by omega) (decide_eq_true c) (decide_eq_false (by rw [pk_us]; exact nI_m1 (by omega))) (fun i _ hi => by rw [pk_un hi])
          have h3 := H.2.2
          omega
      have h4 := hnew.2.2
      have h5 := H.2.2
      exact ih _ hnew (by omega)
    · rcases H.2.1 _ (show it (Wd n kd Hh) m l < 256 by omega) with q | ⟨j, q1, q2⟩
      · exact absurd q c
      · have e := H.1 j q1
        rw [q2] at e
        refine ⟨j, m - j, ⟨by omega, by omega, by rw [show j + (m - j) = m by omega, q2], fun a b hab hb => ?_⟩, ?_⟩
        · intro q
          have e1 := H.1 a (by omega)
          have e2 := H.1 b (by omega)
          rw [q, e2] at e1
          have := (nI_eq (by omega) (by omega)).mp e1
          omega
        · rw [e, if_pos (nI_0le (by omega)), nI_sub1 (by omega)]
          rcases (show x = 0 ∨ x = 1 by omega) with rfl | rfl
          · exact Ret.mk rfl
          · exact Ret.mk rfl
theorem ring23_loop {w p : Nat → Int32} {x : Int32} (hs : s 1 = nI l) {Q : Option (Int32 × (Nat → Int32) × (Nat → Int32) × (Nat → Int32) × (Nat → Int32)) → Prop} (hQ : ∀ mr : Nat → Int32, (∀ j, j < 256 → mr j = -1) → Q (ll7 (fX5_ring_52 s) qF st p w mr x (nI l) 0)) : ∀ (f i : Nat) (mr : Nat → Int32), i ≤ 256 → 256 - i < f → (∀ j, j < i → mr j = -1) → Q (ll6 (fX5_ring_23 s) f st p w mr x (nI i))
  | 0, i, _, _, h, _ => absurd h (by omega)
  | f + 1, i, mr, hi, hf, hm => by
    have ih := ring23_loop hs hQ f (i + 1)
    show Q (fX5_ring_23 s (ll6 (fX5_ring_23 s) f) st p w mr x (nI i))
    generalize ll6 (fX5_ring_23 s) f = ag at ih ⊢
    unfold fX5_ring_23
    rw [fa_lit 256, ite_le (by decide) (by omega)]
    by_cases c : 256 ≤ i
    · rw [if_pos c, nm_of, hs]
      exact hQ mr (fun j hj => hm j (by omega))
    · rw [if_neg c, gIn_nI (by omega) (by decide), nm_of, nI_1, nI_clamp (by omega)]
      refine ih _ (by omega) (by omega) (fun j hj => ?_)
      by_cases d : j = i
      · subst d; rw [pk_us]
      · rw [pk_un d]; exact hm j (by omega)
theorem op_ring (R : RA sz li to ki co te s n l kd cc Hh) (K : KV n kd Hh kn) (F : FS fi st) (x1 : Int32) : Both (fX4_ring sz li ki te kn fi x1) (fX5_ring s st pile wish mark x1) (fun k1 k2 => KV n kd Hh k1.1 ∧ FS k1.2 k2.1) := by
  have hl := R.l256
  obtain ⟨P, M, hL, -⟩ := R
  unfold fX4_ring fX5_ring
  rw [in_32 x1 0 1 (by decide) (by decide), bR_some, ite_b2, fnd_1, fns_1, bR_some, bR_some]
  by_cases h : 0 ≤ x1.toInt ∧ x1.toInt ≤ 1
  · rw [if_pos h]
    obtain ⟨x, hx, rfl⟩ := i_ex (x := x1) (n := 2) (by decide) h.1 (by omega)
    obtain ⟨k, e, V⟩ := looksAll_r M pile wish
    rw [e, bV_some]
    have key : ∃ u v, Cyc (Wd n kd Hh) l u v ∧ Ret (ll6 (fX5_ring_23 s) qF st k.1 k.2 mark (nI x) 0) (if x = 0 then nI u else nI v) (fun k => k.1 = st) := by
      refine ring23_loop (Q := fun o => ∃ u v, Cyc (Wd n kd Hh) l u v ∧ Ret o (if x = 0 then nI u else nI v) (fun k => k.1 = st)) hL.2.2 (fun mr hmk => ?_) 1024 0 mark (by omega) (by omega) (fun j hj => absurd hj (by omega))
      have hc : cU mr = 256 := by
        unfold cU
        rw [cnt_congr (q := fun _ => true) (fun i hi => decide_eq_true (hmk i hi)), cnt_all]
      exact ring_loop P.1 hx V hL.1 1024 0 mr ⟨fun j hj => absurd hj (by omega), fun y hy => Or.inl (hmk y hy), by omega⟩ (by omega)
    obtain ⟨u, v, C, k2, e2, q2⟩ := key
    have e2 : ll6 (fX5_ring_23 s) qF st k.1 k.2 mark (nI x) 0 = some (_, k2) := e2
    rw [e2, hL.2.1]
    have hc : Ret (fX4_ring_16 sz (nI l) ki te kn fi (nI x)) (if x = 0 then nI u else nI v) (fun k => KV n kd Hh k.1 ∧ k.2 = fi) := by
      unfold fX4_ring_16
      refine Ret.b1 (ringLength_r P K hl C) (fun k hk => ?_)
      rcases (show x = 0 ∨ x = 1 by omega) with rfl | rfl
      · rw [if_neg (show ¬ nI 0 = 1 by decide), if_pos rfl]
        exact Ret.b1 (roundsToRing_r P hk hl C) (fun k3 hk3 => Ret.mk ⟨hk3, rfl⟩)
      · rw [if_pos (show nI 1 = 1 from rfl), if_neg (by omega)]
        exact Ret.mk ⟨hk, rfl⟩
    obtain ⟨k1, q1, q3, q4⟩ := hc
    have e3 : (if nI x = 0 then fX4_ring_16 sz (nI l) ki te kn fi (nI x) else (if nI x = 1 then fX4_ring_16 sz (nI l) ki te kn fi (nI x) else some (-1000000001, (kn, upd fi 0 (fi 0 + 1))))) = fX4_ring_16 sz (nI l) ki te kn fi (nI x) := by
      rcases (show x = 0 ∨ x = 1 by omega) with rfl | rfl
      · exact if_pos rfl
      · rw [if_neg (show ¬ nI 1 = 0 by decide), if_pos (show nI 1 = 1 from rfl)]
    rw [e3, q1]
    exact Both.mk ⟨q3, by rw [q4, q2]; exact F⟩
  · rw [if_neg h, if_neg (fun e => h (by rw [e]; decide)), if_neg (fun e => h (by rw [e]; decide))]
    exact Both.mk ⟨K, F.up (by decide)⟩
end RING
end
