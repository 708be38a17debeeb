/-! the two states beside each other -/
def Both {α κ1 κ2 : Type} (o1 : Option (α × κ1)) (o2 : Option (α × κ2)) (Q : κ1 → κ2 → Prop) : Prop := ∃ r k1 k2, o1 = some (r, k1) ∧ o2 = some (r, k2) ∧ Q k1 k2
theorem Both.of {α κ1 κ2 : Type} {o1 : Option (α × κ1)} {o2 : Option (α × κ2)} {Q : κ1 → κ2 → Prop} {r : α} {Q1 : κ1 → Prop} {Q2 : κ2 → Prop} (h1 : Ret o1 r Q1) (h2 : Ret o2 r Q2) (h : ∀ k1 k2, Q1 k1 → Q2 k2 → Q k1 k2) : Both o1 o2 Q := by
  obtain ⟨k1, e1, q1⟩ := h1
  obtain ⟨k2, e2, q2⟩ := h2
  exact ⟨r, k1, k2, e1, e2, h k1 k2 q1 q2⟩
theorem Both.mk {α κ1 κ2 : Type} {Q : κ1 → κ2 → Prop} {r : α} {k1 : κ1} {k2 : κ2} (h : Q k1 k2) : Both (some (r, k1)) (some (r, k2)) Q := ⟨r, k1, k2, rfl, rfl, h⟩
theorem Both.mk' {α κ1 κ2 : Type} {Q : κ1 → κ2 → Prop} {r r' : α} {k1 : κ1} {k2 : κ2} (e : r = r') (h : Q k1 k2) : Both (some (r, k1)) (some (r', k2)) Q := ⟨r, k1, k2, rfl, by rw [e], h⟩
/-- findings counted -/
def FS (fi st : Nat → Int32) : Prop := ∀ k, k < 7 → fi k = st k
theorem FS.up {fi st : Nat → Int32} (h : FS fi st) {j : Nat} (hj : j < 7) : FS (upd fi j (fi j + 1)) (upd st j (st j + 1)) := by
  intro k hk
  by_cases c : k = j
  · subst c; rw [pk_us, pk_us, h k hk]
  · rw [pk_un c, pk_un c]; exact h k hk
def RA (sz li to : Int32) (ki co : Nat → Int32) (te : Nat → Int64) (s : Nat → Int32) (n l : Nat) (kd cc : Nat → Nat) (Hh : Nat → Nat → Bool) : Prop :=
  PC n kd Hh sz ki te ∧ PM n kd Hh s ∧ (l < 2 ^ n ∧ li = nI l ∧ s 1 = nI l) ∧ (∀ g, g < n → cc g < 100 ∧ co g = nI (cc g) ∧ s (3 + 3 * g) = nI (cc g)) ∧ (∃ t, t < 2 ^ n ∧ to = nI t ∧ ∀ g, g < n → (t.testBit g = true ↔ ¬ s (4 + 3 * g) = 0)) ∧ (∀ j, 4 * n ≤ j → j < 32 → te j = -1)
theorem nm1_i : ∀ n, n < 9 → ((nI n - 1).toInt64).toInt = (n : Int) - 1 := by decide +kernel
theorem nl1_i : ∀ n, n < 9 → ((nI (2 ^ n) - 1).toInt64).toInt = ((2 ^ n : Nat) : Int) - 1 := by decide +kernel
theorem has_g {n : Nat} (hn : n ≤ 8) (x : Int32) : fX0_has (nI n) x = some (b2 (0 ≤ x.toInt ∧ x.toInt < n), ()) := by
  rw [has_b2, nI_toInt (by omega)]
theorem isSet_g {n : Nat} (hn : n ≤ 8) (x : Int32) : fX0_isSet (nI n) x = some (b2 (0 ≤ x.toInt ∧ x.toInt < (2 ^ n : Nat)), ()) := by
  unfold fX0_isSet
  have hN := two_le hn
  rw [lists_c hn, bR_some, rng_b2, nI_toInt (by omega), show (0 : Int32).toInt = 0 from by decide]
  by_cases c : 0 ≤ x.toInt ∧ x.toInt < (2 ^ n : Nat)
  · rw [if_pos c, b2_t c]
  · rw [if_neg c, b2_f c]
section REL
variable {sz li to : Int32} {ki co : Nat → Int32} {te : Nat → Int64} {s kn fi st pile wish mark : Nat → Int32} {n l : Nat} {kd cc : Nat → Nat} {Hh : Nat → Nat → Bool}
theorem isG_g (M : PM n kd Hh s) (x : Int32) : fX5_isGuest s x = some (b2 (0 ≤ x.toInt ∧ x.toInt < n), ()) := by
  unfold fX5_isGuest
  rw [M.2.1, in_b2, bR_some, gB_b2, i64_toInt, nm1_i n (by have := M.1; omega)]
  rw [b2_congr (show ((0 : Int64).toInt ≤ x.toInt ∧ x.toInt ≤ (n : Int) - 1) ↔ (0 ≤ x.toInt ∧ x.toInt < n) from by
    rw [show (0 : Int64).toInt = 0 from by decide]; omega)]
theorem isList_g (M : PM n kd Hh s) (x : Int32) : fX5_isList s x.toInt64 = some (b2 (0 ≤ x.toInt ∧ x.toInt < (2 ^ n : Nat)), ()) := by
  unfold fX5_isList
  rw [lists_m M, bR_some, in_b2, bR_some, gB_b2, i64_toInt, nl1_i n (by have := M.1; omega)]
  rw [b2_congr (show ((0 : Int64).toInt ≤ x.toInt ∧ x.toInt ≤ ((2 ^ n : Nat) : Int) - 1) ↔ (0 ≤ x.toInt ∧ x.toInt < (2 ^ n : Nat)) from by
    rw [show (0 : Int64).toInt = 0 from by decide]; omega)]
theorem RA.l256 (R : RA sz li to ki co te s n l kd cc Hh) : l < 256 := Nat.lt_of_lt_of_le R.2.2.1.1 (two_le R.1.1)
theorem TK.congr {g : Nat} {H : Nat → Bool} {s s' : Nat → Int32} (h : TK g H s) (e1 : s' (4 + 3 * g) = s (4 + 3 * g)) (e2 : ∀ k, k < 64 → s' (26 + 64 * g + k) = s (26 + 64 * g + k)) : TK g H s' := by
  obtain ⟨m, cs, h1, h2, h3, h4⟩ := h
  exact ⟨m, cs, h1, by rw [e1]; exact h2, fun k hk => ⟨(h3 k hk).1, by rw [e2 k (by omega)]; exact (h3 k hk).2⟩, h4⟩
/-- a place of the row that is no guest's term -/
theorem PM.upd {j : Nat} {v : Int32} (M : PM n kd Hh s) (h0 : ¬ j = 0) (h : ∀ g, g < n → ¬ j = 2 + 3 * g ∧ ¬ j = 4 + 3 * g) (h26 : j < 26) : PM n kd Hh (upd s j v) := by
  obtain ⟨a, b, c, d⟩ := M
  exact ⟨a, by rw [pk_un (by omega)]; exact b, fun g hg => ⟨(c g hg).1, by rw [pk_un (fun q => (h g hg).1 q.symm)]; exact (c g hg).2⟩, fun g hg => (d g hg).congr (pk_un (fun q => (h g hg).2 q.symm)) (fun k hk => pk_un (by omega))⟩
theorem RA.list (R : RA sz li to ki co te s n l kd cc Hh) {l' : Nat} (h : l' < 2 ^ n) : RA sz (nI l') to ki co te (upd s 1 (nI l')) n l' kd cc Hh := by
  obtain ⟨a, b, -, d, ⟨t, t1, t2, t3⟩, f⟩ := R
  refine ⟨a, b.upd (by omega) (fun g hg => by omega) (by omega), ⟨h, rfl, pk_us⟩, fun g hg => ⟨(d g hg).1, (d g hg).2.1, ?_⟩, ⟨t, t1, t2, fun g hg => ?_⟩, f⟩
  · rw [pk_un (by omega)]; exact (d g hg).2.2
  · rw [pk_un (by omega)]; exact t3 g hg
/-- a row with one put anew -/
def un (f : Nat → Nat) (g v : Nat) : Nat → Nat := fun j => if j = g then v else f j
theorem un_s {f : Nat → Nat} {g v : Nat} : un f g v g = v := if_pos rfl
theorem un_n {f : Nat → Nat} {g v j : Nat} (h : ¬ j = g) : un f g v j = f j := if_neg h
theorem RA.cost (R : RA sz li to ki co te s n l kd cc Hh) {g v : Nat} (hg : g < n) (hv : v < 100) : RA sz li to ki (upd co g (nI v)) te (upd s (3 + 3 * g) (nI v)) n l kd (un cc g v) Hh := by
  obtain ⟨a, b, c, d, ⟨t, t1, t2, t3⟩, f⟩ := R
  have hn := a.1
  refine ⟨a, b.upd (by omega) (fun j hj => by omega) (by omega), ⟨c.1, c.2.1, by rw [pk_un (by omega)]; exact c.2.2⟩, fun j hj => ?_, ⟨t, t1, t2, fun j hj => ?_⟩, f⟩
  · by_cases e : j = g
    · subst e
      rw [un_s, pk_us, pk_us]
      exact ⟨hv, rfl, rfl⟩
    · rw [un_n e, pk_un e, pk_un (by omega)]
      exact d j hj
  · rw [pk_un (by omega)]; exact t3 j hj
theorem RA.kind (R : RA sz li to ki co te s n l kd cc Hh) {g v : Nat} (hg : g < n) (hv : v < 6) : RA sz li to (upd ki g (nI v)) co te (upd s (2 + 3 * g) (nI v)) n l (un kd g v) cc Hh := by
  obtain ⟨a, b, c, d, ⟨t, t1, t2, t3⟩, f⟩ := R
  obtain ⟨a1, a2, a3, a4⟩ := a
  obtain ⟨b1, b2, b3, b4⟩ := b
  refine ⟨⟨a1, a2, fun j hj => ?_, a4⟩, ⟨b1, by rw [pk_un (by omega)]; exact b2, fun j hj => ?_, fun j hj => (b4 j hj).congr (pk_un (by omega)) (fun k hk => pk_un (by omega))⟩, ⟨c.1, c.2.1, by rw [pk_un (by omega)]; exact c.2.2⟩, fun j hj => ⟨(d j hj).1, (d j hj).2.1, by rw [pk_un (by omega)]; exact (d j hj).2.2⟩, ⟨t, t1, t2, fun j hj => by rw [pk_un (by omega)]; exact t3 j hj⟩, f⟩
  · by_cases e : j = g
    · subst e
      rw [un_s, pk_us]
      exact ⟨hv, rfl⟩
    · rw [un_n e, pk_un e]
      exact a3 j hj
  · by_cases e : j = g
    · subst e
      rw [un_s, pk_us]
      exact ⟨hv, rfl⟩
    · rw [un_n e, pk_un (by omega)]
      exact b3 j hj
theorem becomes_eq {j : Nat} (hj : j < 538) (v : Int32) : fX5_becomes s (nI j) v = some (s j, upd s j v) := by
  unfold fX5_becomes
  rw [gIn_nI hj (by decide), nm_of, gIn_nI hj (by decide), nI_clamp (by omega)]
theorem op_of (R : RA sz li to ki co te s n l kd cc Hh) (K : KV n kd Hh kn) (F : FS fi st) (x1 x2 : Int32) : Both (fX4_of sz li ki co te kn fi x1 x2) (fX5_of s st pile x1 x2) (fun k1 k2 => KV n kd Hh k1.1 ∧ FS k1.2 k2.1) := by
  have hl := R.l256
  obtain ⟨P, M, hL, hC, hT, -⟩ := R
  have hn := P.1
  have hsz := P.2.1
  subst hsz
  unfold fX4_of fX5_of
  rw [has_g hn, isG_g M, bR_some, bR_some, ite_b2, ite_b2]
  by_cases h : 0 ≤ x1.toInt ∧ x1.toInt < n
  · rw [if_pos h, if_pos h, in_32 x2 0 5 (by decide) (by decide), bR_some, ite_b2]
    obtain ⟨g, hg, rfl⟩ := i_ex (x := x1) (n := n) (by omega) h.1 h.2
    by_cases h2 : 0 ≤ x2.toInt ∧ x2.toInt ≤ 5
    · rw [if_pos h2, if_neg (show ¬ (x2.toInt < 0 ∨ 5 < x2.toInt) by omega)]
      obtain ⟨w, hw, rfl⟩ := i_ex (x := x2) (n := 6) (by decide) h2.1 (by omega)
      rw [hL.2.2, hL.2.1]
      match w, hw with
      | 0, _ =>
        rw [if_pos (by decide), if_pos (by decide), its_eq s (w := 0) (by omega) (by decide), bR_some, gIn_nI (by omega) (by decide), nI_clamp (by omega)]
        exact Both.mk' ((P.2.2.1 g hg).2.trans (M.2.2.1 g hg).2.symm) ⟨K, F⟩
      | 1, _ =>
        rw [if_neg (by decide), if_pos (by decide), if_pos (by decide), its_eq s (w := 1) (by omega) (by decide), bR_some, gIn_nI (by omega) (by decide), nI_clamp (by omega)]
        exact Both.mk' ((hC g hg).2.1.trans (by rw [show 2 + 3 * g + 1 = 3 + 3 * g by omega]; exact (hC g hg).2.2.symm)) ⟨K, F⟩
      | 2, _ =>
        rw [if_neg (by decide), if_neg (by decide), if_pos (by decide), if_neg (by decide), if_pos (by decide)]
        exact Both.mk ⟨K, F⟩
      | 3, _ =>
        rw [if_neg (by decide), if_neg (by decide), if_neg (by decide), if_pos (by decide), if_neg (by decide), if_neg (by decide), if_pos (by decide)]
        refine Both.of (r := b2 (cm (kd g) (Hh g l) (pop (clr l g)) = true)) (Q1 := fun k => KV n kd Hh k.1 ∧ k.2 = fi) (Q2 := fun k => k.1 = st) (Ret.b1 (comers_r P K hl) (fun k hk => ?_)) (Ret.b1 (comesBy_r M hg hl pile) (fun k _ => ret_if (Q := fun k => k.1 = st) (k := (st, k)) (show st = st from rfl) Iff.rfl)) (fun k1 k2 q1 q2 => ⟨q1.1, by rw [q2, q1.2]; exact F⟩)
        · rw [shr_i _ (Wd_256 hn kd Hh l) g (by omega)]
          refine Ret.mk' (b2_congr ?_) ⟨hk, rfl⟩
          unfold Wd
          rw [wdn_t, decide_eq_true hg, Bool.true_and]
      | 4, _ =>
        rw [if_neg (by decide), if_neg (by decide), if_neg (by decide), if_neg (by decide), if_pos (by decide), if_neg (by decide), if_neg (by decide), if_neg (by decide), if_pos (by decide), termHolds_eq te (by omega) hl, bR_some, oneIf_b2, bR_some, P.2.2.2 g hg l hl |>.symm]
        refine Both.of (r := b2 (Hh g l = true)) (Q1 := fun k => k = (kn, fi)) (Q2 := fun k => k.1 = st) (Ret.mk rfl) (Ret.b1 (holds_r (by omega) hl (M.2.2.2 g hg) pile) (fun k _ => ret_if (Q := fun k => k.1 = st) (k := (st, k)) (show st = st from rfl) Iff.rfl)) (fun k1 k2 q1 q2 => ?_)
        subst q1
        exact ⟨K, by rw [q2]; exact F⟩
      | 5, _ =>
        rw [if_neg (by decide), if_neg (by decide), if_neg (by decide), if_neg (by decide), if_neg (by decide), if_pos (by decide), if_neg (by decide), if_neg (by decide), if_neg (by decide), if_neg (by decide), if_pos (by decide), oth_c hl (by omega), oth_m hl (by omega), bR_some, bR_some]
        exact Both.mk ⟨K, F⟩
      | w + 6, h => exact absurd h (by omega)
    · rw [if_neg h2, if_pos (show x2.toInt < 0 ∨ 5 < x2.toInt by omega)]
      unfold fX5_of_20
      rw [fnd_1, fns_1, bR_some, bR_some]
      exact Both.mk ⟨K, F.up (by decide)⟩
  · rw [if_neg h, if_neg h]
    unfold fX5_of_20
    rw [fnd_1, fns_1, bR_some, bR_some]
    exact Both.mk ⟨K, F.up (by decide)⟩
theorem op_cost (R : RA sz li to ki co te s n l kd cc Hh) (F : FS fi st) (x1 x2 : Int32) : Both (fX4_cost sz co fi x1 x2) (fX5_cost s st x1 x2) (fun k1 k2 => (∃ cc', RA sz li to ki k1.1 te k2.1 n l kd cc' Hh) ∧ FS k1.2 k2.2) := by
  have R0 := R
  obtain ⟨P, M, hL, hC, hT, -⟩ := R
  have hn := P.1
  have hsz := P.2.1
  subst hsz
  unfold fX4_cost fX5_cost
  rw [has_g hn, isG_g M, bR_some, bR_some, ite_b2, ite_b2, isCost_b2, in_32 x2 0 99 (by decide) (by decide), bR_some, bR_some, ite_b2, ite_b2]
  unfold fX4_cost_18 fX5_cost_35
  rw [fnd_1, fns_1, bR_some, bR_some]
  by_cases h : 0 ≤ x1.toInt ∧ x1.toInt < n
  · rw [if_pos h, if_pos h]
    obtain ⟨g, hg, rfl⟩ := i_ex (x := x1) (n := n) (by omega) h.1 h.2
    by_cases h2 : 0 ≤ x2.toInt ∧ x2.toInt ≤ 99
    · rw [if_pos h2, if_pos h2]
      obtain ⟨v, hv, rfl⟩ := i_ex (x := x2) (n := 100) (by decide) h2.1 (by omega)
      have e : 2 + 3 * nI g + 1 = nI (3 + 3 * g) := by rw [fa_lit 2, fa_lit 3, nI_mulL, nI_add, nI_1]; congr 1; omega
      rw [e, becomes_eq (by omega), bR_some, gIn_nI (by omega) (by decide), nm_of, gIn_nI (by omega) (by decide), nI_clamp (by omega)]
      exact Both.mk' ((hC g hg).2.1.trans (hC g hg).2.2.symm) ⟨⟨_, R0.cost hg hv⟩, F⟩
    · rw [if_neg h2, if_neg h2]
      exact Both.mk ⟨⟨cc, R0⟩, F.up (by decide)⟩
  · rw [if_neg h, if_neg h]
    exact Both.mk ⟨⟨cc, R0⟩, F.up (by decide)⟩
theorem op_turn (R : RA sz li to ki co te s n l kd cc Hh) (K : KV n kd Hh kn) (F : FS fi st) (x1 x2 : Int32) : Both (fX4_turn sz ki kn fi x1 x2) (fX5_turn s st x1 x2) (fun k1 k2 => (∃ kd', RA sz li to k1.1 co te k2.1 n l kd' cc Hh ∧ KV n kd' Hh k1.2.1) ∧ FS k1.2.2 k2.2) := by
  have R0 := R
  obtain ⟨P, M, hL, hC, hT, -⟩ := R
  have hn := P.1
  have hsz := P.2.1
  subst hsz
  unfold fX4_turn fX5_turn
  rw [has_g hn, isG_g M, bR_some, bR_some, ite_b2, ite_b2, isKind_b2, in_32 x2 0 5 (by decide) (by decide), bR_some, bR_some, ite_b2, ite_b2]
  unfold fX4_turn_18 fX5_turn_33
  rw [fnd_1, fns_1, bR_some, bR_some]
  by_cases h : 0 ≤ x1.toInt ∧ x1.toInt < n
  · rw [if_pos h, if_pos h]
    obtain ⟨g, hg, rfl⟩ := i_ex (x := x1) (n := n) (by omega) h.1 h.2
    by_cases h2 : 0 ≤ x2.toInt ∧ x2.toInt ≤ 5
    · rw [if_pos h2, if_pos h2]
      obtain ⟨v, hv, rfl⟩ := i_ex (x := x2) (n := 6) (by decide) h2.1 (by omega)
      have e : 2 + 3 * nI g = nI (2 + 3 * g) := by rw [fa_lit 2, fa_lit 3, nI_mulL, nI_add]
      unfold fX0_turnInto
      rw [e, becomes_eq (by omega), bR_some, gIn_nI (by omega) (by decide), nm_of, gIn_nI (by omega) (by decide), nI_clamp (by omega), fillI 256 (by decide), bV_some, bR_some]
      exact Both.mk' ((P.2.2.1 g hg).2.trans (M.2.2.1 g hg).2.symm) ⟨⟨_, R0.kind hg hv, KV_new kn⟩, F⟩
    · rw [if_neg h2, if_neg h2]
      exact Both.mk ⟨⟨kd, R0, K⟩, F.up (by decide)⟩
  · rw [if_neg h, if_neg h]
    exact Both.mk ⟨⟨kd, R0, K⟩, F.up (by decide)⟩
theorem under_i : ∀ k, k < 6 → ∀ v, v < 6 → fX4_isUnder (nI k) (nI v) = some (b2 (v = 0 ∨ k = v ∨ (v = 1 ∧ k = 4) ∨ (v = 2 ∧ k = 5)), ()) := by decide +kernel
theorem op_as (R : RA sz li to ki co te s n l kd cc Hh) (F : FS fi st) (x1 x2 : Int32) : Both (fX4_as sz ki co fi x1 x2) (fX5_as s st x1 x2) (fun k1 k2 => FS k1 k2) := by
  obtain ⟨P, M, hL, hC, hT, -⟩ := R
  have hn := P.1
  have hsz := P.2.1
  subst hsz
  unfold fX4_as fX5_as
  rw [has_g hn, isG_g M, bR_some, bR_some, ite_b2, ite_b2, isKind_b2, in_32 x2 0 5 (by decide) (by decide), bR_some, bR_some, ite_b2, ite_b2]
  unfold fX4_as_18 fX5_as_20
  rw [fnd_1, fns_1, bR_some, bR_some]
  by_cases h : 0 ≤ x1.toInt ∧ x1.toInt < n
  · rw [if_pos h, if_pos h]
    obtain ⟨g, hg, rfl⟩ := i_ex (x := x1) (n := n) (by omega) h.1 h.2
    by_cases h2 : 0 ≤ x2.toInt ∧ x2.toInt ≤ 5
    · rw [if_pos h2, if_pos h2]
      obtain ⟨v, hv, rfl⟩ := i_ex (x := x2) (n := 6) (by decide) h2.1 (by omega)
      rw [its_0 s (by omega), bR_some, (M.2.2.1 g hg).2, gIn_nI (by omega) (by decide), nI_clamp (by omega), (P.2.2.1 g hg).2, under_i _ (P.2.2.1 g hg).1 v hv, bR_some, ite_b2, gIn_nI (by omega) (by decide), fnd_3, bR_some]
      unfold fX5_as_53 fX5_as_63 fX5_as_67 fX5_as_68
      rw [its_1 s (by omega), bR_some, fns_3, bR_some, (hC g hg).2.1, (hC g hg).2.2]
      have hk := (P.2.2.1 g hg).1
      generalize kd g = k at hk ⊢
      have v0 : nI v = 0 ↔ v = 0 := nI_eq (b := 0) (by omega) (by decide)
      have v1 : nI v = 1 ↔ v = 1 := nI_eq (b := 1) (by omega) (by decide)
      have v2 : nI v = 2 ↔ v = 2 := nI_eq (b := 2) (by omega) (by decide)
      have k4 : nI k = 4 ↔ k = 4 := nI_eq (b := 4) (by omega) (by decide)
      have k5 : nI k = 5 ↔ k = 5 := nI_eq (b := 5) (by omega) (by decide)
      have kv : nI k = nI v ↔ k = v := nI_eq (by omega) (by omega)
      rw [if_neg (show ¬ (1 : Int32) = 0 by decide), if_pos (show (0 : Int32) = 0 from rfl)]
      by_cases d : v = 0 ∨ k = v ∨ (v = 1 ∧ k = 4) ∨ (v = 2 ∧ k = 5)
      · rw [if_pos d]
        by_cases d0 : v = 0
        · rw [if_pos (v0.mpr d0)]; exact Both.mk F
        rw [if_neg (fun q => d0 (v0.mp q))]
        by_cases d1 : k = v
        · rw [if_pos (kv.mpr d1)]; exact Both.mk F
        rw [if_neg (fun q => d1 (kv.mp q))]
        by_cases d2 : v = 1
        · rw [if_pos (v1.mpr d2), if_pos (k4.mpr (by omega))]; exact Both.mk F
        rw [if_neg (fun q => d2 (v1.mp q)), if_pos (v2.mpr (by omega)), if_pos (k5.mpr (by omega))]
        exact Both.mk F
      · rw [if_neg d, if_neg (fun q => absurd (v0.mp q) (by omega)), if_neg (fun q => absurd (kv.mp q) (by omega))]
        by_cases d2 : v = 1
        · rw [if_pos (v1.mpr d2), if_neg (fun q => absurd (k4.mp q) (by omega)), if_neg (fun q => absurd (v2.mp q) (by omega))]; exact Both.mk (F.up (by decide))
        · rw [if_neg (fun q => d2 (v1.mp q))]
          by_cases d3 : v = 2
          · rw [if_pos (v2.mpr d3), if_neg (fun q => absurd (k5.mp q) (by omega))]; exact Both.mk (F.up (by decide))
          · rw [if_neg (fun q => d3 (v2.mp q))]; exact Both.mk (F.up (by decide))
    · rw [if_neg h2, if_neg h2]
      exact Both.mk (F.up (by decide))
  · rw [if_neg h, if_neg h]
    exact Both.mk (F.up (by decide))
end REL
