/-! sheets and lists -/
theorem ll9_u {β A1 A2 A3 A4 A5 A6 A7 A8 A9 : Type} (F : (A1 → A2 → A3 → A4 → A5 → A6 → A7 → A8 → A9 → Option β) → A1 → A2 → A3 → A4 → A5 → A6 → A7 → A8 → A9 → Option β) (n : Nat) (a1 : A1) (a2 : A2) (a3 : A3) (a4 : A4) (a5 : A5) (a6 : A6) (a7 : A7) (a8 : A8) (a9 : A9) : ll9 F (n + 1) a1 a2 a3 a4 a5 a6 a7 a8 a9 = F (ll9 F n) a1 a2 a3 a4 a5 a6 a7 a8 a9 := rfl
theorem ll6_u {β A1 A2 A3 A4 A5 A6 : Type} (F : (A1 → A2 → A3 → A4 → A5 → A6 → Option β) → A1 → A2 → A3 → A4 → A5 → A6 → Option β) (n : Nat) (a1 : A1) (a2 : A2) (a3 : A3) (a4 : A4) (a5 : A5) (a6 : A6) : ll6 F (n + 1) a1 a2 a3 a4 a5 a6 = F (ll6 F n) a1 a2 a3 a4 a5 a6 := rfl
section SHE2
variable {b0 z0 b1 z1 b2_ z2 b3 z3 : Int32} {n0 n1 n2 n3 : Nat → Int64} {bo so fi st : Nat → Int32} {no : Nat → Int64}
variable {sz li to : Int32} {ki co : Nat → Int32} {te : Nat → Int64} {s kn pile : Nat → Int32} {n l : Nat} {kd cc : Nat → Nat} {Hh : Nat → Nat → Bool}
theorem lays_loop0 (Hi : R1 b0 z0 n0 bo so no 0) (hn : n ≤ 8) (h0 : s 0 = nI n) : ∀ (f g v : Nat), g ≤ n → n - g < f → v < 2 ^ n → Both (ll5 (fX4_lays_21 (nI n) b0 z0 n0 b1 z1 n1 b2_ z2 n2 b3 z3 n3) f li fi (nI 0) (nI v) (nI g)) (ll5 (fX5_lays_21 bo so no) f s st (nI 0) (nI v) (nI g)) (fun k1 k2 => ∃ v, v < 2 ^ n ∧ k1 = (nI v, fi) ∧ k2 = (upd s 1 (nI v), st)) := by
  intro f
  obtain ⟨h1, h2, ⟨q, h3, h4, h5⟩, h6⟩ := Hi
  induction f with
  | zero => intro g v _ h; exact absurd h (by omega)
  | succ f ih =>
    intro g v hg hf hv
    have ih := ih (g + 1)
    show Both (fX4_lays_21 (nI n) b0 z0 n0 b1 z1 n1 b2_ z2 n2 b3 z3 n3 (ll5 (fX4_lays_21 (nI n) b0 z0 n0 b1 z1 n1 b2_ z2 n2 b3 z3 n3) f) li fi (nI 0) (nI v) (nI g)) (fX5_lays_21 bo so no (ll5 (fX5_lays_21 bo so no) f) s st (nI 0) (nI v) (nI g)) _
    generalize ll5 (fX4_lays_21 (nI n) b0 z0 n0 b1 z1 n1 b2_ z2 n2 b3 z3 n3) f = ag1 at ih ⊢
    generalize ll5 (fX5_lays_21 bo so no) f = ag2 at ih ⊢
    unfold fX4_lays_21 fX5_lays_21 fX4_lays_77 fX5_lays_77 fX4_lays_71 fX5_lays_69
    rw [h0, ite_le (by omega) (by omega), ite_le (by omega) (by omega)]
    by_cases c : n ≤ g
    · rw [if_pos c, if_pos c]
      exact Both.mk ⟨v, hv, rfl, rfl⟩
    · rw [if_neg c, if_neg c, sel4_0, gIn_nI (i := 0) (n := 4) (by decide) (by decide), nI_clamp (show 0 < 2 ^ 31 by decide), h5, h4, ite_le (by omega) (by omega), ite_le (by omega) (by omega)]
      by_cases e : q ≤ g
      · rw [if_pos e, if_pos e]
        exact Both.mk ⟨v, hv, rfl, rfl⟩
      · rw [if_neg e, if_neg e, gIn_nI (by omega) (by decide), idx_i, gIn_nI (by omega) (by decide), nI_clamp (by omega), nI_clamp (by omega), ← h6 g (by omega), nm_of, nm_of, nm_of, nm_of, nm_of, nm_of, nm_of, nI_1, bit_i g (by omega), fa_or, fa_lit 0, fa_or]
        by_cases z : lg_cmp (n0 g) 0 = nI 0
        · rw [if_pos z, if_pos z, Nat.or_zero]
          exact ih v (by omega) (by omega) hv
        · rw [if_neg z, if_neg z]
          exact ih _ (by omega) (by omega) (Nat.or_lt_two_pow hv (Nat.pow_lt_pow_right (by decide) (by omega)))
theorem lays_loop1 (Hi : R1 b1 z1 n1 bo so no 1) (hn : n ≤ 8) (h0 : s 0 = nI n) : ∀ (f g v : Nat), g ≤ n → n - g < f → v < 2 ^ n → Both (ll5 (fX4_lays_21 (nI n) b0 z0 n0 b1 z1 n1 b2_ z2 n2 b3 z3 n3) f li fi (nI 1) (nI v) (nI g)) (ll5 (fX5_lays_21 bo so no) f s st (nI 1) (nI v) (nI g)) (fun k1 k2 => ∃ v, v < 2 ^ n ∧ k1 = (nI v, fi) ∧ k2 = (upd s 1 (nI v), st)) := by
  intro f
  obtain ⟨h1, h2, ⟨q, h3, h4, h5⟩, h6⟩ := Hi
  induction f with
  | zero => intro g v _ h; exact absurd h (by omega)
  | succ f ih =>
    intro g v hg hf hv
    have ih := ih (g + 1)
    show Both (fX4_lays_21 (nI n) b0 z0 n0 b1 z1 n1 b2_ z2 n2 b3 z3 n3 (ll5 (fX4_lays_21 (nI n) b0 z0 n0 b1 z1 n1 b2_ z2 n2 b3 z3 n3) f) li fi (nI 1) (nI v) (nI g)) (fX5_lays_21 bo so no (ll5 (fX5_lays_21 bo so no) f) s st (nI 1) (nI v) (nI g)) _
    generalize ll5 (fX4_lays_21 (nI n) b0 z0 n0 b1 z1 n1 b2_ z2 n2 b3 z3 n3) f = ag1 at ih ⊢
    generalize ll5 (fX5_lays_21 bo so no) f = ag2 at ih ⊢
    unfold fX4_lays_21 fX5_lays_21 fX4_lays_77 fX5_lays_77 fX4_lays_71 fX5_lays_69
    rw [h0, ite_le (by omega) (by omega), ite_le (by omega) (by omega)]
    by_cases c : n ≤ g
    · rw [if_pos c, if_pos c]
      exact Both.mk ⟨v, hv, rfl, rfl⟩
    · rw [if_neg c, if_neg c, sel4_1, gIn_nI (i := 1) (n := 4) (by decide) (by decide), nI_clamp (show 1 < 2 ^ 31 by decide), h5, h4, ite_le (by omega) (by omega), ite_le (by omega) (by omega)]
      by_cases e : q ≤ g
      · rw [if_pos e, if_pos e]
        exact Both.mk ⟨v, hv, rfl, rfl⟩
      · rw [if_neg e, if_neg e, gIn_nI (by omega) (by decide), idx_i, gIn_nI (by omega) (by decide), nI_clamp (by omega), nI_clamp (by omega), ← h6 g (by omega), nm_of, nm_of, nm_of, nm_of, nm_of, nm_of, nm_of, nI_1, bit_i g (by omega), fa_or, fa_lit 0, fa_or]
        by_cases z : lg_cmp (n1 g) 0 = nI 0
        · rw [if_pos z, if_pos z, Nat.or_zero]
          exact ih v (by omega) (by omega) hv
        · rw [if_neg z, if_neg z]
          exact ih _ (by omega) (by omega) (Nat.or_lt_two_pow hv (Nat.pow_lt_pow_right (by decide) (by omega)))
theorem lays_loop2 (Hi : R1 b2_ z2 n2 bo so no 2) (hn : n ≤ 8) (h0 : s 0 = nI n) : ∀ (f g v : Nat), g ≤ n → n - g < f → v < 2 ^ n → Both (ll5 (fX4_lays_21 (nI n) b0 z0 n0 b1 z1 n1 b2_ z2 n2 b3 z3 n3) f li fi (nI 2) (nI v) (nI g)) (ll5 (fX5_lays_21 bo so no) f s st (nI 2) (nI v) (nI g)) (fun k1 k2 => ∃ v, v < 2 ^ n ∧ k1 = (nI v, fi) ∧ k2 = (upd s 1 (nI v), st)) := by
  intro f
  obtain ⟨h1, h2, ⟨q, h3, h4, h5⟩, h6⟩ := Hi
  induction f with
  | zero => intro g v _ h; exact absurd h (by omega)
  | succ f ih =>
    intro g v hg hf hv
    have ih := ih (g + 1)
    show Both (fX4_lays_21 (nI n) b0 z0 n0 b1 z1 n1 b2_ z2 n2 b3 z3 n3 (ll5 (fX4_lays_21 (nI n) b0 z0 n0 b1 z1 n1 b2_ z2 n2 b3 z3 n3) f) li fi (nI 2) (nI v) (nI g)) (fX5_lays_21 bo so no (ll5 (fX5_lays_21 bo so no) f) s st (nI 2) (nI v) (nI g)) _
    generalize ll5 (fX4_lays_21 (nI n) b0 z0 n0 b1 z1 n1 b2_ z2 n2 b3 z3 n3) f = ag1 at ih ⊢
    generalize ll5 (fX5_lays_21 bo so no) f = ag2 at ih ⊢
    unfold fX4_lays_21 fX5_lays_21 fX4_lays_77 fX5_lays_77 fX4_lays_71 fX5_lays_69
    rw [h0, ite_le (by omega) (by omega), ite_le (by omega) (by omega)]
    by_cases c : n ≤ g
    · rw [if_pos c, if_pos c]
      exact Both.mk ⟨v, hv, rfl, rfl⟩
    · rw [if_neg c, if_neg c, sel4_2, gIn_nI (i := 2) (n := 4) (by decide) (by decide), nI_clamp (show 2 < 2 ^ 31 by decide), h5, h4, ite_le (by omega) (by omega), ite_le (by omega) (by omega)]
      by_cases e : q ≤ g
      · rw [if_pos e, if_pos e]
        exact Both.mk ⟨v, hv, rfl, rfl⟩
      · rw [if_neg e, if_neg e, gIn_nI (by omega) (by decide), idx_i, gIn_nI (by omega) (by decide), nI_clamp (by omega), nI_clamp (by omega), ← h6 g (by omega), nm_of, nm_of, nm_of, nm_of, nm_of, nm_of, nm_of, nI_1, bit_i g (by omega), fa_or, fa_lit 0, fa_or]
        by_cases z : lg_cmp (n2 g) 0 = nI 0
        · rw [if_pos z, if_pos z, Nat.or_zero]
          exact ih v (by omega) (by omega) hv
        · rw [if_neg z, if_neg z]
          exact ih _ (by omega) (by omega) (Nat.or_lt_two_pow hv (Nat.pow_lt_pow_right (by decide) (by omega)))
theorem lays_loop3 (Hi : R1 b3 z3 n3 bo so no 3) (hn : n ≤ 8) (h0 : s 0 = nI n) : ∀ (f g v : Nat), g ≤ n → n - g < f → v < 2 ^ n → Both (ll5 (fX4_lays_21 (nI n) b0 z0 n0 b1 z1 n1 b2_ z2 n2 b3 z3 n3) f li fi (nI 3) (nI v) (nI g)) (ll5 (fX5_lays_21 bo so no) f s st (nI 3) (nI v) (nI g)) (fun k1 k2 => ∃ v, v < 2 ^ n ∧ k1 = (nI v, fi) ∧ k2 = (upd s 1 (nI v), st)) := by
  intro f
  obtain ⟨h1, h2, ⟨q, h3, h4, h5⟩, h6⟩ := Hi
  induction f with
  | zero => intro g v _ h; exact absurd h (by omega)
  | succ f ih =>
    intro g v hg hf hv
    have ih := ih (g + 1)
    show Both (fX4_lays_21 (nI n) b0 z0 n0 b1 z1 n1 b2_ z2 n2 b3 z3 n3 (ll5 (fX4_lays_21 (nI n) b0 z0 n0 b1 z1 n1 b2_ z2 n2 b3 z3 n3) f) li fi (nI 3) (nI v) (nI g)) (fX5_lays_21 bo so no (ll5 (fX5_lays_21 bo so no) f) s st (nI 3) (nI v) (nI g)) _
    generalize ll5 (fX4_lays_21 (nI n) b0 z0 n0 b1 z1 n1 b2_ z2 n2 b3 z3 n3) f = ag1 at ih ⊢
    generalize ll5 (fX5_lays_21 bo so no) f = ag2 at ih ⊢
    unfold fX4_lays_21 fX5_lays_21 fX4_lays_77 fX5_lays_77 fX4_lays_71 fX5_lays_69
    rw [h0, ite_le (by omega) (by omega), ite_le (by omega) (by omega)]
    by_cases c : n ≤ g
    · rw [if_pos c, if_pos c]
      exact Both.mk ⟨v, hv, rfl, rfl⟩
    · rw [if_neg c, if_neg c, sel4_3, gIn_nI (i := 3) (n := 4) (by decide) (by decide), nI_clamp (show 3 < 2 ^ 31 by decide), h5, h4, ite_le (by omega) (by omega), ite_le (by omega) (by omega)]
      by_cases e : q ≤ g
      · rw [if_pos e, if_pos e]
        exact Both.mk ⟨v, hv, rfl, rfl⟩
      · rw [if_neg e, if_neg e, gIn_nI (by omega) (by decide), idx_i, gIn_nI (by omega) (by decide), nI_clamp (by omega), nI_clamp (by omega), ← h6 g (by omega), nm_of, nm_of, nm_of, nm_of, nm_of, nm_of, nm_of, nI_1, bit_i g (by omega), fa_or, fa_lit 0, fa_or]
        by_cases z : lg_cmp (n3 g) 0 = nI 0
        · rw [if_pos z, if_pos z, Nat.or_zero]
          exact ih v (by omega) (by omega) hv
        · rw [if_neg z, if_neg z]
          exact ih _ (by omega) (by omega) (Nat.or_lt_two_pow hv (Nat.pow_lt_pow_right (by decide) (by omega)))
theorem op_lays (R : RA sz li to ki co te s n l kd cc Hh) (H : RS b0 z0 n0 b1 z1 n1 b2_ z2 n2 b3 z3 n3 bo so no) (F : FS fi st) (x1 : Int32) : Both (fX4_lays sz li b0 z0 n0 b1 z1 n1 b2_ z2 n2 b3 z3 n3 fi x1) (fX5_lays s st bo so no x1) (fun k1 k2 => (∃ l', RA sz k1.1 to ki co te k2.1 n l' kd cc Hh) ∧ FS k1.2 k2.2) := by
  have hn := R.1.1
  have R0 := R
  have hsz := R.1.2.1
  subst hsz
  by_cases h : 0 ≤ x1.toInt ∧ x1.toInt ≤ 3
  · obtain ⟨i, hi, rfl⟩ := i_ex (x := x1) (n := 4) (by decide) h.1 (by omega)
    clear h
    obtain ⟨H0, H1, H2, H3⟩ := H
    unfold fX4_lays fX5_lays
    rw [wrong_i hi, bR_some]
    rcases (show i = 0 ∨ i = 1 ∨ i = 2 ∨ i = 3 by omega) with rfl | rfl | rfl | rfl
    · rw [lack_0, bR_some, ← H0.1]
      by_cases hb : b0 = 0
      · rw [if_pos hb, if_neg (by decide), if_neg (by decide), fnd_6, fns_6, bR_some, bR_some]
        exact Both.mk ⟨⟨l, R0⟩, F.up (by decide)⟩
      · rw [if_neg hb, if_pos rfl, if_pos rfl]
        obtain ⟨r, k1, k2, q1, q2, v, hv, rfl, rfl⟩ := lays_loop0 (li := li) (fi := fi) (st := st) (b0 := b0) (z0 := z0) (n0 := n0) (b1 := b1) (z1 := z1) (n1 := n1) (b2_ := b2_) (z2 := z2) (n2 := n2) (b3 := b3) (z3 := z3) (n3 := n3) H0 hn R0.2.1.2.1 1024 0 0 (Nat.zero_le _) (by omega) Nat.one_le_two_pow
        have q1 : ll5 (fX4_lays_21 (nI n) b0 z0 n0 b1 z1 n1 b2_ z2 n2 b3 z3 n3) qF li fi (nI 0) 0 0 = some (r, (nI v, fi)) := q1
        have q2 : ll5 (fX5_lays_21 bo so no) qF s st (nI 0) 0 0 = some (r, (upd s 1 (nI v), st)) := q2
        rw [q1, q2]
        exact Both.mk ⟨⟨v, R0.list hv⟩, F⟩
    · rw [lack_1, bR_some, ← H1.1]
      by_cases hb : b1 = 0
      · rw [if_pos hb, if_neg (by decide), if_neg (by decide), fnd_6, fns_6, bR_some, bR_some]
        exact Both.mk ⟨⟨l, R0⟩, F.up (by decide)⟩
      · rw [if_neg hb, if_pos rfl, if_pos rfl]
        obtain ⟨r, k1, k2, q1, q2, v, hv, rfl, rfl⟩ := lays_loop1 (li := li) (fi := fi) (st := st) (b0 := b0) (z0 := z0) (n0 := n0) (b1 := b1) (z1 := z1) (n1 := n1) (b2_ := b2_) (z2 := z2) (n2 := n2) (b3 := b3) (z3 := z3) (n3 := n3) H1 hn R0.2.1.2.1 1024 0 0 (Nat.zero_le _) (by omega) Nat.one_le_two_pow
        have q1 : ll5 (fX4_lays_21 (nI n) b0 z0 n0 b1 z1 n1 b2_ z2 n2 b3 z3 n3) qF li fi (nI 1) 0 0 = some (r, (nI v, fi)) := q1
        have q2 : ll5 (fX5_lays_21 bo so no) qF s st (nI 1) 0 0 = some (r, (upd s 1 (nI v), st)) := q2
        rw [q1, q2]
        exact Both.mk ⟨⟨v, R0.list hv⟩, F⟩
    · rw [lack_2, bR_some, ← H2.1]
      by_cases hb : b2_ = 0
      · rw [if_pos hb, if_neg (by decide), if_neg (by decide), fnd_6, fns_6, bR_some, bR_some]
        exact Both.mk ⟨⟨l, R0⟩, F.up (by decide)⟩
      · rw [if_neg hb, if_pos rfl, if_pos rfl]
        obtain ⟨r, k1, k2, q1, q2, v, hv, rfl, rfl⟩ := lays_loop2 (li := li) (fi := fi) (st := st) (b0 := b0) (z0 := z0) (n0 := n0) (b1 := b1) (z1 := z1) (n1 := n1) (b2_ := b2_) (z2 := z2) (n2 := n2) (b3 := b3) (z3 := z3) (n3 := n3) H2 hn R0.2.1.2.1 1024 0 0 (Nat.zero_le _) (by omega) Nat.one_le_two_pow
        have q1 : ll5 (fX4_lays_21 (nI n) b0 z0 n0 b1 z1 n1 b2_ z2 n2 b3 z3 n3) qF li fi (nI 2) 0 0 = some (r, (nI v, fi)) := q1
        have q2 : ll5 (fX5_lays_21 bo so no) qF s st (nI 2) 0 0 = some (r, (upd s 1 (nI v), st)) := q2
        rw [q1, q2]
        exact Both.mk ⟨⟨v, R0.list hv⟩, F⟩
    · rw [lack_3, bR_some, ← H3.1]
      by_cases hb : b3 = 0
      · rw [if_pos hb, if_neg (by decide), if_neg (by decide), fnd_6, fns_6, bR_some, bR_some]
        exact Both.mk ⟨⟨l, R0⟩, F.up (by decide)⟩
      · rw [if_neg hb, if_pos rfl, if_pos rfl]
        obtain ⟨r, k1, k2, q1, q2, v, hv, rfl, rfl⟩ := lays_loop3 (li := li) (fi := fi) (st := st) (b0 := b0) (z0 := z0) (n0 := n0) (b1 := b1) (z1 := z1) (n1 := n1) (b2_ := b2_) (z2 := z2) (n2 := n2) (b3 := b3) (z3 := z3) (n3 := n3) H3 hn R0.2.1.2.1 1024 0 0 (Nat.zero_le _) (by omega) Nat.one_le_two_pow
        have q1 : ll5 (fX4_lays_21 (nI n) b0 z0 n0 b1 z1 n1 b2_ z2 n2 b3 z3 n3) qF li fi (nI 3) 0 0 = some (r, (nI v, fi)) := q1
        have q2 : ll5 (fX5_lays_21 bo so no) qF s st (nI 3) 0 0 = some (r, (upd s 1 (nI v), st)) := q2
        rw [q1, q2]
        exact Both.mk ⟨⟨v, R0.list hv⟩, F⟩
  · unfold fX4_lays fX5_lays
    rw [lackX h, wrongX h, bR_some, bR_some, if_neg (by decide), if_neg (by decide), fnd_1, fns_1, bR_some, bR_some]
    exact Both.mk ⟨⟨l, R0⟩, F.up (by decide)⟩
theorem book_loop0 (P : PC n kd Hh sz ki te) (M : PM n kd Hh s) : ∀ (f j a : Nat) (kn p : Nat → Int32) (n0 no : Nat → Int64), j ≤ 40 → 40 - j < f → a < 256 → RS b0 z0 n0 b1 z1 n1 b2_ z2 n2 b3 z3 n3 bo so no → KV n kd Hh kn → Both (ll9 (fX4_book_27 sz li ki te b0 z0 b1 z1 b2_ z2 b3 z3) f kn n0 n1 n2 n3 fi (nI 0) (nI a) (nI j)) (ll6 (fX5_book_26 s bo so) f st p no (nI 0) (nI a) (nI j)) (fun k1 k2 => RS b0 z0 k1.2.1 b1 z1 k1.2.2.1 b2_ z2 k1.2.2.2.1 b3 z3 k1.2.2.2.2.1 bo so k2.2.2 ∧ KV n kd Hh k1.1 ∧ k1.2.2.2.2.2 = fi ∧ k2.1 = st) := by
  intro f
  induction f with
  | zero => intro j a kn p n0 no _ h; exact absurd h (by omega)
  | succ f ih =>
    intro j a kn p n0 no hj hf ha H K
    have ih := ih (j + 1)
    rw [ll9_u, ll6_u]
    generalize ll9 (fX4_book_27 sz li ki te b0 z0 b1 z1 b2_ z2 b3 z3) f = ag1 at ih ⊢
    generalize ll6 (fX5_book_26 s bo so) f = ag2 at ih ⊢
    obtain ⟨H0, H1, H2, H3⟩ := id H
    obtain ⟨h1, h2, ⟨q, h3, h4, h5⟩, h6⟩ := id H0
    unfold fX4_book_27 fX5_book_26
    rw [sel4_0, gIn_nI (by decide) (by decide), gIn_nI (by decide) (by decide), gIn_nI (by decide) (by decide), nI_clamp (show 0 < 2 ^ 31 by decide), h5, h4, ite_le (by omega) (by omega), ite_le (by omega) (by omega)]
    by_cases e : q ≤ j
    · rw [if_pos e, if_pos e]
      exact Both.mk ⟨by rw [← h4]; exact H, K, rfl, rfl⟩
    · obtain ⟨k1, q1, q2⟩ := comers_r P K ha
      obtain ⟨k2, p1, -⟩ := would_r M ha p
      rw [if_neg e, if_neg e, put_eq _ _ (by omega), bR_some, q1, bR_some, nm_of, narrowed_eq, bR_some, idx_i, gIn_nI (by omega) (by decide), p1, bR_some, nm_of, nI_1, nI_clamp (by omega), ← h1, ← h4]
      exact ih _ k1 k2 _ _ (by omega) (by omega) (Wd_256 P.1 kd Hh a) ⟨H0.put, H1.oth rfl rfl (fun j hj => pk_uLn (by omega)), H2.oth rfl rfl (fun j hj => pk_uLn (by omega)), H3.oth rfl rfl (fun j hj => pk_uLn (by omega))⟩ q2
theorem book_loop1 (P : PC n kd Hh sz ki te) (M : PM n kd Hh s) : ∀ (f j a : Nat) (kn p : Nat → Int32) (n1 no : Nat → Int64), j ≤ 40 → 40 - j < f → a < 256 → RS b0 z0 n0 b1 z1 n1 b2_ z2 n2 b3 z3 n3 bo so no → KV n kd Hh kn → Both (ll9 (fX4_book_27 sz li ki te b0 z0 b1 z1 b2_ z2 b3 z3) f kn n0 n1 n2 n3 fi (nI 1) (nI a) (nI j)) (ll6 (fX5_book_26 s bo so) f st p no (nI 1) (nI a) (nI j)) (fun k1 k2 => RS b0 z0 k1.2.1 b1 z1 k1.2.2.1 b2_ z2 k1.2.2.2.1 b3 z3 k1.2.2.2.2.1 bo so k2.2.2 ∧ KV n kd Hh k1.1 ∧ k1.2.2.2.2.2 = fi ∧ k2.1 = st) := by
  intro f
  induction f with
  | zero => intro j a kn p n1 no _ h; exact absurd h (by omega)
  | succ f ih =>
    intro j a kn p n1 no hj hf ha H K
    have ih := ih (j + 1)
    rw [ll9_u, ll6_u]
    generalize ll9 (fX4_book_27 sz li ki te b0 z0 b1 z1 b2_ z2 b3 z3) f = ag1 at ih ⊢
    generalize ll6 (fX5_book_26 s bo so) f = ag2 at ih ⊢
    obtain ⟨H0, H1, H2, H3⟩ := id H
    obtain ⟨h1, h2, ⟨q, h3, h4, h5⟩, h6⟩ := id H1
    unfold fX4_book_27 fX5_book_26
    rw [sel4_1, gIn_nI (by decide) (by decide), gIn_nI (by decide) (by decide), gIn_nI (by decide) (by decide), nI_clamp (show 1 < 2 ^ 31 by decide), h5, h4, ite_le (by omega) (by omega), ite_le (by omega) (by omega)]
    by_cases e : q ≤ j
    · rw [if_pos e, if_pos e]
      exact Both.mk ⟨by rw [← h4]; exact H, K, rfl, rfl⟩
    · obtain ⟨k1, q1, q2⟩ := comers_r P K ha
      obtain ⟨k2, p1, -⟩ := would_r M ha p
      rw [if_neg e, if_neg e, put_eq _ _ (by omega), bR_some, q1, bR_some, nm_of, narrowed_eq, bR_some, idx_i, gIn_nI (by omega) (by decide), p1, bR_some, nm_of, nI_1, nI_clamp (by omega), ← h1, ← h4]
      exact ih _ k1 k2 _ _ (by omega) (by omega) (Wd_256 P.1 kd Hh a) ⟨H0.oth rfl rfl (fun j hj => pk_uLn (by omega)), H1.put, H2.oth rfl rfl (fun j hj => pk_uLn (by omega)), H3.oth rfl rfl (fun j hj => pk_uLn (by omega))⟩ q2
theorem book_loop2 (P : PC n kd Hh sz ki te) (M : PM n kd Hh s) : ∀ (f j a : Nat) (kn p : Nat → Int32) (n2 no : Nat → Int64), j ≤ 40 → 40 - j < f → a < 256 → RS b0 z0 n0 b1 z1 n1 b2_ z2 n2 b3 z3 n3 bo so no → KV n kd Hh kn → Both (ll9 (fX4_book_27 sz li ki te b0 z0 b1 z1 b2_ z2 b3 z3) f kn n0 n1 n2 n3 fi (nI 2) (nI a) (nI j)) (ll6 (fX5_book_26 s bo so) f st p no (nI 2) (nI a) (nI j)) (fun k1 k2 => RS b0 z0 k1.2.1 b1 z1 k1.2.2.1 b2_ z2 k1.2.2.2.1 b3 z3 k1.2.2.2.2.1 bo so k2.2.2 ∧ KV n kd Hh k1.1 ∧ k1.2.2.2.2.2 = fi ∧ k2.1 = st) := by
  intro f
  induction f with
  | zero => intro j a kn p n2 no _ h; exact absurd h (by omega)
  | succ f ih =>
    intro j a kn p n2 no hj hf ha H K
    have ih := ih (j + 1)
    rw [ll9_u, ll6_u]
    generalize ll9 (fX4_book_27 sz li ki te b0 z0 b1 z1 b2_ z2 b3 z3) f = ag1 at ih ⊢
    generalize ll6 (fX5_book_26 s bo so) f = ag2 at ih ⊢
    obtain ⟨H0, H1, H2, H3⟩ := id H
    obtain ⟨h1, h2, ⟨q, h3, h4, h5⟩, h6⟩ := id H2
    unfold fX4_book_27 fX5_book_26
    rw [sel4_2, gIn_nI (by decide) (by decide), gIn_nI (by decide) (by decide), gIn_nI (by decide) (by decide), nI_clamp (show 2 < 2 ^ 31 by decide), h5, h4, ite_le (by omega) (by omega), ite_le (by omega) (by omega)]
    by_cases e : q ≤ j
    · rw [if_pos e, if_pos e]
      exact Both.mk ⟨by rw [← h4]; exact H, K, rfl, rfl⟩
    · obtain ⟨k1, q1, q2⟩ := comers_r P K ha
      obtain ⟨k2, p1, -⟩ := would_r M ha p
      rw [if_neg e, if_neg e, put_eq _ _ (by omega), bR_some, q1, bR_some, nm_of, narrowed_eq, bR_some, idx_i, gIn_nI (by omega) (by decide), p1, bR_some, nm_of, nI_1, nI_clamp (by omega), ← h1, ← h4]
      exact ih _ k1 k2 _ _ (by omega) (by omega) (Wd_256 P.1 kd Hh a) ⟨H0.oth rfl rfl (fun j hj => pk_uLn (by omega)), H1.oth rfl rfl (fun j hj => pk_uLn (by omega)), H2.put, H3.oth rfl rfl (fun j hj => pk_uLn (by omega))⟩ q2
theorem book_loop3 (P : PC n kd Hh sz ki te) (M : PM n kd Hh s) : ∀ (f j a : Nat) (kn p : Nat → Int32) (n3 no : Nat → Int64), j ≤ 40 → 40 - j < f → a < 256 → RS b0 z0 n0 b1 z1 n1 b2_ z2 n2 b3 z3 n3 bo so no → KV n kd Hh kn → Both (ll9 (fX4_book_27 sz li ki te b0 z0 b1 z1 b2_ z2 b3 z3) f kn n0 n1 n2 n3 fi (nI 3) (nI a) (nI j)) (ll6 (fX5_book_26 s bo so) f st p no (nI 3) (nI a) (nI j)) (fun k1 k2 => RS b0 z0 k1.2.1 b1 z1 k1.2.2.1 b2_ z2 k1.2.2.2.1 b3 z3 k1.2.2.2.2.1 bo so k2.2.2 ∧ KV n kd Hh k1.1 ∧ k1.2.2.2.2.2 = fi ∧ k2.1 = st) := by
  intro f
  induction f with
  | zero => intro j a kn p n3 no _ h; exact absurd h (by omega)
  | succ f ih =>
    intro j a kn p n3 no hj hf ha H K
    have ih := ih (j + 1)
    rw [ll9_u, ll6_u]
    generalize ll9 (fX4_book_27 sz li ki te b0 z0 b1 z1 b2_ z2 b3 z3) f = ag1 at ih ⊢
    generalize ll6 (fX5_book_26 s bo so) f = ag2 at ih ⊢
    obtain ⟨H0, H1, H2, H3⟩ := id H
    obtain ⟨h1, h2, ⟨q, h3, h4, h5⟩, h6⟩ := id H3
    unfold fX4_book_27 fX5_book_26
    rw [sel4_3, gIn_nI (by decide) (by decide), gIn_nI (by decide) (by decide), gIn_nI (by decide) (by decide), nI_clamp (show 3 < 2 ^ 31 by decide), h5, h4, ite_le (by omega) (by omega), ite_le (by omega) (by omega)]
    by_cases e : q ≤ j
    · rw [if_pos e, if_pos e]
      exact Both.mk ⟨by rw [← h4]; exact H, K, rfl, rfl⟩
    · obtain ⟨k1, q1, q2⟩ := comers_r P K ha
      obtain ⟨k2, p1, -⟩ := would_r M ha p
      rw [if_neg e, if_neg e, put_eq _ _ (by omega), bR_some, q1, bR_some, nm_of, narrowed_eq, bR_some, idx_i, gIn_nI (by omega) (by decide), p1, bR_some, nm_of, nI_1, nI_clamp (by omega), ← h1, ← h4]
      exact ih _ k1 k2 _ _ (by omega) (by omega) (Wd_256 P.1 kd Hh a) ⟨H0.oth rfl rfl (fun j hj => pk_uLn (by omega)), H1.oth rfl rfl (fun j hj => pk_uLn (by omega)), H2.oth rfl rfl (fun j hj => pk_uLn (by omega)), H3.put⟩ q2
theorem op_book (R : RA sz li to ki co te s n l kd cc Hh) (K : KV n kd Hh kn) (H : RS b0 z0 n0 b1 z1 n1 b2_ z2 n2 b3 z3 n3 bo so no) (F : FS fi st) (x1 : Int32) : Both (fX4_book sz li ki te kn b0 z0 n0 b1 z1 n1 b2_ z2 n2 b3 z3 n3 fi x1) (fX5_book s st pile bo so no x1) (fun k1 k2 => RS b0 z0 k1.2.1 b1 z1 k1.2.2.1 b2_ z2 k1.2.2.2.1 b3 z3 k1.2.2.2.2.1 bo so k2.2.2 ∧ KV n kd Hh k1.1 ∧ FS k1.2.2.2.2.2 k2.1) := by
  have hl := R.l256
  obtain ⟨P, M, hL, -⟩ := R
  by_cases h : 0 ≤ x1.toInt ∧ x1.toInt ≤ 3
  · obtain ⟨i, hi, rfl⟩ := i_ex (x := x1) (n := 4) (by decide) h.1 (by omega)
    clear h
    unfold fX4_book fX5_book
    rw [wrong_i hi, bR_some, nm_of, hL.2.2, hL.2.1]
    rcases (show i = 0 ∨ i = 1 ∨ i = 2 ∨ i = 3 by omega) with rfl | rfl | rfl | rfl
    · rw [lack_0, bR_some, ← H.1.1]
      by_cases hb : b0 = 0
      · rw [if_pos hb, if_neg (by decide), if_neg (by decide), fnd_6, fns_6, bR_some, bR_some]
        exact Both.mk ⟨H, K, F.up (by decide)⟩
      · rw [if_neg hb, if_pos rfl, if_pos rfl]
        obtain ⟨r, k1, k2, q1, q2, q3, q4, q5, q6⟩ := book_loop0 (li := nI l) (fi := fi) (st := st) P M 1024 0 l kn pile n0 no (by omega) (by omega) hl H K
        have q1 : ll9 (fX4_book_27 sz (nI l) ki te b0 z0 b1 z1 b2_ z2 b3 z3) qF kn n0 n1 n2 n3 fi (nI 0) (nI l) 0 = some (r, k1) := q1
        have q2 : ll6 (fX5_book_26 s bo so) qF st pile no (nI 0) (nI l) 0 = some (r, k2) := q2
        rw [q1, q2]
        exact Both.mk ⟨q3, q4, by rw [q5, q6]; exact F⟩
    · rw [lack_1, bR_some, ← H.2.1.1]
      by_cases hb : b1 = 0
      · rw [if_pos hb, if_neg (by decide), if_neg (by decide), fnd_6, fns_6, bR_some, bR_some]
        exact Both.mk ⟨H, K, F.up (by decide)⟩
      · rw [if_neg hb, if_pos rfl, if_pos rfl]
        obtain ⟨r, k1, k2, q1, q2, q3, q4, q5, q6⟩ := book_loop1 (li := nI l) (fi := fi) (st := st) P M 1024 0 l kn pile n1 no (by omega) (by omega) hl H K
        have q1 : ll9 (fX4_book_27 sz (nI l) ki te b0 z0 b1 z1 b2_ z2 b3 z3) qF kn n0 n1 n2 n3 fi (nI 1) (nI l) 0 = some (r, k1) := q1
        have q2 : ll6 (fX5_book_26 s bo so) qF st pile no (nI 1) (nI l) 0 = some (r, k2) := q2
        rw [q1, q2]
        exact Both.mk ⟨q3, q4, by rw [q5, q6]; exact F⟩
    · rw [lack_2, bR_some, ← H.2.2.1.1]
      by_cases hb : b2_ = 0
      · rw [if_pos hb, if_neg (by decide), if_neg (by decide), fnd_6, fns_6, bR_some, bR_some]
        exact Both.mk ⟨H, K, F.up (by decide)⟩
      · rw [if_neg hb, if_pos rfl, if_pos rfl]
        obtain ⟨r, k1, k2, q1, q2, q3, q4, q5, q6⟩ := book_loop2 (li := nI l) (fi := fi) (st := st) P M 1024 0 l kn pile n2 no (by omega) (by omega) hl H K
        have q1 : ll9 (fX4_book_27 sz (nI l) ki te b0 z0 b1 z1 b2_ z2 b3 z3) qF kn n0 n1 n2 n3 fi (nI 2) (nI l) 0 = some (r, k1) := q1
        have q2 : ll6 (fX5_book_26 s bo so) qF st pile no (nI 2) (nI l) 0 = some (r, k2) := q2
        rw [q1, q2]
        exact Both.mk ⟨q3, q4, by rw [q5, q6]; exact F⟩
    · rw [lack_3, bR_some, ← H.2.2.2.1]
      by_cases hb : b3 = 0
      · rw [if_pos hb, if_neg (by decide), if_neg (by decide), fnd_6, fns_6, bR_some, bR_some]
        exact Both.mk ⟨H, K, F.up (by decide)⟩
      · rw [if_neg hb, if_pos rfl, if_pos rfl]
        obtain ⟨r, k1, k2, q1, q2, q3, q4, q5, q6⟩ := book_loop3 (li := nI l) (fi := fi) (st := st) P M 1024 0 l kn pile n3 no (by omega) (by omega) hl H K
        have q1 : ll9 (fX4_book_27 sz (nI l) ki te b0 z0 b1 z1 b2_ z2 b3 z3) qF kn n0 n1 n2 n3 fi (nI 3) (nI l) 0 = some (r, k1) := q1
        have q2 : ll6 (fX5_book_26 s bo so) qF st pile no (nI 3) (nI l) 0 = some (r, k2) := q2
        rw [q1, q2]
        exact Both.mk ⟨q3, q4, by rw [q5, q6]; exact F⟩
  · unfold fX4_book fX5_book
    rw [lackX h, wrongX h, bR_some, bR_some, if_neg (by decide), if_neg (by decide), fnd_1, fns_1, bR_some, bR_some]
    exact Both.mk ⟨H, K, F.up (by decide)⟩
/-! the reader comes to an answer -/
def Tot {α κ : Type} (o : Option (α × κ)) (Q : κ → Prop) : Prop := ∃ r k, o = some (r, k) ∧ Q k
theorem bitsAt_tot (b : Int32) (nu : Nat → Int64) {j : Nat} (hj : j < 40) : ∃ v, fX1_bitsAt b nu (nI j) = some (v, ()) := by
  unfold fX1_bitsAt
  rw [gIn_nI hj (by decide), gIn_nI hj (by decide), gIn_nI hj (by decide)]
  by_cases c : b = 8
  · rw [if_pos c]; exact ⟨_, rfl⟩
  · rw [if_neg c]
    by_cases c2 : b = 16
    · rw [if_pos c2]; exact ⟨_, rfl⟩
    · rw [if_neg c2]; exact ⟨_, rfl⟩
theorem listAt_tot (b : Int32) (nu : Nat → Int64) {j : Nat} (hj : j < 40) : ∃ v, v < 256 ∧ fX1_listAt b nu (nI j) = some (nI v, ()) := by
  unfold fX1_listAt
  obtain ⟨w, e⟩ := bitsAt_tot b nu hj
  obtain ⟨v, hv, e2⟩ := byte_ex w.toInt32
  rw [e, bR_some, e2]
  exact ⟨v, hv, rfl⟩
theorem holdsOnly_tot {b : Int32} {nu : Nat → Int64} {q : Nat} (hq : q ≤ 40) {y : Int32} : ∀ (f j : Nat), j ≤ q → q - j < f → ∃ v, ll2 (fX1_holdsOnly_2 b (nI q) nu) f y (nI j) = some (v, ()) := by
  intro f
  induction f with
  | zero => intro j _ h; exact absurd h (by omega)
  | succ f ih =>
    intro j hj hf
    have ih := ih (j + 1)
    show ∃ v, fX1_holdsOnly_2 b (nI q) nu (ll2 (fX1_holdsOnly_2 b (nI q) nu) f) y (nI j) = some (v, ())
    generalize ll2 (fX1_holdsOnly_2 b (nI q) nu) f = ag at ih ⊢
    unfold fX1_holdsOnly_2
    rw [ite_le (by omega) (by omega)]
    by_cases c : q ≤ j
    · rw [if_pos c]; exact ⟨_, rfl⟩
    · obtain ⟨w, e⟩ := bitsAt_tot b nu (show j < 40 by omega)
      rw [if_neg c, e, bR_some, nm_of, nI_1]
      split
      · exact ih (by omega) (by omega)
      · exact ⟨_, rfl⟩
theorem explains_tot (P : PC n kd Hh sz ki te) {b : Int32} {nu : Nat → Int64} {q g k : Nat} (hq : q ≤ 40) (hg : g < n) (hk : k < 6) : ∀ (f j : Nat) (kn : Nat → Int32), 1 ≤ j → j ≤ 41 → 41 - j < f → KV n kd Hh kn → Tot (ll4 (fX4_explains_3 sz ki te b (nI q) nu) f kn (nI g) (nI k) (nI j)) (KV n kd Hh) := by
  intro f
  induction f with
  | zero => intro j kn _ _ h; exact absurd h (by omega)
  | succ f ih =>
    intro j kn hj hj1 hf K
    have ih := ih (j + 1)
    show Tot (fX4_explains_3 sz ki te b (nI q) nu (ll4 (fX4_explains_3 sz ki te b (nI q) nu) f) kn (nI g) (nI k) (nI j)) _
    generalize ll4 (fX4_explains_3 sz ki te b (nI q) nu) f = ag at ih ⊢
    unfold fX4_explains_3
    by_cases c : nI q ≤ nI j
    · rw [if_pos c]; exact ⟨_, _, rfl, K⟩
    · have hj2 : j < 40 := by
        rw [nI_leI (by omega) (by omega)] at c
        omega
      obtain ⟨v, hv, e⟩ := listAt_tot b nu (show j - 1 < 40 by omega)
      obtain ⟨v2, hv2, e2⟩ := listAt_tot b nu hj2
      obtain ⟨k1, q1, q2⟩ := comersAs_r P K hg hk hv
      rw [if_neg c, fa_lit 1, nI_sub1 hj, e, bR_some, q1, bR_some, e2, bR_some, nm_of, nI_add]
      split
      · exact ih k1 (by omega) (by omega) (by omega) q2
      · exact ⟨_, _, rfl, q2⟩
theorem read57_0 (P : PC n kd Hh sz ki te) (Hi : R1 b0 z0 n0 bo so no 0) {g : Nat} (hg : g < n) {ag42 : (Nat → Int32) → (Nat → Int32) → Int32 → Int32 → Int32 → Option (Int32 × (Nat → Int32) × (Nat → Int32))} (hag : ∀ kn y, KV n kd Hh kn → Tot (ag42 kn fi (nI 0) y (nI (g + 1))) (fun k => KV n kd Hh k.1 ∧ k.2 = fi)) : ∀ (f k : Nat) (y : Int32) (kn : Nat → Int32), k ≤ 6 → 6 - k < f → KV n kd Hh kn → Tot (ll6 (fX4_read_57 sz ki te b0 z0 n0 b1 z1 n1 b2_ z2 n2 b3 z3 n3 ag42) f kn fi (nI 0) y (nI g) (nI k)) (fun k => KV n kd Hh k.1 ∧ k.2 = fi) := by
  intro f
  obtain ⟨h1, h2, ⟨q, h3, h4, h5⟩, h6⟩ := Hi
  have hn := P.1
  induction f with
  | zero => intro k y kn _ h; exact absurd h (by omega)
  | succ f ih =>
    intro k y kn hk hf K
    have ih := ih (k + 1)
    show Tot (fX4_read_57 sz ki te b0 z0 n0 b1 z1 n1 b2_ z2 n2 b3 z3 n3 ag42 (ll6 (fX4_read_57 sz ki te b0 z0 n0 b1 z1 n1 b2_ z2 n2 b3 z3 n3 ag42) f) kn fi (nI 0) y (nI g) (nI k)) _
    generalize ll6 (fX4_read_57 sz ki te b0 z0 n0 b1 z1 n1 b2_ z2 n2 b3 z3 n3 ag42) f = ag at ih ⊢
    unfold fX4_read_57
    rw [fa_lit 6, ite_le (by decide) (by omega)]
    by_cases c : 6 ≤ k
    · rw [if_pos c, nm_of, nI_1]
      exact hag kn y K
    · rw [if_neg c, sel4_0]
      obtain ⟨r, k1, q1, q2⟩ := explains_tot (b := b0) (nu := n0) P h3 hg (show k < 6 by omega) 1024 1 kn (by omega) (by omega) (by omega) K
      have q1 : fX4_explains sz ki te kn b0 z0 n0 (nI g) (nI k) = some (r, k1) := by rw [h4]; exact q1
      rw [q1, bR_some]
      unfold fX4_oneIf
      split
      · rw [bR_some, nm_of, nm_of, nI_1]; exact ih _ k1 (by omega) (by omega) q2
      · rw [bR_some, nm_of, nm_of, nI_1]; exact ih _ k1 (by omega) (by omega) q2
theorem read42_0 (P : PC n kd Hh sz ki te) (Hi : R1 b0 z0 n0 bo so no 0) : ∀ (f g : Nat) (y : Int32) (kn : Nat → Int32), g ≤ n → n - g < f → KV n kd Hh kn → Tot (ll5 (fX4_read_42 sz ki te b0 z0 n0 b1 z1 n1 b2_ z2 n2 b3 z3 n3) f kn fi (nI 0) y (nI g)) (fun k => KV n kd Hh k.1 ∧ k.2 = fi) := by
  intro f
  have hn := P.1
  induction f with
  | zero => intro g y kn _ h; exact absurd h (by omega)
  | succ f ih =>
    intro g y kn hg hf K
    have ih := ih (g + 1)
    show Tot (fX4_read_42 sz ki te b0 z0 n0 b1 z1 n1 b2_ z2 n2 b3 z3 n3 (ll5 (fX4_read_42 sz ki te b0 z0 n0 b1 z1 n1 b2_ z2 n2 b3 z3 n3) f) kn fi (nI 0) y (nI g)) _
    generalize ll5 (fX4_read_42 sz ki te b0 z0 n0 b1 z1 n1 b2_ z2 n2 b3 z3 n3) f = ag at ih ⊢
    unfold fX4_read_42
    have e : (if sz ≤ nI g then some (y, (kn, fi)) else ll6 (fX4_read_57 sz ki te b0 z0 n0 b1 z1 n1 b2_ z2 n2 b3 z3 n3 ag) qF kn fi (nI 0) y (nI g) 0) = (if n ≤ g then some (y, (kn, fi)) else ll6 (fX4_read_57 sz ki te b0 z0 n0 b1 z1 n1 b2_ z2 n2 b3 z3 n3 ag) qF kn fi (nI 0) y (nI g) 0) := by
      rw [P.2.1]
      exact ite_le (by omega) (by omega) _ _
    rw [e]
    by_cases c : n ≤ g
    · rw [if_pos c]; exact ⟨_, _, rfl, K, rfl⟩
    · rw [if_neg c]
      exact read57_0 P Hi (by omega) (fun kn y K => ih y kn (by omega) (by omega) K) 1024 0 y kn (by omega) (by omega) K
theorem read57_1 (P : PC n kd Hh sz ki te) (Hi : R1 b1 z1 n1 bo so no 1) {g : Nat} (hg : g < n) {ag42 : (Nat → Int32) → (Nat → Int32) → Int32 → Int32 → Int32 → Option (Int32 × (Nat → Int32) × (Nat → Int32))} (hag : ∀ kn y, KV n kd Hh kn → Tot (ag42 kn fi (nI 1) y (nI (g + 1))) (fun k => KV n kd Hh k.1 ∧ k.2 = fi)) : ∀ (f k : Nat) (y : Int32) (kn : Nat → Int32), k ≤ 6 → 6 - k < f → KV n kd Hh kn → Tot (ll6 (fX4_read_57 sz ki te b0 z0 n0 b1 z1 n1 b2_ z2 n2 b3 z3 n3 ag42) f kn fi (nI 1) y (nI g) (nI k)) (fun k => KV n kd Hh k.1 ∧ k.2 = fi) := by
  intro f
  obtain ⟨h1, h2, ⟨q, h3, h4, h5⟩, h6⟩ := Hi
  have hn := P.1
  induction f with
  | zero => intro k y kn _ h; exact absurd h (by omega)
  | succ f ih =>
    intro k y kn hk hf K
    have ih := ih (k + 1)
    show Tot (fX4_read_57 sz ki te b0 z0 n0 b1 z1 n1 b2_ z2 n2 b3 z3 n3 ag42 (ll6 (fX4_read_57 sz ki te b0 z0 n0 b1 z1 n1 b2_ z2 n2 b3 z3 n3 ag42) f) kn fi (nI 1) y (nI g) (nI k)) _
    generalize ll6 (fX4_read_57 sz ki te b0 z0 n0 b1 z1 n1 b2_ z2 n2 b3 z3 n3 ag42) f = ag at ih ⊢
    unfold fX4_read_57
    rw [fa_lit 6, ite_le (by decide) (by omega)]
    by_cases c : 6 ≤ k
    · rw [if_pos c, nm_of, nI_1]
      exact hag kn y K
    · rw [if_neg c, sel4_1]
      obtain ⟨r, k1, q1, q2⟩ := explains_tot (b := b1) (nu := n1) P h3 hg (show k < 6 by omega) 1024 1 kn (by omega) (by omega) (by omega) K
      have q1 : fX4_explains sz ki te kn b1 z1 n1 (nI g) (nI k) = some (r, k1) := by rw [h4]; exact q1
      rw [q1, bR_some]
      unfold fX4_oneIf
      split
      · rw [bR_some, nm_of, nm_of, nI_1]; exact ih _ k1 (by omega) (by omega) q2
      · rw [bR_some, nm_of, nm_of, nI_1]; exact ih _ k1 (by omega) (by omega) q2
theorem read42_1 (P : PC n kd Hh sz ki te) (Hi : R1 b1 z1 n1 bo so no 1) : ∀ (f g : Nat) (y : Int32) (kn : Nat → Int32), g ≤ n → n - g < f → KV n kd Hh kn → Tot (ll5 (fX4_read_42 sz ki te b0 z0 n0 b1 z1 n1 b2_ z2 n2 b3 z3 n3) f kn fi (nI 1) y (nI g)) (fun k => KV n kd Hh k.1 ∧ k.2 = fi) := by
  intro f
  have hn := P.1
  induction f with
  | zero => intro g y kn _ h; exact absurd h (by omega)
  | succ f ih =>
    intro g y kn hg hf K
    have ih := ih (g + 1)
    show Tot (fX4_read_42 sz ki te b0 z0 n0 b1 z1 n1 b2_ z2 n2 b3 z3 n3 (ll5 (fX4_read_42 sz ki te b0 z0 n0 b1 z1 n1 b2_ z2 n2 b3 z3 n3) f) kn fi (nI 1) y (nI g)) _
    generalize ll5 (fX4_read_42 sz ki te b0 z0 n0 b1 z1 n1 b2_ z2 n2 b3 z3 n3) f = ag at ih ⊢
    unfold fX4_read_42
    have e : (if sz ≤ nI g then some (y, (kn, fi)) else ll6 (fX4_read_57 sz ki te b0 z0 n0 b1 z1 n1 b2_ z2 n2 b3 z3 n3 ag) qF kn fi (nI 1) y (nI g) 0) = (if n ≤ g then some (y, (kn, fi)) else ll6 (fX4_read_57 sz ki te b0 z0 n0 b1 z1 n1 b2_ z2 n2 b3 z3 n3 ag) qF kn fi (nI 1) y (nI g) 0) := by
      rw [P.2.1]
      exact ite_le (by omega) (by omega) _ _
    rw [e]
    by_cases c : n ≤ g
    · rw [if_pos c]; exact ⟨_, _, rfl, K, rfl⟩
    · rw [if_neg c]
      exact read57_1 P Hi (by omega) (fun kn y K => ih y kn (by omega) (by omega) K) 1024 0 y kn (by omega) (by omega) K
theorem read57_2 (P : PC n kd Hh sz ki te) (Hi : R1 b2_ z2 n2 bo so no 2) {g : Nat} (hg : g < n) {ag42 : (Nat → Int32) → (Nat → Int32) → Int32 → Int32 → Int32 → Option (Int32 × (Nat → Int32) × (Nat → Int32))} (hag : ∀ kn y, KV n kd Hh kn → Tot (ag42 kn fi (nI 2) y (nI (g + 1))) (fun k => KV n kd Hh k.1 ∧ k.2 = fi)) : ∀ (f k : Nat) (y : Int32) (kn : Nat → Int32), k ≤ 6 → 6 - k < f → KV n kd Hh kn → Tot (ll6 (fX4_read_57 sz ki te b0 z0 n0 b1 z1 n1 b2_ z2 n2 b3 z3 n3 ag42) f kn fi (nI 2) y (nI g) (nI k)) (fun k => KV n kd Hh k.1 ∧ k.2 = fi) := by
  intro f
  obtain ⟨h1, h2, ⟨q, h3, h4, h5⟩, h6⟩ := Hi
  have hn := P.1
  induction f with
  | zero => intro k y kn _ h; exact absurd h (by omega)
  | succ f ih =>
    intro k y kn hk hf K
    have ih := ih (k + 1)
    show Tot (fX4_read_57 sz ki te b0 z0 n0 b1 z1 n1 b2_ z2 n2 b3 z3 n3 ag42 (ll6 (fX4_read_57 sz ki te b0 z0 n0 b1 z1 n1 b2_ z2 n2 b3 z3 n3 ag42) f) kn fi (nI 2) y (nI g) (nI k)) _
    generalize ll6 (fX4_read_57 sz ki te b0 z0 n0 b1 z1 n1 b2_ z2 n2 b3 z3 n3 ag42) f = ag at ih ⊢
    unfold fX4_read_57
    rw [fa_lit 6, ite_le (by decide) (by omega)]
    by_cases c : 6 ≤ k
    · rw [if_pos c, nm_of, nI_1]
      exact hag kn y K
    · rw [if_neg c, sel4_2]
      obtain ⟨r, k1, q1, q2⟩ := explains_tot (b := b2_) (nu := n2) P h3 hg (show k < 6 by omega) 1024 1 kn (by omega) (by omega) (by omega) K
      have q1 : fX4_explains sz ki te kn b2_ z2 n2 (nI g) (nI k) = some (r, k1) := by rw [h4]; exact q1
      rw [q1, bR_some]
      unfold fX4_oneIf
      split
      · rw [bR_some, nm_of, nm_of, nI_1]; exact ih _ k1 (by omega) (by omega) q2
      · rw [bR_some, nm_of, nm_of, nI_1]; exact ih _ k1 (by omega) (by omega) q2
theorem read42_2 (P : PC n kd Hh sz ki te) (Hi : R1 b2_ z2 n2 bo so no 2) : ∀ (f g : Nat) (y : Int32) (kn : Nat → Int32), g ≤ n → n - g < f → KV n kd Hh kn → Tot (ll5 (fX4_read_42 sz ki te b0 z0 n0 b1 z1 n1 b2_ z2 n2 b3 z3 n3) f kn fi (nI 2) y (nI g)) (fun k => KV n kd Hh k.1 ∧ k.2 = fi) := by
  intro f
  have hn := P.1
  induction f with
  | zero => intro g y kn _ h; exact absurd h (by omega)
  | succ f ih =>
    intro g y kn hg hf K
    have ih := ih (g + 1)
    show Tot (fX4_read_42 sz ki te b0 z0 n0 b1 z1 n1 b2_ z2 n2 b3 z3 n3 (ll5 (fX4_read_42 sz ki te b0 z0 n0 b1 z1 n1 b2_ z2 n2 b3 z3 n3) f) kn fi (nI 2) y (nI g)) _
    generalize ll5 (fX4_read_42 sz ki te b0 z0 n0 b1 z1 n1 b2_ z2 n2 b3 z3 n3) f = ag at ih ⊢
    unfold fX4_read_42
    have e : (if sz ≤ nI g then some (y, (kn, fi)) else ll6 (fX4_read_57 sz ki te b0 z0 n0 b1 z1 n1 b2_ z2 n2 b3 z3 n3 ag) qF kn fi (nI 2) y (nI g) 0) = (if n ≤ g then some (y, (kn, fi)) else ll6 (fX4_read_57 sz ki te b0 z0 n0 b1 z1 n1 b2_ z2 n2 b3 z3 n3 ag) qF kn fi (nI 2) y (nI g) 0) := by
      rw [P.2.1]
      exact ite_le (by omega) (by omega) _ _
    rw [e]
    by_cases c : n ≤ g
    · rw [if_pos c]; exact ⟨_, _, rfl, K, rfl⟩
    · rw [if_neg c]
      exact read57_2 P Hi (by omega) (fun kn y K => ih y kn (by omega) (by omega) K) 1024 0 y kn (by omega) (by omega) K
theorem read57_3 (P : PC n kd Hh sz ki te) (Hi : R1 b3 z3 n3 bo so no 3) {g : Nat} (hg : g < n) {ag42 : (Nat → Int32) → (Nat → Int32) → Int32 → Int32 → Int32 → Option (Int32 × (Nat → Int32) × (Nat → Int32))} (hag : ∀ kn y, KV n kd Hh kn → Tot (ag42 kn fi (nI 3) y (nI (g + 1))) (fun k => KV n kd Hh k.1 ∧ k.2 = fi)) : ∀ (f k : Nat) (y : Int32) (kn : Nat → Int32), k ≤ 6 → 6 - k < f → KV n kd Hh kn → Tot (ll6 (fX4_read_57 sz ki te b0 z0 n0 b1 z1 n1 b2_ z2 n2 b3 z3 n3 ag42) f kn fi (nI 3) y (nI g) (nI k)) (fun k => KV n kd Hh k.1 ∧ k.2 = fi) := by
  intro f
  obtain ⟨h1, h2, ⟨q, h3, h4, h5⟩, h6⟩ := Hi
  have hn := P.1
  induction f with
  | zero => intro k y kn _ h; exact absurd h (by omega)
  | succ f ih =>
    intro k y kn hk hf K
    have ih := ih (k + 1)
    show Tot (fX4_read_57 sz ki te b0 z0 n0 b1 z1 n1 b2_ z2 n2 b3 z3 n3 ag42 (ll6 (fX4_read_57 sz ki te b0 z0 n0 b1 z1 n1 b2_ z2 n2 b3 z3 n3 ag42) f) kn fi (nI 3) y (nI g) (nI k)) _
    generalize ll6 (fX4_read_57 sz ki te b0 z0 n0 b1 z1 n1 b2_ z2 n2 b3 z3 n3 ag42) f = ag at ih ⊢
    unfold fX4_read_57
    rw [fa_lit 6, ite_le (by decide) (by omega)]
    by_cases c : 6 ≤ k
    · rw [if_pos c, nm_of, nI_1]
      exact hag kn y K
    · rw [if_neg c, sel4_3]
      obtain ⟨r, k1, q1, q2⟩ := explains_tot (b := b3) (nu := n3) P h3 hg (show k < 6 by omega) 1024 1 kn (by omega) (by omega) (by omega) K
      have q1 : fX4_explains sz ki te kn b3 z3 n3 (nI g) (nI k) = some (r, k1) := by rw [h4]; exact q1
      rw [q1, bR_some]
      unfold fX4_oneIf
      split
      · rw [bR_some, nm_of, nm_of, nI_1]; exact ih _ k1 (by omega) (by omega) q2
      · rw [bR_some, nm_of, nm_of, nI_1]; exact ih _ k1 (by omega) (by omega) q2
theorem read42_3 (P : PC n kd Hh sz ki te) (Hi : R1 b3 z3 n3 bo so no 3) : ∀ (f g : Nat) (y : Int32) (kn : Nat → Int32), g ≤ n → n - g < f → KV n kd Hh kn → Tot (ll5 (fX4_read_42 sz ki te b0 z0 n0 b1 z1 n1 b2_ z2 n2 b3 z3 n3) f kn fi (nI 3) y (nI g)) (fun k => KV n kd Hh k.1 ∧ k.2 = fi) := by
  intro f
  have hn := P.1
  induction f with
  | zero => intro g y kn _ h; exact absurd h (by omega)
  | succ f ih =>
    intro g y kn hg hf K
    have ih := ih (g + 1)
    show Tot (fX4_read_42 sz ki te b0 z0 n0 b1 z1 n1 b2_ z2 n2 b3 z3 n3 (ll5 (fX4_read_42 sz ki te b0 z0 n0 b1 z1 n1 b2_ z2 n2 b3 z3 n3) f) kn fi (nI 3) y (nI g)) _
    generalize ll5 (fX4_read_42 sz ki te b0 z0 n0 b1 z1 n1 b2_ z2 n2 b3 z3 n3) f = ag at ih ⊢
    unfold fX4_read_42
    have e : (if sz ≤ nI g then some (y, (kn, fi)) else ll6 (fX4_read_57 sz ki te b0 z0 n0 b1 z1 n1 b2_ z2 n2 b3 z3 n3 ag) qF kn fi (nI 3) y (nI g) 0) = (if n ≤ g then some (y, (kn, fi)) else ll6 (fX4_read_57 sz ki te b0 z0 n0 b1 z1 n1 b2_ z2 n2 b3 z3 n3 ag) qF kn fi (nI 3) y (nI g) 0) := by
      rw [P.2.1]
      exact ite_le (by omega) (by omega) _ _
    rw [e]
    by_cases c : n ≤ g
    · rw [if_pos c]; exact ⟨_, _, rfl, K, rfl⟩
    · rw [if_neg c]
      exact read57_3 P Hi (by omega) (fun kn y K => ih y kn (by omega) (by omega) K) 1024 0 y kn (by omega) (by omega) K
theorem isList_L (M : PM n kd Hh s) (v : Int64) : fX5_isList s v = some (b2 (0 ≤ v.toInt ∧ v.toInt < (2 ^ n : Nat)), ()) := by
  unfold fX5_isList
  rw [lists_m M, bR_some, in_b2, bR_some, gB_b2, nl1_i n (by have := M.1; omega)]
  rw [b2_congr (show ((0 : Int64).toInt ≤ v.toInt ∧ v.toInt ≤ ((2 ^ n : Nat) : Int) - 1) ↔ (0 ≤ v.toInt ∧ v.toInt < (2 ^ n : Nat)) from by
    rw [show (0 : Int64).toInt = 0 from by decide]; omega)]
theorem list_L {v : Int64} {N : Nat} (hN : N ≤ 256) (h : 0 ≤ v.toInt ∧ v.toInt < N) : ∃ a, a < N ∧ v.toInt32 = nI a := by
  refine ⟨v.toInt.toNat, by omega, ?_⟩
  have e : v = lN v.toInt.toNat := Int64.toInt_inj.mp (by rw [lN_toInt (by omega)]; omega)
  rw [← lN_i, ← e]
theorem isRow_tot (M : PM n kd Hh s) {i q : Nat} (hi : i < 4) (hq : q ≤ 40) (hs : so i = nI q) : ∀ (f j : Nat) (p : Nat → Int32), j ≤ q → q - j < f → (0 < j → 0 ≤ (no (40 * i + j - 1)).toInt ∧ (no (40 * i + j - 1)).toInt < (2 ^ n : Nat)) → Tot (ll3 (fX5_isRow_2 s so no) f p (nI i) (nI j)) (fun _ => True) := by
  intro f
  have hN := two_le M.1
  induction f with
  | zero => intro j p _ h; exact absurd h (by omega)
  | succ f ih =>
    intro j p hj hf hp
    have ih := ih (j + 1)
    show Tot (fX5_isRow_2 s so no (ll3 (fX5_isRow_2 s so no) f) p (nI i) (nI j)) _
    generalize ll3 (fX5_isRow_2 s so no) f = ag at ih ⊢
    unfold fX5_isRow_2 fX5_isRow_62
    rw [gIn_nI hi (by decide), nI_clamp (by omega), hs, ite_le (by omega) (by omega)]
    by_cases c : q ≤ j
    · rw [if_pos c]; exact ⟨_, _, rfl, trivial⟩
    · rw [if_neg c, idx_i, gIn_nI (by omega) (by decide), nI_clamp (by omega), nm_of, isList_L M, bR_some, ite_b2]
      by_cases d : 0 ≤ (no (40 * i + j)).toInt ∧ (no (40 * i + j)).toInt < (2 ^ n : Nat)
      · have hnext : 0 < j + 1 → 0 ≤ (no (40 * i + (j + 1) - 1)).toInt ∧ (no (40 * i + (j + 1) - 1)).toInt < (2 ^ n : Nat) := by
          intro _
          rw [show 40 * i + (j + 1) - 1 = 40 * i + j by omega]
          exact d
        rw [if_pos d, nm_of, nI_1 j]
        by_cases e : j = 0
        · subst e
          rw [if_pos (by decide)]
          exact ih p (by omega) (by omega) hnext
        · have hj0 : ¬ nI j ≤ 0 := fun q => e (by have := (nI_leI (b := 0) (by omega) (by decide)).mp q; omega)
          obtain ⟨a, ha, ea⟩ := list_L hN (hp (by omega))
          obtain ⟨k1, q1, -⟩ := would_r M (show a < 256 by omega) p
          rw [if_neg hj0, fa_lit 1, nI_sub1 (by omega), gIn_nI (by omega) (by decide), nI_clamp (by omega), ea, q1, bR_some, nm_of]
          split
          · exact ih k1 (by omega) (by omega) hnext
          · exact ⟨_, _, rfl, trivial⟩
      · rw [if_neg d]; exact ⟨_, _, rfl, trivial⟩
theorem read44_tot (M : PM n kd Hh s) {i q g : Nat} (hi : i < 4) (hq : q ≤ 40) (hs : so i = nI q) (hg : g < n) {ag21 : (Nat → Int32) → (Nat → Int32) → (Nat → Int32) → Int32 → Int32 → Int32 → Option (Int32 × (Nat → Int32) × (Nat → Int32) × (Nat → Int32))} (hag : ∀ p y, Tot (ag21 s st p (nI i) y (nI (g + 1))) (fun k => k.1 = s ∧ k.2.1 = st)) : ∀ (f k : Nat) (y v : Int32) (p : Nat → Int32), k ≤ 6 → 6 - k < f → Tot (ll8 (fX5_read_44 bo so no ag21) f (upd s (2 + 3 * g) v) st p (nI i) y (nI g) (nI (kd g)) (nI k)) (fun k => k.1 = s ∧ k.2.1 = st) := by
  intro f
  have hn := M.1
  induction f with
  | zero => intro k y v p _ h; exact absurd h (by omega)
  | succ f ih =>
    intro k y v p hk hf
    have ih := ih (k + 1)
    show Tot (fX5_read_44 bo so no ag21 (ll8 (fX5_read_44 bo so no ag21) f) (upd s (2 + 3 * g) v) st p (nI i) y (nI g) (nI (kd g)) (nI k)) _
    generalize ll8 (fX5_read_44 bo so no ag21) f = ag at ih ⊢
    unfold fX5_read_44 fX5_read_78
    have e : 2 + 3 * nI g = nI (2 + 3 * g) := by rw [fa_lit 2, fa_lit 3, nI_mulL, nI_add]
    rw [e, gIn_nI (by omega) (by decide), gIn_nI (by omega) (by decide), nI_clamp (by omega), upd_upd, upd_upd, fa_lit 6, ite_le (by decide) (by omega)]
    by_cases c : 6 ≤ k
    · rw [if_pos c, upd_self (M.2.2.1 g hg).2, nm_of, nI_1]
      exact hag p y
    · rw [if_neg c]
      obtain ⟨r, k1, q1, -⟩ := isRow_tot (no := no) (so := so) (PM_kind M hg (show k < 6 by omega)) hi hq hs 1024 0 p (by omega) (by omega) (fun h => absurd h (by omega))
      have q1 : fX5_isRow (upd s (2 + 3 * g) (nI k)) p so no (nI i) = some (r, k1) := q1
      rw [q1, bR_some]
      split
      · rw [nm_of, nm_of, nI_1]; exact ih _ _ k1 (by omega) (by omega)
      · rw [nm_of, nm_of, nI_1]; exact ih _ _ k1 (by omega) (by omega)
theorem read21_tot (M : PM n kd Hh s) {i q : Nat} (hi : i < 4) (hq : q ≤ 40) (hs : so i = nI q) : ∀ (f g : Nat) (y : Int32) (p : Nat → Int32), g ≤ n → n - g < f → Tot (ll6 (fX5_read_21 bo so no) f s st p (nI i) y (nI g)) (fun k => k.1 = s ∧ k.2.1 = st) := by
  intro f
  have hn := M.1
  induction f with
  | zero => intro g y p _ h; exact absurd h (by omega)
  | succ f ih =>
    intro g y p hg hf
    have ih := ih (g + 1)
    show Tot (fX5_read_21 bo so no (ll6 (fX5_read_21 bo so no) f) s st p (nI i) y (nI g)) _
    generalize ll6 (fX5_read_21 bo so no) f = ag at ih ⊢
    unfold fX5_read_21
    rw [M.2.1, ite_le (by omega) (by omega)]
    by_cases c : n ≤ g
    · rw [if_pos c]; exact ⟨_, _, rfl, rfl, rfl⟩
    · rw [if_neg c, its_0 s (by omega), bR_some, (M.2.2.1 g (by omega)).2]
      have := read44_tot (st := st) (bo := bo) (no := no) M hi hq hs (show g < n by omega) (ag21 := ag) (fun p y => ih y p (by omega) (by omega)) 1024 0 y (nI (kd g)) p (by omega) (by omega)
      rw [upd_self (M.2.2.1 g (by omega)).2] at this
      exact this
theorem op_read (R : RA sz li to ki co te s n l kd cc Hh) (K : KV n kd Hh kn) (H : RS b0 z0 n0 b1 z1 n1 b2_ z2 n2 b3 z3 n3 bo so no) (F : FS fi st) (x1 : Int32) : ∃ r1 k1 r2 k2, fX4_read sz ki te kn b0 z0 n0 b1 z1 n1 b2_ z2 n2 b3 z3 n3 fi x1 = some (r1, k1) ∧ fX5_read s st pile bo so no x1 = some (r2, k2) ∧ KV n kd Hh k1.1 ∧ k2.1 = s ∧ FS k1.2 k2.2.1 := by
  obtain ⟨P, M, -⟩ := R
  have hn := P.1
  by_cases h : 0 ≤ x1.toInt ∧ x1.toInt ≤ 3
  · obtain ⟨i, hi, rfl⟩ := i_ex (x := x1) (n := 4) (by decide) h.1 (by omega)
    clear h
    unfold fX4_read fX5_read
    rw [wrong_i hi, bR_some, every_p P]
    rcases (show i = 0 ∨ i = 1 ∨ i = 2 ∨ i = 3 by omega) with rfl | rfl | rfl | rfl
    · obtain ⟨h1, h2, ⟨q, h3, h4, h5⟩, h6⟩ := id H.1
      rw [lack_0, bR_some, ← h1]
      by_cases hb : b0 = 0
      · rw [if_pos hb, if_neg (by decide), if_neg (by decide), fnd_6, fns_6, bR_some, bR_some]
        exact ⟨_, _, _, _, rfl, rfl, K, rfl, F.up (by decide)⟩
      · rw [if_neg hb, if_pos rfl, if_pos rfl, sel4_0, bR_some]
        obtain ⟨r2, k2, p1, p2, p3⟩ := read21_tot (st := st) (bo := bo) (no := no) M hi h3 h5 1024 0 0 pile (Nat.zero_le _) (by omega)
        have p1 : ll6 (fX5_read_21 bo so no) qF s st pile (nI 0) 0 0 = some (r2, k2) := p1
        obtain ⟨v, e⟩ := holdsOnly_tot (b := b0) (nu := n0) h3 (y := nI (2 ^ n - 1)) 1024 0 (Nat.zero_le _) (by omega)
        have e : fX1_holdsOnly b0 z0 n0 (nI (2 ^ n - 1)) = some (v, ()) := by rw [h4]; exact e
        rw [p1, e, bR_some]
        by_cases hv : v = 0
        · rw [if_pos hv]
          exact ⟨_, _, _, _, rfl, rfl, K, p2, by rw [p3]; exact F⟩
        · rw [if_neg hv]
          obtain ⟨r1, k1, q1, q2, q3⟩ := read42_0 (fi := fi) (b0 := b0) (z0 := z0) (n0 := n0) (b1 := b1) (z1 := z1) (n1 := n1) (b2_ := b2_) (z2 := z2) (n2 := n2) (b3 := b3) (z3 := z3) (n3 := n3) P H.1 1024 0 0 kn (Nat.zero_le _) (by omega) K
          have q1 : ll5 (fX4_read_42 sz ki te b0 z0 n0 b1 z1 n1 b2_ z2 n2 b3 z3 n3) qF kn fi (nI 0) 0 0 = some (r1, k1) := q1
          rw [q1]
          exact ⟨_, _, _, _, rfl, rfl, q2, p2, by rw [q3, p3]; exact F⟩
    · obtain ⟨h1, h2, ⟨q, h3, h4, h5⟩, h6⟩ := id H.2.1
      rw [lack_1, bR_some, ← h1]
      by_cases hb : b1 = 0
      · rw [if_pos hb, if_neg (by decide), if_neg (by decide), fnd_6, fns_6, bR_some, bR_some]
        exact ⟨_, _, _, _, rfl, rfl, K, rfl, F.up (by decide)⟩
      · rw [if_neg hb, if_pos rfl, if_pos rfl, sel4_1, bR_some]
        obtain ⟨r2, k2, p1, p2, p3⟩ := read21_tot (st := st) (bo := bo) (no := no) M hi h3 h5 1024 0 0 pile (Nat.zero_le _) (by omega)
        have p1 : ll6 (fX5_read_21 bo so no) qF s st pile (nI 1) 0 0 = some (r2, k2) := p1
        obtain ⟨v, e⟩ := holdsOnly_tot (b := b1) (nu := n1) h3 (y := nI (2 ^ n - 1)) 1024 0 (Nat.zero_le _) (by omega)
        have e : fX1_holdsOnly b1 z1 n1 (nI (2 ^ n - 1)) = some (v, ()) := by rw [h4]; exact e
        rw [p1, e, bR_some]
        by_cases hv : v = 0
        · rw [if_pos hv]
          exact ⟨_, _, _, _, rfl, rfl, K, p2, by rw [p3]; exact F⟩
        · rw [if_neg hv]
          obtain ⟨r1, k1, q1, q2, q3⟩ := read42_1 (fi := fi) (b0 := b0) (z0 := z0) (n0 := n0) (b1 := b1) (z1 := z1) (n1 := n1) (b2_ := b2_) (z2 := z2) (n2 := n2) (b3 := b3) (z3 := z3) (n3 := n3) P H.2.1 1024 0 0 kn (Nat.zero_le _) (by omega) K
          have q1 : ll5 (fX4_read_42 sz ki te b0 z0 n0 b1 z1 n1 b2_ z2 n2 b3 z3 n3) qF kn fi (nI 1) 0 0 = some (r1, k1) := q1
          rw [q1]
          exact ⟨_, _, _, _, rfl, rfl, q2, p2, by rw [q3, p3]; exact F⟩
    · obtain ⟨h1, h2, ⟨q, h3, h4, h5⟩, h6⟩ := id H.2.2.1
      rw [lack_2, bR_some, ← h1]
      by_cases hb : b2_ = 0
      · rw [if_pos hb, if_neg (by decide), if_neg (by decide), fnd_6, fns_6, bR_some, bR_some]
        exact ⟨_, _, _, _, rfl, rfl, K, rfl, F.up (by decide)⟩
      · rw [if_neg hb, if_pos rfl, if_pos rfl, sel4_2, bR_some]
        obtain ⟨r2, k2, p1, p2, p3⟩ := read21_tot (st := st) (bo := bo) (no := no) M hi h3 h5 1024 0 0 pile (Nat.zero_le _) (by omega)
        have p1 : ll6 (fX5_read_21 bo so no) qF s st pile (nI 2) 0 0 = some (r2, k2) := p1
        obtain ⟨v, e⟩ := holdsOnly_tot (b := b2_) (nu := n2) h3 (y := nI (2 ^ n - 1)) 1024 0 (Nat.zero_le _) (by omega)
        have e : fX1_holdsOnly b2_ z2 n2 (nI (2 ^ n - 1)) = some (v, ()) := by rw [h4]; exact e
        rw [p1, e, bR_some]
        by_cases hv : v = 0
        · rw [if_pos hv]
          exact ⟨_, _, _, _, rfl, rfl, K, p2, by rw [p3]; exact F⟩
        · rw [if_neg hv]
          obtain ⟨r1, k1, q1, q2, q3⟩ := read42_2 (fi := fi) (b0 := b0) (z0 := z0) (n0 := n0) (b1 := b1) (z1 := z1) (n1 := n1) (b2_ := b2_) (z2 := z2) (n2 := n2) (b3 := b3) (z3 := z3) (n3 := n3) P H.2.2.1 1024 0 0 kn (Nat.zero_le _) (by omega) K
          have q1 : ll5 (fX4_read_42 sz ki te b0 z0 n0 b1 z1 n1 b2_ z2 n2 b3 z3 n3) qF kn fi (nI 2) 0 0 = some (r1, k1) := q1
          rw [q1]
          exact ⟨_, _, _, _, rfl, rfl, q2, p2, by rw [q3, p3]; exact F⟩
    · obtain ⟨h1, h2, ⟨q, h3, h4, h5⟩, h6⟩ := id H.2.2.2
      rw [lack_3, bR_some, ← h1]
      by_cases hb : b3 = 0
      · rw [if_pos hb, if_neg (by decide), if_neg (by decide), fnd_6, fns_6, bR_some, bR_some]
        exact ⟨_, _, _, _, rfl, rfl, K, rfl, F.up (by decide)⟩
      · rw [if_neg hb, if_pos rfl, if_pos rfl, sel4_3, bR_some]
        obtain ⟨r2, k2, p1, p2, p3⟩ := read21_tot (st := st) (bo := bo) (no := no) M hi h3 h5 1024 0 0 pile (Nat.zero_le _) (by omega)
        have p1 : ll6 (fX5_read_21 bo so no) qF s st pile (nI 3) 0 0 = some (r2, k2) := p1
        obtain ⟨v, e⟩ := holdsOnly_tot (b := b3) (nu := n3) h3 (y := nI (2 ^ n - 1)) 1024 0 (Nat.zero_le _) (by omega)
        have e : fX1_holdsOnly b3 z3 n3 (nI (2 ^ n - 1)) = some (v, ()) := by rw [h4]; exact e
        rw [p1, e, bR_some]
        by_cases hv : v = 0
        · rw [if_pos hv]
          exact ⟨_, _, _, _, rfl, rfl, K, p2, by rw [p3]; exact F⟩
        · rw [if_neg hv]
          obtain ⟨r1, k1, q1, q2, q3⟩ := read42_3 (fi := fi) (b0 := b0) (z0 := z0) (n0 := n0) (b1 := b1) (z1 := z1) (n1 := n1) (b2_ := b2_) (z2 := z2) (n2 := n2) (b3 := b3) (z3 := z3) (n3 := n3) P H.2.2.2 1024 0 0 kn (Nat.zero_le _) (by omega) K
          have q1 : ll5 (fX4_read_42 sz ki te b0 z0 n0 b1 z1 n1 b2_ z2 n2 b3 z3 n3) qF kn fi (nI 3) 0 0 = some (r1, k1) := q1
          rw [q1]
          exact ⟨_, _, _, _, rfl, rfl, q2, p2, by rw [q3, p3]; exact F⟩
  · unfold fX4_read fX5_read
    rw [lackX h, wrongX h, bR_some, bR_some, if_neg (by decide), if_neg (by decide), fnd_1, fns_1, bR_some, bR_some]
    exact ⟨_, _, _, _, rfl, rfl, K, rfl, F.up (by decide)⟩
end SHE2
