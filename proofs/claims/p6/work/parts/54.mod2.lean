theorem its_0 (s : Nat → Int32) {g : Nat} (hg : g < 8) : fX5_its s (nI g) 0 = some (s (2 + 3 * g), ()) := its_eq s (w := 0) hg (by decide)
theorem its_1 (s : Nat → Int32) {g : Nat} (hg : g < 8) : fX5_its s (nI g) 1 = some (s (3 + 3 * g), ()) := by
  have := its_eq s (w := 1) hg (by decide)
  rw [show 2 + 3 * g + 1 = 3 + 3 * g by omega] at this
  exact this
theorem its_2 (s : Nat → Int32) {g : Nat} (hg : g < 8) : fX5_its s (nI g) 2 = some (s (4 + 3 * g), ()) := by
  have := its_eq s (w := 2) hg (by decide)
  rw [show 2 + 3 * g + 2 = 4 + 3 * g by omega] at this
  exact this
theorem ret_if {κ : Type} {h : Bool} {Q : κ → Prop} {k : κ} (hk : Q k) {p : Prop} [Decidable p] (e : p ↔ h = true) : Ret (if b2 (h = true) = 0 then some ((0 : Int32), k) else some (1, k)) (b2 p) Q := by
  rw [ite_b2]
  by_cases c : h = true
  · rw [if_pos c, b2_t (e.mpr c)]; exact Ret.mk hk
  · rw [if_neg c, b2_f (fun q => c (e.mp q))]; exact Ret.mk hk
theorem ret_if' {κ : Type} {h : Bool} {Q : κ → Prop} {k : κ} (hk : Q k) {p : Prop} [Decidable p] (e : p ↔ ¬ h = true) : Ret (if b2 (h = true) = 0 then some ((1 : Int32), k) else some (0, k)) (b2 p) Q := by
  rw [ite_b2]
  by_cases c : h = true
  · rw [if_pos c, b2_f (fun q => e.mp q c)]; exact Ret.mk hk
  · rw [if_neg c, b2_t (e.mpr c)]; exact Ret.mk hk
section MOD
variable {n : Nat} {kd : Nat → Nat} {Hh : Nat → Nat → Bool} {s : Nat → Int32}
theorem comesBy_r (M : PM n kd Hh s) {g l : Nat} (hg : g < n) (hl : l < 256) (pile : Nat → Int32) : Ret (fX5_comesBy s pile (nI g) (nI l)) (b2 (cm (kd g) (Hh g l) (pop (clr l g)) = true)) (fun _ => True) := by
  obtain ⟨hn, h0, hk, hT⟩ := M
  have T := holds_r (by omega) hl (hT g hg) pile
  obtain ⟨hk6, hkg⟩ := hk g hg
  unfold fX5_comesBy
  rw [oth_m hl (by omega), bR_some, its_0 s (by omega), bR_some, hkg]
  have ho : pop (clr l g) < 9 := by have := pop_le (clr l g); omega
  generalize pop (clr l g) = o at ho ⊢
  generalize Hh g l = h at T ⊢
  generalize kd g = k at hk6 ⊢
  match k, hk6 with
  | 0, _ =>
    rw [if_pos (by decide)]
    refine Ret.b1 T (fun k4 _ => ?_)
    rw [gB_b2]
    exact Ret.mk' (b2_congr (by simp [cm])) trivial
  | 1, _ =>
    rw [if_neg (by decide), if_pos (by decide), fa_lit 3, ite_lt (by decide) (by omega)]
    by_cases c : 3 < o
    · rw [if_pos c, b2_t (by have : 4 ≤ o := c; simp [cm, this])]; exact Ret.mk trivial
    · rw [if_neg c]
      refine Ret.b1 T (fun k4 _ => ret_if trivial ?_)
      have : ¬ 4 ≤ o := by omega
      simp [cm, this]
  | 2, _ =>
    rw [if_neg (by decide), if_neg (by decide), if_pos (by decide), fa_lit 5, ite_le (by decide) (by omega)]
    by_cases c : 5 ≤ o
    · rw [if_pos c, b2_f (by have : ¬ o ≤ 4 := by omega
                             simp [cm, this])]; exact Ret.mk trivial
    · rw [if_neg c]
      refine Ret.b1 T (fun k4 _ => ret_if trivial ?_)
      have : o ≤ 4 := by omega
      simp [cm, this]
  | 3, _ =>
    rw [if_neg (by decide), if_neg (by decide), if_neg (by decide), if_pos (by decide), b2_f (by simp [cm])]
    exact Ret.mk trivial
  | 4, _ =>
    rw [if_neg (by decide), if_neg (by decide), if_neg (by decide), if_neg (by decide), if_pos (by decide), fa_lit 3, ite_lt (by decide) (by omega)]
    by_cases c : 3 < o
    · rw [if_pos c, b2_t (by have : 4 ≤ o := c; simp [cm, this])]; exact Ret.mk trivial
    · rw [if_neg c, fa_lit 0, ite_eqN (by omega) (by decide)]
      by_cases c2 : o = 0
      · rw [if_pos c2, b2_t (by simp [cm, c2])]; exact Ret.mk trivial
      · rw [if_neg c2]
        refine Ret.b1 T (fun k4 _ => ret_if trivial ?_)
        have : ¬ 4 ≤ o := by omega
        simp [cm, this, c2]
  | 5, _ =>
    rw [if_neg (by decide), if_neg (by decide), if_neg (by decide), if_neg (by decide), if_neg (by decide), if_pos (by decide), fa_lit 4, ite_lt (by decide) (by omega)]
    by_cases c : 4 < o
    · rw [if_pos c, b2_t (by have : ¬ o ≤ 4 := by omega
                             simp [cm, this])]; exact Ret.mk trivial
    · rw [if_neg c]
      refine Ret.b1 T (fun k4 _ => ret_if' trivial ?_)
      have : o ≤ 4 := by omega
      simp [cm, this]
  | k + 6, h => exact absurd h (by omega)
theorem would_loop (M : PM n kd Hh s) {l : Nat} (hl : l < 256) : ∀ (f i : Nat) (pile : Nat → Int32), i ≤ n → n - i < f → Ret (ll4 (fX5_would_4 s) f pile (nI l) (nI (wdn (fun g => cm (kd g) (Hh g l) (pop (clr l g))) i)) (nI i)) (nI (Wd n kd Hh l)) (fun _ => True)
  | 0, i, _, _, h => absurd h (by omega)
  | f + 1, i, pile, hi, hf => by
    have ih := would_loop M hl f (i + 1)
    have hn := M.1
    have h0 := M.2.1
    show Ret (fX5_would_4 s (ll4 (fX5_would_4 s) f) pile (nI l) (nI (wdn (fun g => cm (kd g) (Hh g l) (pop (clr l g))) i)) (nI i)) _ _
    generalize ll4 (fX5_would_4 s) f = ag at ih ⊢
    unfold fX5_would_4
    rw [h0, ite_le (by omega) (by omega)]
    by_cases c : n ≤ i
    · have e : i = n := by omega
      rw [if_pos c, e]
      exact Ret.mk trivial
    · rw [if_neg c]
      refine Ret.b1 (comesBy_r M (by omega) hl pile) (fun k _ => ?_)
      have ih := ih k (by omega) (by omega)
      rw [ite_b2]
      unfold fX5_would_31
      by_cases d : cm (kd i) (Hh i l) (pop (clr l i)) = true
      · rw [if_pos d, nm_of, nm_of, bit_i i (by omega), fa_or, nI_1]
        have e : wdn (fun g => cm (kd g) (Hh g l) (pop (clr l g))) (i + 1) = wdn (fun g => cm (kd g) (Hh g l) (pop (clr l g))) i ||| 2 ^ i := by
          show _ ||| (if _ then _ else _) = _
          rw [if_pos d]
        rw [e] at ih
        exact ih
      · rw [if_neg d, nm_of, nm_of, fa_lit 0, fa_or, nI_1]
        have e : wdn (fun g => cm (kd g) (Hh g l) (pop (clr l g))) (i + 1) = wdn (fun g => cm (kd g) (Hh g l) (pop (clr l g))) i ||| 0 := by
          show _ ||| (if _ then _ else _) = _
          rw [if_neg d]
        rw [e] at ih
        exact ih
theorem would_r (M : PM n kd Hh s) {l : Nat} (hl : l < 256) (pile : Nat → Int32) : Ret (fX5_would s pile (nI l)) (nI (Wd n kd Hh l)) (fun _ => True) := would_loop M hl 1024 0 pile (by omega) (by have := M.1; omega)
theorem lists_m (M : PM n kd Hh s) : fX5_lists s = some (nI (2 ^ n), ()) := by
  unfold fX5_lists
  rw [M.2.1, bit_i n (by have := M.1; omega)]
theorem lists_c (hn : n ≤ 8) : fX0_lists (nI n) = some (nI (2 ^ n), ()) := by
  unfold fX0_lists
  rw [bit_i n (by omega)]
theorem everyone_c (hn : n ≤ 8) : fX0_everyone (nI n) = some (nI (2 ^ n - 1), ()) := by
  unfold fX0_everyone
  rw [lists_c hn, bR_some, fa_lit 1, nI_sub1 (Nat.one_le_two_pow)]
/-- wishes looked up -/
def WV (n : Nat) (kd : Nat → Nat) (Hh : Nat → Nat → Bool) (w : Nat → Int32) : Prop := ∀ l, l < 2 ^ n → w l = nI (Wd n kd Hh l)
theorem looksAll_loop (M : PM n kd Hh s) : ∀ (f i : Nat) (pile w : Nat → Int32), i ≤ 2 ^ n → 2 ^ n - i < f → (∀ l, l < i → w l = nI (Wd n kd Hh l)) → RetV (ll3 (fX5_looksAll_2 s) f pile w (nI i)) (fun k => WV n kd Hh k.2)
  | 0, i, _, _, _, h, _ => absurd h (by omega)
  | f + 1, i, pile, w, hi, hf, hw => by
    have ih := looksAll_loop M f (i + 1)
    have hN := two_le M.1
    show RetV (fX5_looksAll_2 s (ll3 (fX5_looksAll_2 s) f) pile w (nI i)) _
    generalize ll3 (fX5_looksAll_2 s) f = ag at ih ⊢
    unfold fX5_looksAll_2
    rw [lists_m M, bR_some, ite_le (by omega) (by omega)]
    by_cases c : 2 ^ n ≤ i
    · have e : i = 2 ^ n := by omega
      rw [if_pos c]
      exact RetV.mk (fun l hl => hw l (by omega))
    · rw [if_neg c]
      refine Ret.b1V (would_r M (by omega) pile) (fun k _ => ?_)
      rw [gIn_nI (by omega) (by decide), nm_of, nI_1, nI_clamp (by omega)]
      refine ih k _ (by omega) (by omega) (fun l hl => ?_)
      by_cases d : l = i
      · subst d; rw [pk_us]
      · rw [pk_un d]; exact hw l (by omega)
theorem looksAll_r (M : PM n kd Hh s) (pile w : Nat → Int32) : RetV (fX5_looksAll s pile w) (fun k => WV n kd Hh k.2) := looksAll_loop M 1024 0 pile w (Nat.zero_le _) (by have := two_le M.1; omega) (fun l hl => absurd hl (by omega))
theorem costOf_loop {co : Nat → Nat} (hn : n ≤ 8) (h0 : s 0 = nI n) (hc : ∀ g, g < n → co g < 100 ∧ s (3 + 3 * g) = nI (co g)) {l : Nat} (hl : l < 256) : ∀ (f i : Nat), i ≤ n → n - i < f → ll3 (fX5_costOf_4 s) f (nI l) (nI (csum co l i)) (nI i) = some (nI (csum co l n), ())
  | 0, i, _, h => absurd h (by omega)
  | f + 1, i, hi, hf => by
    have ih := costOf_loop hn h0 hc hl f (i + 1)
    show fX5_costOf_4 s (ll3 (fX5_costOf_4 s) f) (nI l) (nI (csum co l i)) (nI i) = _
    generalize ll3 (fX5_costOf_4 s) f = ag at ih ⊢
    unfold fX5_costOf_4
    rw [h0, ite_le (by omega) (by omega)]
    by_cases c : n ≤ i
    · have e : i = n := by omega
      rw [if_pos c, e]
    · rw [if_neg c, hasM_i hl (by omega), bR_some, ite_b2]
      have ih := ih (by omega) (by omega)
      unfold fX5_costOf_33
      by_cases d : l.testBit i = true
      · rw [if_pos d, its_1 s (by omega), bR_some, (hc i (by omega)).2, nm_of, nm_of, nI_add, nI_1]
        have e : csum co l (i + 1) = csum co l i + co i := by show _ + (if _ then _ else _) = _; rw [if_pos d]
        rw [e] at ih
        exact ih
      · rw [if_neg d, nm_of, nm_of, fa_lit 0, nI_add, nI_1]
        have e : csum co l (i + 1) = csum co l i + 0 := by show _ + (if _ then _ else _) = _; rw [if_neg d]
        rw [e] at ih
        exact ih
theorem costOf_eq {co : Nat → Nat} (hn : n ≤ 8) (h0 : s 0 = nI n) (hc : ∀ g, g < n → co g < 100 ∧ s (3 + 3 * g) = nI (co g)) {l : Nat} (hl : l < 256) : fX5_costOf s (nI l) = some (nI (csum co l n), ()) := costOf_loop hn h0 hc hl 1024 0 (by omega) (by omega)
end MOD
