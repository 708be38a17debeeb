section
/-! where rounds bring each list; odds -/
section OPS3
variable {sz li to : Int32} {ki co : Nat → Int32} {te : Nat → Int64} {s kn fi st pile wish mark : Nat → Int32} {n l : Nat} {kd cc : Nat → Nat} {Hh : Nat → Nat → Bool}
theorem lists_p (P : PC n kd Hh sz ki te) : fX0_lists sz = some (nI (2 ^ n), ()) := by rw [P.2.1]; exact lists_c P.1
theorem every_p (P : PC n kd Hh sz ki te) : fX0_everyone sz = some (nI (2 ^ n - 1), ()) := by rw [P.2.1]; exact everyone_c P.1
/-- where 256 rounds lead -/
def wh (n : Nat) (kd : Nat → Nat) (Hh : Nat → Nat → Bool) (l : Nat) : Nat := it (Wd n kd Hh) 256 l
def bs (n : Nat) (kd : Nat → Nat) (Hh : Nat → Nat → Bool) (l : Nat) : Bool := decide (Wd n kd Hh (wh n kd Hh l) = wh n kd Hh l)
theorem wh_lt (hl : l < 2 ^ n) : wh n kd Hh l < 2 ^ n := it_lt (fun l => Wd_lt n kd Hh l) hl 256
theorem basin_loop (P : PC n kd Hh sz ki te) : ∀ (f i : Nat) (kn : Nat → Int32), i ≤ 2 ^ n → 2 ^ n - i < f → KV n kd Hh kn → Ret (ll3 (fX4_basin_4 sz ki te) f kn (nI (cnt (bs n kd Hh) i)) (nI i)) (nI (cnt (bs n kd Hh) (2 ^ n))) (KV n kd Hh) := by
  intro f
  have hN := two_le P.1
  induction f with
  | zero => intro i kn _ h; exact absurd h (by omega)
  | succ f ih =>
    intro i kn hi hf K
    have ih := ih (i + 1)
    show Ret (fX4_basin_4 sz ki te (ll3 (fX4_basin_4 sz ki te) f) kn (nI (cnt (bs n kd Hh) i)) (nI i)) _ _
    generalize ll3 (fX4_basin_4 sz ki te) f = ag at ih ⊢
    unfold fX4_basin_4
    rw [lists_p P, bR_some, ite_le (by omega) (by omega)]
    by_cases c : 2 ^ n ≤ i
    · have e : i = 2 ^ n := by omega
      rw [if_pos c, e]
      exact Ret.mk K
    · rw [if_neg c]
      have hw := wh_lt (kd := kd) (Hh := Hh) (show i < 2 ^ n by omega)
      refine Ret.b1 (behind_r P K (l := i) (m := 256) (by omega) (by omega)) (fun k hk => ?_)
      refine Ret.b1 (isSettled_r P hk (l := wh n kd Hh i) (by omega)) (fun k2 hk2 => ?_)
      rw [oneIf_b2, bR_some, nm_of, nm_of, nI_1, b2_congr (show Wd n kd Hh (wh n kd Hh i) = wh n kd Hh i ↔ bs n kd Hh i = true from by unfold bs; exact decide_eq_true_iff.symm), cnt_s]
      exact ih k2 (by omega) (by omega) hk2
/-- marks of where rounds lead -/
def WM (n : Nat) (kd : Nat → Nat) (Hh : Nat → Nat → Bool) (N : Nat) (mr : Nat → Int32) : Prop := ∀ l, l < N → mr l = if bs n kd Hh l then nI (wh n kd Hh l) else -1
theorem looks18 (hn : n ≤ 8) {w p mr : Nat → Int32} (V : WV n kd Hh w) {y1 : Int32} {ag6 : (Nat → Int32) → (Nat → Int32) → (Nat → Int32) → Int32 → Option ((Nat → Int32) × (Nat → Int32) × (Nat → Int32))} : ∀ (f k a : Nat), k ≤ 256 → 256 - k < f → a < 2 ^ n → ll6 (fX5_looksWhere_18 s ag6) f p w mr y1 (nI a) (nI k) = fX5_looksWhere_48 s ag6 p w mr y1 (nI (it (Wd n kd Hh) (256 - k) a)) := by
  intro f
  have hN := two_le hn
  induction f with
  | zero => intro k a _ h; exact absurd h (by omega)
  | succ f ih =>
    intro k a hk hf ha
    have ih := ih (k + 1)
    show fX5_looksWhere_18 s ag6 (ll6 (fX5_looksWhere_18 s ag6) f) p w mr y1 (nI a) (nI k) = _
    generalize ll6 (fX5_looksWhere_18 s ag6) f = ag at ih ⊢
    unfold fX5_looksWhere_18
    rw [fa_lit 256, ite_le (by decide) (by omega), gIn_nI (by omega) (by decide), gIn_nI (by omega) (by decide), nI_clamp (by omega), V a ha, ite_eqN (by have := Wd_256 hn kd Hh a; omega) (by omega), nm_of, nm_of, nI_1]
    by_cases c : 256 ≤ k
    · rw [if_pos c, show 256 - k = 0 by omega]; rfl
    · rw [if_neg c]
      by_cases d : Wd n kd Hh a = a
      · rw [if_pos d, it_fix d]
      · rw [if_neg d, ih _ (by omega) (by omega) (Wd_lt n kd Hh a), show 256 - k = 256 - (k + 1) + 1 by omega]; rfl
theorem looks6 (M : PM n kd Hh s) {w p : Nat → Int32} (V : WV n kd Hh w) : ∀ (f i : Nat) (mr : Nat → Int32), i ≤ 2 ^ n → 2 ^ n - i < f → WM n kd Hh i mr → RetV (ll4 (fX5_looksWhere_6 s) f p w mr (nI i)) (fun k => WV n kd Hh k.2.1 ∧ WM n kd Hh (2 ^ n) k.2.2) := by
  intro f
  have hN := two_le M.1
  induction f with
  | zero => intro i mr _ h; exact absurd h (by omega)
  | succ f ih =>
    intro i mr hi hf H
    have ih := ih (i + 1)
    show RetV (fX5_looksWhere_6 s (ll4 (fX5_looksWhere_6 s) f) p w mr (nI i)) _
    generalize ll4 (fX5_looksWhere_6 s) f = ag at ih ⊢
    unfold fX5_looksWhere_6
    rw [lists_m M, bR_some, ite_le (by omega) (by omega)]
    by_cases c : 2 ^ n ≤ i
    · have e : i = 2 ^ n := by omega
      subst e
      rw [if_pos c]
      exact RetV.mk ⟨V, H⟩
    · have hw := wh_lt (kd := kd) (Hh := Hh) (show i < 2 ^ n by omega)
      have e := looks18 (s := s) (ag6 := ag) (p := p) (mr := mr) (y1 := nI i) M.1 V 1024 0 i (by omega) (by omega) (by omega)
      have e : ll6 (fX5_looksWhere_18 s ag) qF p w mr (nI i) (nI i) 0 = fX5_looksWhere_48 s ag p w mr (nI i) (nI (wh n kd Hh i)) := e
      rw [if_neg c, e]
      unfold fX5_looksWhere_48 fX5_looksWhere_68
      rw [gIn_nI (by omega) (by decide), nI_clamp (by omega), V _ hw, ite_eqN (by have := Wd_256 M.1 kd Hh (wh n kd Hh i); omega) (by omega), gIn_nI (by omega) (by decide), gIn_nI (by omega) (by decide), nm_of, nm_of, nI_1, nI_clamp (by omega)]
      have key : ∀ v : Int32, (v = if bs n kd Hh i then nI (wh n kd Hh i) else -1) → WM n kd Hh (i + 1) (upd mr i v) := by
        intro v hv q hq
        by_cases d : q = i
        · subst d; rw [pk_us]; exact hv
        · rw [pk_un d]; exact H q (by omega)
      by_cases d : Wd n kd Hh (wh n kd Hh i) = wh n kd Hh i
      · rw [if_pos d]
        exact ih _ (by omega) (by omega) (key _ (by unfold bs; rw [decide_eq_true d]; rfl))
      · rw [if_neg d]
        exact ih _ (by omega) (by omega) (key _ (by unfold bs; rw [decide_eq_false d]; rfl))
theorem looksWhere_r (M : PM n kd Hh s) : RetV (fX5_looksWhere s pile wish mark) (fun k => WV n kd Hh k.2.1 ∧ WM n kd Hh (2 ^ n) k.2.2) := by
  unfold fX5_looksWhere
  refine RetV.bb (looksAll_r M pile wish) (fun k V => ?_)
  exact looks6 M V 1024 0 mark (Nat.zero_le _) (by have := two_le M.1; omega) (fun l hl => absurd hl (by omega))
theorem basinM_loop (M : PM n kd Hh s) {w p mr : Nat → Int32} (H : WM n kd Hh (2 ^ n) mr) : ∀ (f i : Nat), i ≤ 2 ^ n → 2 ^ n - i < f → Ret (ll5 (fX5_basin_8 s) f p w mr (nI (cnt (bs n kd Hh) i)) (nI i)) (nI (cnt (bs n kd Hh) (2 ^ n))) (fun _ => True) := by
  intro f
  have hN := two_le M.1
  induction f with
  | zero => intro i _ h; exact absurd h (by omega)
  | succ f ih =>
    intro i hi hf
    have ih := ih (i + 1)
    show Ret (fX5_basin_8 s (ll5 (fX5_basin_8 s) f) p w mr (nI (cnt (bs n kd Hh) i)) (nI i)) _ _
    generalize ll5 (fX5_basin_8 s) f = ag at ih ⊢
    unfold fX5_basin_8
    rw [lists_m M, bR_some, ite_le (by omega) (by omega)]
    by_cases c : 2 ^ n ≤ i
    · have e : i = 2 ^ n := by omega
      rw [if_pos c, e]
      exact Ret.mk trivial
    · have hw := wh_lt (kd := kd) (Hh := Hh) (show i < 2 ^ n by omega)
      have h := cnt_s (bs n kd Hh) i
      rw [if_neg c, gIn_nI (by omega) (by decide), nI_clamp (by omega), H i (by omega)]
      unfold fX5_basin_31
      by_cases d : bs n kd Hh i = true
      · rw [d] at h ⊢
        rw [if_pos rfl, if_neg (nI_neg (by omega)), nm_of, nm_of, nI_1 i]
        rw [b2_t rfl] at h
        rw [h]
        exact ih (by omega) (by omega)
      · have d : bs n kd Hh i = false := Bool.eq_false_iff.mpr d
        rw [d] at h ⊢
        rw [if_neg (show ¬ false = true by simp), if_pos (show (-1 : Int32) < 0 by decide), nm_of, nm_of, nI_1 i]
        rw [b2_f (by simp)] at h
        rw [h]
        exact ih (by omega) (by omega)
theorem op_basin (R : RA sz li to ki co te s n l kd cc Hh) (K : KV n kd Hh kn) : Both (fX4_basin sz ki te kn) (fX5_basin s pile wish mark) (fun k1 _ => KV n kd Hh k1) := by
  obtain ⟨P, M, -⟩ := R
  unfold fX4_basin fX5_basin
  refine Both.of (basin_loop P 1024 0 kn (Nat.zero_le _) (by have := two_le P.1; omega) K) (Q2 := fun _ => True) (RetV.b1 (looksWhere_r M) (fun k H => ?_)) (fun k1 k2 q1 _ => q1)
  exact basinM_loop M H.2 1024 0 (Nat.zero_le _) (by have := two_le M.1; omega)
/-- a fraction with 2^e below, in lowest terms -/
def rd : Nat → Nat → Nat × Nat
  | a, 0 => (a, 0)
  | a, e + 1 => if a % 2 = 0 then rd (a / 2) e else (a, e + 1)
theorem half_i : ∀ a, a < 257 → jlrem (lN a) 2 = lN (a % 2) ∧ lN a / 2 = lN (a / 2) ∧ jrem (nI a) 2 = nI (a % 2) ∧ nI a / 2 = nI (a / 2) := by decide +kernel
theorem pow_half (e : Nat) : 2 ^ (e + 1) / 2 = 2 ^ e := by rw [Nat.pow_succ]; omega
theorem rd_snd : ∀ (e a : Nat), (rd a e).2 ≤ e
  | 0, _ => Nat.le_refl 0
  | e + 1, a => by
    show (if a % 2 = 0 then rd (a / 2) e else (a, e + 1)).2 ≤ e + 1
    split
    · exact Nat.le_trans (rd_snd e (a / 2)) (by omega)
    · exact Nat.le_refl _
theorem rd_fst : ∀ (e a : Nat), (rd a e).1 ≤ a
  | 0, _ => Nat.le_refl _
  | e + 1, a => by
    show (if a % 2 = 0 then rd (a / 2) e else (a, e + 1)).1 ≤ a
    split
    · exact Nat.le_trans (rd_fst e (a / 2)) (Nat.div_le_self a 2)
    · exact Nat.le_refl _
theorem oddsC_red {y2 : Int32} : ∀ (e a i f : Nat), i + e ≤ 8 → e < f → a ≤ 256 → ll6 (fX4_odds_100 sz ki te) f kn fi y2 (lN a) (lN (2 ^ e)) (nI i) = fX4_odds_148 sz ki te kn fi y2 (lN (rd a e).1) (lN (2 ^ (rd a e).2)) := by
  intro e
  induction e with
  | zero =>
    intro a i f hi hf ha
    obtain ⟨g, rfl⟩ : ∃ g, f = g + 1 := ⟨f - 1, by omega⟩
    show fX4_odds_100 sz ki te (ll6 (fX4_odds_100 sz ki te) g) kn fi y2 (lN a) (lN 1) (nI i) = fX4_odds_148 sz ki te kn fi y2 (lN a) (lN 1)
    generalize ll6 (fX4_odds_100 sz ki te) g = ag
    unfold fX4_odds_100
    rw [fa_lit 8, ite_le (by decide) (by omega), if_neg (show ¬ lg_cmp (jlrem (lN 1) 2) 0 = 0 from by decide)]
    split <;> (try rfl)
    split <;> rfl
  | succ e ih =>
    intro a i f hi hf ha
    have h2 : 2 ^ (e + 1) ≤ 256 := two_le (by omega)
    obtain ⟨g, rfl⟩ : ∃ g, f = g + 1 := ⟨f - 1, by omega⟩
    have ih := ih (a / 2) (i + 1) g (by omega) (by omega) (by omega)
    show fX4_odds_100 sz ki te (ll6 (fX4_odds_100 sz ki te) g) kn fi y2 (lN a) (lN (2 ^ (e + 1))) (nI i) = _
    generalize ll6 (fX4_odds_100 sz ki te) g = ag at ih ⊢
    unfold fX4_odds_100
    obtain ⟨a1, a2, -, -⟩ := half_i a (by omega)
    obtain ⟨b1, b2, -, -⟩ := half_i (2 ^ (e + 1)) (by omega)
    have ev : 2 ^ (e + 1) % 2 = 0 := by rw [Nat.pow_succ]; omega
    rw [fa_lit 8, ite_le (by decide) (by omega), if_neg (by omega), a1, b1, a2, b2, ev, pow_half, nm_of, nm_of, nm_of, nI_1, if_pos (show lg_cmp (lN 0) 0 = 0 from by decide)]
    by_cases c : a % 2 = 0
    · rw [if_pos (by rw [lg_cmp_0, c]; rfl), ih]
      show _ = fX4_odds_148 sz ki te kn fi y2 (lN (if a % 2 = 0 then rd (a / 2) e else (a, e + 1)).1) (lN (2 ^ (if a % 2 = 0 then rd (a / 2) e else (a, e + 1)).2))
      rw [if_pos c]
    · rw [if_neg (by rw [lg_cmp_0]; intro q; exact c ((lN_eq (b := 0) (by omega) (by decide)).mp q))]
      show _ = fX4_odds_148 sz ki te kn fi y2 (lN (if a % 2 = 0 then rd (a / 2) e else (a, e + 1)).1) (lN (2 ^ (if a % 2 = 0 then rd (a / 2) e else (a, e + 1)).2))
      rw [if_neg c]
theorem oddsM_red {y2 : Int32} {p w mr : Nat → Int32} : ∀ (e a f : Nat), e ≤ 8 → e < f → a ≤ 256 → ll7 (fX5_odds_88 s) f st p w mr y2 (nI a) (nI (2 ^ e)) = fX5_odds_113 s st p w mr y2 (nI (rd a e).1) (nI (2 ^ (rd a e).2)) := by
  intro e
  induction e with
  | zero =>
    intro a f hi hf ha
    obtain ⟨g, rfl⟩ : ∃ g, f = g + 1 := ⟨f - 1, by omega⟩
    show fX5_odds_88 s (ll7 (fX5_odds_88 s) g) st p w mr y2 (nI a) (nI 1) = fX5_odds_113 s st p w mr y2 (nI a) (nI 1)
    generalize ll7 (fX5_odds_88 s) g = ag
    unfold fX5_odds_88
    rw [if_pos (show nI 1 ≤ 1 from by decide)]
    split <;> rfl
  | succ e ih =>
    intro a f hi hf ha
    have h2 : 2 ^ (e + 1) ≤ 256 := two_le (by omega)
    have h1 : 1 < 2 ^ (e + 1) := by rw [Nat.pow_succ]; have := Nat.one_le_two_pow (n := e); omega
    obtain ⟨g, rfl⟩ : ∃ g, f = g + 1 := ⟨f - 1, by omega⟩
    have ih := ih (a / 2) g (by omega) (by omega) (by omega)
    show fX5_odds_88 s (ll7 (fX5_odds_88 s) g) st p w mr y2 (nI a) (nI (2 ^ (e + 1))) = _
    generalize ll7 (fX5_odds_88 s) g = ag at ih ⊢
    unfold fX5_odds_88
    obtain ⟨-, -, a1, a2⟩ := half_i a (by omega)
    obtain ⟨-, -, b1, b2⟩ := half_i (2 ^ (e + 1)) (by omega)
    rw [a1, a2, b2, pow_half, nm_of, nm_of, fa_lit 1, ite_le (by omega) (by decide), if_neg (show ¬ 2 ^ (e + 1) ≤ 1 by omega), fa_lit 0, ite_eqN (by omega) (by decide)]
    by_cases c : a % 2 = 0
    · rw [if_pos c, ih]
      show _ = fX5_odds_113 s st p w mr y2 (nI (if a % 2 = 0 then rd (a / 2) e else (a, e + 1)).1) (nI (2 ^ (if a % 2 = 0 then rd (a / 2) e else (a, e + 1)).2))
      rw [if_pos c]
    · rw [if_neg c]
      show _ = fX5_odds_113 s st p w mr y2 (nI (if a % 2 = 0 then rd (a / 2) e else (a, e + 1)).1) (nI (2 ^ (if a % 2 = 0 then rd (a / 2) e else (a, e + 1)).2))
      rw [if_neg c]
def bo (n : Nat) (kd : Nat → Nat) (Hh : Nat → Nat → Bool) (g l : Nat) : Bool := bs n kd Hh l && (wh n kd Hh l).testBit g
/-- what odds answers -/
def oddsR (a n x : Nat) : Int64 := if x = 0 then lN (rd a n).1 else lN (2 ^ (rd a n).2)
theorem oddsC_loop (P : PC n kd Hh sz ki te) {g x : Nat} (hg : g < 8) (hx : x < 2) : ∀ (f i : Nat) (kn : Nat → Int32), i ≤ 2 ^ n → 2 ^ n - i < f → KV n kd Hh kn → Ret (ll7 (fX4_odds_43 sz ki te) f kn fi (nI g) (nI x) (lN (cnt (bo n kd Hh g) i)) (lN (2 ^ n)) (nI i)) (oddsR (cnt (bo n kd Hh g) (2 ^ n)) n x) (fun k => KV n kd Hh k.1 ∧ k.2 = fi) := by
  intro f
  have hN := two_le P.1
  have hn := P.1
  induction f with
  | zero => intro i kn _ h; exact absurd h (by omega)
  | succ f ih =>
    intro i kn hi hf K
    have ih := ih (i + 1)
    have hc := cnt_le (bo n kd Hh g) i
    show Ret (fX4_odds_43 sz ki te (ll7 (fX4_odds_43 sz ki te) f) kn fi (nI g) (nI x) (lN (cnt (bo n kd Hh g) i)) (lN (2 ^ n)) (nI i)) _ _
    generalize ll7 (fX4_odds_43 sz ki te) f = ag at ih ⊢
    unfold fX4_odds_43 fX4_odds_91
    rw [lists_p P, bR_some, ite_le (by omega) (by omega)]
    by_cases c : 2 ^ n ≤ i
    · have e : i = 2 ^ n := by omega
      subst e
      have e := oddsC_red (sz := sz) (ki := ki) (te := te) (kn := kn) (fi := fi) (y2 := nI x) n (cnt (bo n kd Hh g) (2 ^ n)) 0 1024 (by omega) (by omega) (by omega)
      have e : ll6 (fX4_odds_100 sz ki te) qF kn fi (nI x) (lN (cnt (bo n kd Hh g) (2 ^ n))) (lN (2 ^ n)) 0 = _ := e
      rw [if_pos c, e]
      unfold fX4_odds_148 oddsR
      rcases (show x = 0 ∨ x = 1 by omega) with rfl | rfl
      · rw [if_pos (show nI 0 = 0 from rfl), if_pos rfl]; exact Ret.mk ⟨K, rfl⟩
      · rw [if_neg (show ¬ nI 1 = 0 by decide), if_neg (by omega)]; exact Ret.mk ⟨K, rfl⟩
    · rw [if_neg c]
      have hw := wh_lt (kd := kd) (Hh := Hh) (show i < 2 ^ n by omega)
      refine Ret.b1 (behind_r P K (l := i) (m := 256) (by omega) (by omega)) (fun k hk => ?_)
      refine Ret.b1 (isSettled_r P hk (l := wh n kd Hh i) (by omega)) (fun k2 hk2 => ?_)
      have ih := ih k2 (by omega) (by omega) hk2
      have e : cnt (bo n kd Hh g) (i + 1) = cnt (bo n kd Hh g) i + if bo n kd Hh g i then 1 else 0 := rfl
      rw [e] at ih
      rw [ite_b2, nm_of, nm_of, nm_of, nI_1]
      unfold bo at ih
      by_cases d : Wd n kd Hh (wh n kd Hh i) = wh n kd Hh i
      · rw [if_pos d]
        rw [show bs n kd Hh i = true from decide_eq_true d, Bool.true_and] at ih
        have e2 : (jshr (nI (it (Wd n kd Hh) 256 i)) (nI g) &&& 1) = b2 ((wh n kd Hh i).testBit g = true) := shr_i (wh n kd Hh i) (by omega) g hg
        rw [e2]
        cases h : (wh n kd Hh i).testBit g with
        | false =>
          rw [h, if_neg (by simp), Nat.add_zero] at ih
          rw [b2_f (by simp), show (0 : Int32).toInt64 = lN 0 from rfl, lN_add, Nat.add_zero]
          exact ih
        | true =>
          rw [h, if_pos rfl] at ih
          rw [b2_t rfl, show (1 : Int32).toInt64 = lN 1 from rfl, lN_add]
          exact ih
      · rw [if_neg d]
        rw [show bs n kd Hh i = false from decide_eq_false d, Bool.false_and, if_neg (by simp), Nat.add_zero] at ih
        exact ih
theorem oddsM_loop (M : PM n kd Hh s) {p w mr : Nat → Int32} (H : WM n kd Hh (2 ^ n) mr) {g x : Nat} (hg : g < 8) (hx : x < 2) : ∀ (f i : Nat), i ≤ 2 ^ n → 2 ^ n - i < f → Ret (ll8 (fX5_odds_35 s) f st p w mr (nI g) (nI x) (nI (cnt (bo n kd Hh g) i)) (nI i)) (oddsR (cnt (bo n kd Hh g) (2 ^ n)) n x) (fun k => k.1 = st) := by
  intro f
  have hN := two_le M.1
  have hn := M.1
  induction f with
  | zero => intro i _ h; exact absurd h (by omega)
  | succ f ih =>
    intro i hi hf
    have ih := ih (i + 1)
    have hc := cnt_le (bo n kd Hh g) i
    show Ret (fX5_odds_35 s (ll8 (fX5_odds_35 s) f) st p w mr (nI g) (nI x) (nI (cnt (bo n kd Hh g) i)) (nI i)) _ _
    generalize ll8 (fX5_odds_35 s) f = ag at ih ⊢
    unfold fX5_odds_35
    rw [lists_m M, bR_some, ite_le (by omega) (by omega)]
    by_cases c : 2 ^ n ≤ i
    · have e : i = 2 ^ n := by omega
      subst e
      have h1 := rd_fst n (cnt (bo n kd Hh g) (2 ^ n))
      have h2 : 2 ^ (rd (cnt (bo n kd Hh g) (2 ^ n)) n).2 ≤ 256 := two_le (by have := rd_snd n (cnt (bo n kd Hh g) (2 ^ n)); omega)
      have e := oddsM_red (s := s) (st := st) (p := p) (w := w) (mr := mr) (y2 := nI x) n (cnt (bo n kd Hh g) (2 ^ n)) 1024 (by omega) (by omega) (by omega)
      have e : ll7 (fX5_odds_88 s) qF st p w mr (nI x) (nI (cnt (bo n kd Hh g) (2 ^ n))) (nI (2 ^ n)) = _ := e
      rw [if_pos c, bR_some, e]
      unfold fX5_odds_113 oddsR
      rw [nI_l (by omega), nI_l (by omega)]
      rcases (show x = 0 ∨ x = 1 by omega) with rfl | rfl
      · rw [if_pos (show nI 0 = 0 from rfl), if_pos rfl]; exact Ret.mk rfl
      · rw [if_neg (show ¬ nI 1 = 0 by decide), if_neg (by omega)]; exact Ret.mk rfl
    · have hw := wh_lt (kd := kd) (Hh := Hh) (show i < 2 ^ n by omega)
      have ih := ih (by omega) (by omega)
      have e : cnt (bo n kd Hh g) (i + 1) = cnt (bo n kd Hh g) i + if bo n kd Hh g i then 1 else 0 := rfl
      rw [e] at ih
      rw [if_neg c, gIn_nI (by omega) (by decide), gIn_nI (by omega) (by decide), nI_clamp (by omega), H i (by omega)]
      unfold fX5_odds_73 fX5_odds_74
      rw [nm_of, nm_of, nm_of, nm_of, nI_1 i]
      unfold bo at ih
      cases d : bs n kd Hh i with
      | true =>
        rw [d, Bool.true_and] at ih
        rw [if_pos rfl, if_neg (nI_neg (by omega)), hasM_i (by omega) hg, bR_some, ite_b2]
        cases h : (wh n kd Hh i).testBit g with
        | false =>
          rw [h, if_neg (by simp), Nat.add_zero] at ih
          rw [if_neg (by simp), fa_lit 0, nI_add, Nat.add_zero]
          exact ih
        | true =>
          rw [h, if_pos rfl] at ih
          rw [if_pos rfl, nI_1]
          exact ih
      | false =>
        rw [d, Bool.false_and, if_neg (by simp), Nat.add_zero] at ih
        rw [if_neg (show ¬ false = true by simp), if_pos (show (-1 : Int32) < 0 by decide), fa_lit 0, nI_add, Nat.add_zero]
        exact ih
theorem op_odds (R : RA sz li to ki co te s n l kd cc Hh) (K : KV n kd Hh kn) (F : FS fi st) (x1 x2 : Int32) : Both (fX4_odds sz ki te kn fi x1 x2) (fX5_odds s st pile wish mark x1 x2) (fun k1 k2 => KV n kd Hh k1.1 ∧ FS k1.2 k2.1) := by
  obtain ⟨P, M, -⟩ := R
  have hn := P.1
  have hN := two_le hn
  unfold fX4_odds fX5_odds fX4_odds_20 fX5_odds_18
  rw [show fX0_has sz x1 = some (b2 (0 ≤ x1.toInt ∧ x1.toInt < n), ()) from by rw [P.2.1]; exact has_g hn x1, isG_g M, bR_some, bR_some, ite_b2, ite_b2, in_32 x2 0 1 (by decide) (by decide), bR_some, ite_b2, fnd_1, fns_1, bR_some, bR_some]
  by_cases h : 0 ≤ x1.toInt ∧ x1.toInt < n
  · rw [if_pos h, if_pos h]
    obtain ⟨g, hg, rfl⟩ := i_ex (x := x1) (n := n) (by omega) h.1 h.2
    by_cases h2 : 0 ≤ x2.toInt ∧ x2.toInt ≤ 1
    · rw [if_pos h2]
      obtain ⟨x, hx, rfl⟩ := i_ex (x := x2) (n := 2) (by decide) h2.1 (by omega)
      obtain ⟨k, e, -, H⟩ := looksWhere_r (pile := pile) (wish := wish) (mark := mark) M
      rw [e, bV_some]
      obtain ⟨k2, q1, q2⟩ := oddsM_loop (st := st) (p := k.1) (w := k.2.1) M H (g := g) (x := x) (by omega) hx 1024 0 (Nat.zero_le _) (by omega)
      have q1 : ll8 (fX5_odds_35 s) qF st k.1 k.2.1 k.2.2 (nI g) (nI x) 0 0 = some (_, k2) := q1
      obtain ⟨k1, p1, p2, p3⟩ := oddsC_loop (fi := fi) P (g := g) (x := x) (by omega) hx 1024 0 kn (Nat.zero_le _) (by omega) K
      have e4 : fX4_odds_28 sz ki te kn fi (nI g) (nI x) = some (oddsR (cnt (bo n kd Hh g) (2 ^ n)) n x, k1) := by
        unfold fX4_odds_28
        rw [lists_p P, bR_some, nm_of, nI_l (by omega)]
        exact p1
      rw [q1, e4]
      have e5 : (if nI x = 0 then some (oddsR (cnt (bo n kd Hh g) (2 ^ n)) n x, k1) else (if nI x = 1 then some (oddsR (cnt (bo n kd Hh g) (2 ^ n)) n x, k1) else some ((-1000000001 : Int32).toInt64, (kn, upd fi 0 (fi 0 + 1))))) = some (oddsR (cnt (bo n kd Hh g) (2 ^ n)) n x, k1) := by
        rcases (show x = 0 ∨ x = 1 by omega) with rfl | rfl
        · exact if_pos rfl
        · rw [if_neg (show ¬ nI 1 = 0 by decide), if_pos (show nI 1 = 1 from rfl)]
      rw [e5]
      exact Both.mk ⟨p2, by rw [p3, q2]; exact F⟩
    · rw [if_neg h2, if_neg (fun e => h2 (by rw [e]; decide)), if_neg (fun e => h2 (by rw [e]; decide))]
      exact Both.mk ⟨K, F.up (by decide)⟩
  · rw [if_neg h, if_neg h]
    exact Both.mk ⟨K, F.up (by decide)⟩
end OPS3
end
section
/-! whom to get, who spoils it -/
def Both2 {α κ1 κ2 : Type} (o1 : Option (α × κ1)) (o2 : Option (α × κ2)) (T : α → Prop) (Q : κ1 → κ2 → Prop) : Prop := ∃ r k1 k2, o1 = some (r, k1) ∧ o2 = some (r, k2) ∧ T r ∧ Q k1 k2
theorem Both2.mk {α κ1 κ2 : Type} {T : α → Prop} {Q : κ1 → κ2 → Prop} {r : α} {k1 : κ1} {k2 : κ2} (t : T r) (h : Q k1 k2) : Both2 (some (r, k1)) (some (r, k2)) T Q := ⟨r, k1, k2, rfl, rfl, t, h⟩
/-- one round, some being on each list, none but some on any -/
def lst (n : Nat) (kd : Nat → Nat) (Hh : Nat → Nat → Bool) (b a l : Nat) : Nat := (Wd n kd Hh l &&& a) ||| b
def lastN (n : Nat) (kd : Nat → Nat) (Hh : Nat → Nat → Bool) (b a : Nat) : Nat := it (lst n kd Hh b a) 64 b
theorem it_congr {f g : Nat → Nat} (h : ∀ l, f l = g l) : ∀ k l, it f k l = it g k l
  | 0, _ => rfl
  | k + 1, l => by show it f k (f l) = it g k (g l); rw [h l]; exact it_congr h k (g l)
section OPS4
variable {sz li to : Int32} {ki co : Nat → Int32} {te : Nat → Int64} {s kn fi st pile wish mark : Nat → Int32} {n l : Nat} {kd cc : Nat → Nat} {Hh : Nat → Nat → Bool}
theorem lst_lt {b a : Nat} (hb : b < 2 ^ n) (l : Nat) : lst n kd Hh b a l < 2 ^ n := Nat.or_lt_two_pow (Nat.lt_of_le_of_lt Nat.and_le_left (Wd_lt n kd Hh l)) hb
theorem lastN_lt {b a : Nat} (hb : b < 2 ^ n) : lastN n kd Hh b a < 2 ^ n := it_lt (lst_lt hb) hb 64
theorem lastOf_loop (P : PC n kd Hh sz ki te) {b a : Nat} (hb : b < 2 ^ n) : ∀ (f i y : Nat) (z : Int32) (kn : Nat → Int32), i ≤ 64 → 64 - i < f → y < 2 ^ n → (z = -1 ∨ ∃ z', z' < 2 ^ n ∧ z = nI z' ∧ lst n kd Hh b a z' = y) → KV n kd Hh kn → Ret (ll6 (fX0_lastOf_8 sz ki te) f kn (nI b) (nI a) (nI y) z (nI i)) (nI (it (lst n kd Hh b a) (64 - i) y)) (KV n kd Hh) := by
  intro f
  have hN := two_le P.1
  induction f with
  | zero => intro i y z kn _ h; exact absurd h (by omega)
  | succ f ih =>
    intro i y z kn hi hf hy hz K
    have ih := ih (i + 1)
    show Ret (fX0_lastOf_8 sz ki te (ll6 (fX0_lastOf_8 sz ki te) f) kn (nI b) (nI a) (nI y) z (nI i)) _ _
    generalize ll6 (fX0_lastOf_8 sz ki te) f = ag at ih ⊢
    unfold fX0_lastOf_8
    rw [fa_lit 64, ite_le (by decide) (by omega)]
    by_cases c : 64 ≤ i
    · rw [if_pos c, show 64 - i = 0 by omega]
      exact Ret.mk K
    · rw [if_neg c]
      by_cases d : nI y = z
      · rw [if_pos d]
        rcases hz with q | ⟨z', q1, q2, q3⟩
        · rw [q] at d; exact absurd d (nI_m1 (by omega))
        · rw [q2] at d
          have e := (nI_eq (by omega) (by omega)).mp d
          subst e
          rw [it_fix q3]
          exact Ret.mk K
      · rw [if_neg d]
        refine Ret.b1 (comers_r P K (l := y) (by omega)) (fun k hk => ?_)
        rw [nm_of, nm_of, nI_1, fa_and, fa_or, show 64 - i = 64 - (i + 1) + 1 by omega]
        exact ih (lst n kd Hh b a y) (nI y) k (by omega) (by omega) (lst_lt hb y) (Or.inr ⟨y, hy, rfl, rfl⟩) hk
theorem lastOf_r (P : PC n kd Hh sz ki te) (K : KV n kd Hh kn) {b a : Nat} (hb : b < 2 ^ n) : Ret (fX0_lastOf sz ki te kn (nI b) (nI a)) (nI (lastN n kd Hh b a)) (KV n kd Hh) := lastOf_loop P hb 1024 0 b (-1) kn (by omega) (by omega) hb (Or.inl rfl) K
theorem lastOfM_loop (hn : n ≤ 8) {w : Nat → Int32} (V : WV n kd Hh w) {b a : Nat} (hb : b < 2 ^ n) : ∀ (f i y : Nat), i ≤ 64 → 64 - i < f → y < 2 ^ n → ll4 (fX5_lastOf_5 w) f (nI b) (nI a) (nI y) (nI i) = some (nI (it (lst n kd Hh b a) (64 - i) y), ()) := by
  intro f
  have hN := two_le hn
  induction f with
  | zero => intro i y _ h; exact absurd h (by omega)
  | succ f ih =>
    intro i y hi hf hy
    have ih := ih (i + 1)
    show fX5_lastOf_5 w (ll4 (fX5_lastOf_5 w) f) (nI b) (nI a) (nI y) (nI i) = _
    generalize ll4 (fX5_lastOf_5 w) f = ag at ih ⊢
    unfold fX5_lastOf_5
    rw [fa_lit 64, ite_le (by decide) (by omega)]
    by_cases c : 64 ≤ i
    · rw [if_pos c, show 64 - i = 0 by omega]; rfl
    · rw [if_neg c, gIn_nI (by omega) (by decide), nI_clamp (by omega), V y hy, nm_of, nm_of, nI_1, fa_and, fa_or, show 64 - i = 64 - (i + 1) + 1 by omega]
      exact ih (lst n kd Hh b a y) (by omega) (by omega) (lst_lt hb y)
theorem lastOfM_eq (hn : n ≤ 8) {w : Nat → Int32} (V : WV n kd Hh w) {b a : Nat} (hb : b < 2 ^ n) : fX5_lastOf w (nI b) (nI a) = some (nI (lastN n kd Hh b a), ()) := lastOfM_loop hn V hb 1024 0 b (by omega) (by omega) hb
theorem and_n {x : Nat} (h : x < 2 ^ n) : x &&& (2 ^ n - 1) = x := by rw [Nat.and_two_pow_sub_one_eq_mod]; exact Nat.mod_eq_of_lt h
theorem lastN_255 (hn : n ≤ 8) (b : Nat) : lastN n kd Hh b 255 = lastN n kd Hh b (2 ^ n - 1) := by
  unfold lastN
  apply it_congr
  intro l
  unfold lst
  rw [and_n (Wd_lt n kd Hh l), and255 (Wd_256 hn kd Hh l)]
theorem lastE_eq (hn : n ≤ 8) {w : Nat → Int32} (V : WV n kd Hh w) {b : Nat} (hb : b < 2 ^ n) : fX5_lastOf w (nI b) 255 = some (nI (lastN n kd Hh b (2 ^ n - 1)), ()) := by
  rw [fa_lit 255, lastOfM_eq hn V hb, lastN_255 hn]
theorem op_last (R : RA sz li to ki co te s n l kd cc Hh) (K : KV n kd Hh kn) (F : FS fi st) (x1 : Int32) : Both (fX4_last sz ki te kn fi x1) (fX5_last s st pile wish x1) (fun k1 k2 => KV n kd Hh k1.1 ∧ FS k1.2 k2.1) := by
  obtain ⟨P, M, -⟩ := R
  have hn := P.1
  have hN := two_le hn
  unfold fX4_last fX5_last
  rw [show fX0_isSet sz x1 = some (b2 (0 ≤ x1.toInt ∧ x1.toInt < (2 ^ n : Nat)), ()) from by rw [P.2.1]; exact isSet_g hn x1, isList_g M, bR_some, bR_some, ite_b2, ite_b2, fnd_1, fns_1, bR_some, bR_some]
  by_cases h : 0 ≤ x1.toInt ∧ x1.toInt < (2 ^ n : Nat)
  · rw [if_pos h, if_pos h]
    obtain ⟨v, hv, rfl⟩ := i_ex (x := x1) (n := 2 ^ n) (by omega) h.1 h.2
    obtain ⟨k, e, V⟩ := looksAll_r M pile wish
    obtain ⟨k1, q1, q2⟩ := lastOf_r P K (b := v) (a := 2 ^ n - 1) hv
    rw [e, bV_some, lastE_eq hn V hv, bR_some, every_p P, bR_some, q1, bR_some]
    exact Both.mk ⟨q2, F⟩
  · rw [if_neg h, if_neg h]
    exact Both.mk ⟨K, F.up (by decide)⟩
theorem i_sub {x y : Int32} (h1 : -2147483648 ≤ x.toInt - y.toInt) (h2 : x.toInt - y.toInt ≤ 2147483647) : (x - y).toInt = x.toInt - y.toInt := by
  rw [Int32.toInt_sub, Int.bmod_eq_of_le (by omega) (by omega)]
theorem sub_i {a b : Nat} (ha : a < 2 ^ 30) (hb : b < 2 ^ 30) : (nI a - nI b).toInt = (a : Int) - b := by
  rw [i_sub (by rw [nI_toInt (by omega), nI_toInt (by omega)]; omega) (by rw [nI_toInt (by omega), nI_toInt (by omega)]; omega), nI_toInt (by omega), nI_toInt (by omega)]
/-- one set is better bought than another -/
def chp (cc : Nat → Nat) (n i b : Nat) : Prop := csum cc i n < csum cc b n ∨ (csum cc i n = csum cc b n ∧ pop i < pop b)
theorem isCheaper_eq (hn : n ≤ 8) (hc : ∀ g, g < n → cc g < 100 ∧ co g = nI (cc g)) {i b : Nat} (hi : i < 256) (hb : b < 256) : (chp cc n i b → fX4_isCheaper (nI n) co (nI i) (nI b) = some (1, ())) ∧ (¬ chp cc n i b → fX4_isCheaper (nI n) co (nI i) (nI b) = some (0, ())) := by
  have h1 := csum_le (co := cc) (l := i) (n := n) (fun g hg => (hc g hg).1)
  have h2 := csum_le (co := cc) (l := b) (n := n) (fun g hg => (hc g hg).1)
  have p1 := pop_le i
  have p2 := pop_le b
  unfold fX4_isCheaper chp
  rw [costsOf_eq hn hc hi, costsOf_eq hn hc hb, bR_some, bR_some, pop_i i hi, pop_i b hb, bR_some, bR_some, ite_lt (by omega) (by omega), ite_eqN (by omega) (by omega), ite_le (by omega) (by omega)]
  constructor
  · intro h
    by_cases c : csum cc i n < csum cc b n
    · rw [if_pos c]
    · rw [if_neg c, if_pos (by omega), if_neg (by omega)]
  · intro h
    rw [if_neg (by omega)]
    by_cases c : csum cc i n = csum cc b n
    · rw [if_pos c, if_pos (by omega)]
    · rw [if_neg c]
theorem buy_loop (R : RA sz li to ki co te s n l kd cc Hh) {w p : Nat → Int32} (V : WV n kd Hh w) {m : Nat} (hm : m ≤ 8) : ∀ (f i : Nat) (y : Int32) (kn : Nat → Int32), i ≤ 2 ^ n → 2 ^ n - i < f → (y = -1 ∨ ∃ b, b < 2 ^ n ∧ y = nI b) → KV n kd Hh kn → Both2 (ll4 (fX4_cheapestFor_4 sz ki co te) f kn (nI m) y (nI i)) (ll5 (fX5_bestBuy_8 s) f p w (nI m) y (nI i)) (fun r => r = -1 ∨ ∃ b, b < 2 ^ n ∧ r = nI b) (fun k1 _ => KV n kd Hh k1) := by
  intro f
  have cM := R.cM
  have cC := R.cC
  obtain ⟨P, M, -⟩ := R
  have hn := P.1
  have hN := two_le hn
  have hsz := P.2.1
  subst hsz
  induction f with
  | zero => intro i y kn _ h; exact absurd h (by omega)
  | succ f ih =>
    intro i y kn hi hf hy K
    have ih := ih (i + 1)
    show Both2 (fX4_cheapestFor_4 (nI n) ki co te (ll4 (fX4_cheapestFor_4 (nI n) ki co te) f) kn (nI m) y (nI i)) (fX5_bestBuy_8 s (ll5 (fX5_bestBuy_8 s) f) p w (nI m) y (nI i)) _ _
    generalize ll4 (fX4_cheapestFor_4 (nI n) ki co te) f = ag1 at ih ⊢
    generalize ll5 (fX5_bestBuy_8 s) f = ag2 at ih ⊢
    unfold fX4_cheapestFor_4 fX5_bestBuy_8
    rw [lists_c hn, lists_m M, bR_some, bR_some, ite_le (by omega) (by omega), ite_le (by omega) (by omega)]
    by_cases c : 2 ^ n ≤ i
    · rw [if_pos c, if_pos c]
      exact Both2.mk hy K
    · have hi2 : i < 2 ^ n := by omega
      have hL := lastN_lt (kd := kd) (Hh := Hh) (a := 2 ^ n - 1) hi2
      have hp := pop_le (lastN n kd Hh i (2 ^ n - 1))
      rw [if_neg c, if_neg c, lastE_eq hn V hi2, bR_some, ones_i _ (by omega), bR_some, ite_lt (by omega) (by omega)]
      unfold fX4_cheapestFor_28 fX4_cheapestFor_33 fX4_cheapestFor_64 fX5_bestBuy_79
      rw [if_neg (show ¬ (1 : Int32) = 0 by decide), if_pos (show (0 : Int32) = 0 from rfl), nm_of, nm_of, nI_1, everyone_c hn, bR_some]
      obtain ⟨k1, q1, q2⟩ := lastOf_r P K (b := i) (a := 2 ^ n - 1) hi2
      rw [q1, bR_some, pop_i _ (by omega), bR_some, ite_lt (by omega) (by omega), nm_of, nm_of]
      have e78 : ∀ y', fX5_bestBuy_78 s ag2 p w y' (nI m) (nI i) = ag2 p w (nI m) y' (nI (i + 1)) := by
        intro y'; unfold fX5_bestBuy_78 fX5_bestBuy_79; rw [nm_of, nI_1]
      have e73 : fX5_bestBuy_73 s ag2 p w (nI m) (nI i) = ag2 p w (nI m) (nI i) (nI (i + 1)) := by unfold fX5_bestBuy_73; exact e78 _
      have e77 : ∀ y', fX5_bestBuy_77 s ag2 p w (nI m) y' (nI i) = ag2 p w (nI m) y' (nI (i + 1)) := by intro y'; unfold fX5_bestBuy_77; exact e78 _
      by_cases d : pop (lastN n kd Hh i (2 ^ n - 1)) < m
      · rw [if_pos d, if_pos d]
        rcases hy with rfl | ⟨b, hb, rfl⟩
        · rw [if_pos (show (-1 : Int32) < 0 by decide)]
          exact ih _ k1 (by omega) (by omega) (Or.inl rfl) q2
        · rw [if_neg (nI_neg (by omega))]
          by_cases z : chp cc n i b
          · rw [(isCheaper_eq hn cC (by omega) (by omega)).1 z, bR_some, if_neg (show ¬ (1 : Int32) = 0 by decide)]
            exact ih _ k1 (by omega) (by omega) (Or.inr ⟨b, hb, rfl⟩) q2
          · rw [(isCheaper_eq hn cC (by omega) (by omega)).2 z, bR_some, if_pos (show (0 : Int32) = 0 from rfl)]
            exact ih _ kn (by omega) (by omega) (Or.inr ⟨b, hb, rfl⟩) K
      · rw [if_neg d, if_neg d]
        unfold fX5_bestBuy_50
        rcases hy with rfl | ⟨b, hb, rfl⟩
        · rw [if_pos (show (-1 : Int32) < 0 by decide), if_neg (show ¬ (0 : Int32) ≤ -1 by decide), e73]
          exact ih _ k1 (by omega) (by omega) (Or.inr ⟨i, hi2, rfl⟩) q2
        · have h1 := csum_le (co := cc) (l := i) (n := n) (fun g hg => (cC g hg).1)
          have h2 := csum_le (co := cc) (l := b) (n := n) (fun g hg => (cC g hg).1)
          have p1 := pop_le i
          have p2 := pop_le b
          have hs := sub_i (a := csum cc i n) (b := csum cc b n) (by omega) (by omega)
          have e0 : (0 : Int32).toInt = 0 := by decide
          rw [if_neg (nI_neg (by omega)), if_pos (nI_0le (by omega)), costOf_eq hn M.2.1 cM (by omega), costOf_eq hn M.2.1 cM (by omega), bR_some, bR_some, ones_i i (by omega), ones_i b (by omega), bR_some, bR_some, e73, e77, ite_le (by omega) (by omega)]
          by_cases z : chp cc n i b
          · rw [(isCheaper_eq hn cC (by omega) (by omega)).1 z, bR_some, if_neg (show ¬ (1 : Int32) = 0 by decide)]
            unfold chp at z
            by_cases z1 : csum cc i n < csum cc b n
            · rw [if_pos (show nI (csum cc i n) - nI (csum cc b n) < 0 by rw [Int32.lt_iff_toInt_lt, hs]; omega)]
              exact ih _ k1 (by omega) (by omega) (Or.inr ⟨i, hi2, rfl⟩) q2
            · rw [if_neg (show ¬ nI (csum cc i n) - nI (csum cc b n) < 0 by rw [Int32.lt_iff_toInt_lt, hs]; omega), if_pos (show nI (csum cc i n) - nI (csum cc b n) = 0 by rw [← Int32.toInt_inj, hs]; omega), if_neg (by omega)]
              exact ih _ k1 (by omega) (by omega) (Or.inr ⟨i, hi2, rfl⟩) q2
          · rw [(isCheaper_eq hn cC (by omega) (by omega)).2 z, bR_some, if_pos (show (0 : Int32) = 0 from rfl)]
            unfold chp at z
            rw [if_neg (show ¬ nI (csum cc i n) - nI (csum cc b n) < 0 by rw [Int32.lt_iff_toInt_lt, hs]; omega)]
            by_cases z1 : csum cc i n = csum cc b n
            · rw [if_pos (show nI (csum cc i n) - nI (csum cc b n) = 0 by rw [← Int32.toInt_inj, hs]; omega), if_pos (by omega)]
              exact ih _ kn (by omega) (by omega) (Or.inr ⟨b, hb, rfl⟩) K
            · rw [if_neg (show ¬ nI (csum cc i n) - nI (csum cc b n) = 0 by rw [← Int32.toInt_inj, hs]; omega)]
              exact ih _ kn (by omega) (by omega) (Or.inr ⟨b, hb, rfl⟩) K
theorem buy_r (R : RA sz li to ki co te s n l kd cc Hh) (K : KV n kd Hh kn) {m : Nat} (hm : m ≤ 8) : Both2 (fX4_cheapestFor sz ki co te kn (nI m)) (fX5_bestBuy s pile wish (nI m)) (fun r => r = -1 ∨ ∃ b, b < 2 ^ n ∧ r = nI b) (fun k1 _ => KV n kd Hh k1) := by
  unfold fX5_bestBuy
  obtain ⟨k, e, V⟩ := looksAll_r R.2.1 pile wish
  rw [e, bV_some]
  exact buy_loop R V hm 1024 0 (-1) kn (Nat.zero_le _) (by have := two_le R.1.1; omega) (Or.inl rfl) K
theorem orNone_neg : fX5_orNone st (-1) = some (-1000000004, upd st 3 (st 3 + 1)) := by
  unfold fX5_orNone
  rw [if_neg (show ¬ (0 : Int32) ≤ -1 by decide), fns_4, bR_some]
theorem orNone_nI {b : Nat} (hb : b < 2 ^ 31) : fX5_orNone st (nI b) = some (nI b, st) := by
  unfold fX5_orNone
  rw [if_pos (nI_0le hb)]
theorem op_buys (R : RA sz li to ki co te s n l kd cc Hh) (K : KV n kd Hh kn) (F : FS fi st) (x1 : Int32) : Both (fX4_buys sz ki co te kn fi x1) (fX5_buys s st pile wish x1) (fun k1 k2 => KV n kd Hh k1.1 ∧ FS k1.2 k2.1) := by
  have hN := two_le R.1.1
  unfold fX4_buys fX5_buys fX4_buys_10
  have e0 : (0 : Int32).toInt = 0 := by decide
  have e8 : (8 : Int32).toInt = 8 := by decide
  rw [in_32 x1 0 8 (by decide) (by decide), bR_some, ite_b2, fnd_1, fns_1, bR_some, bR_some]
  by_cases h : 0 ≤ x1.toInt ∧ x1.toInt ≤ 8
  · rw [if_pos h, if_neg (show ¬ x1 < 0 by rw [Int32.lt_iff_toInt_lt]; omega), if_pos (show x1 ≤ 8 by rw [Int32.le_iff_toInt_le]; omega)]
    obtain ⟨m, hm, rfl⟩ := i_ex (x := x1) (n := 9) (by decide) h.1 (by omega)
    obtain ⟨r, k1, k2, q1, q2, t, q3⟩ := buy_r (pile := pile) (wish := wish) R K (m := m) (by omega)
    rw [q1, q2, bR_some, bR_some]
    rcases t with rfl | ⟨b, hb, rfl⟩
    · rw [orNone_neg, bR_some, if_neg (show ¬ (0 : Int32) ≤ -1 by decide), fnd_4, bR_some]
      exact Both.mk ⟨q3, F.up (by decide)⟩
    · rw [orNone_nI (by omega), bR_some, if_pos (nI_0le (by omega))]
      exact Both.mk ⟨q3, F⟩
  · rw [if_neg h]
    by_cases h1 : x1 < 0
    · rw [if_pos h1]; exact Both.mk ⟨K, F.up (by decide)⟩
    · rw [if_neg h1, if_neg (show ¬ x1 ≤ 8 by rw [Int32.lt_iff_toInt_lt] at h1; rw [Int32.le_iff_toInt_le]; omega)]
      exact Both.mk ⟨K, F.up (by decide)⟩
theorem op_price (R : RA sz li to ki co te s n l kd cc Hh) (K : KV n kd Hh kn) (F : FS fi st) (x1 : Int32) : Both (fX4_price sz ki co te kn fi x1) (fX5_price s st pile wish x1) (fun k1 k2 => KV n kd Hh k1.1 ∧ FS k1.2 k2.1) := by
  have hN := two_le R.1.1
  unfold fX4_price fX5_price fX4_price_10
  have e0 : (0 : Int32).toInt = 0 := by decide
  have e8 : (8 : Int32).toInt = 8 := by decide
  rw [in_32 x1 0 8 (by decide) (by decide), bR_some, ite_b2, fnd_1, fns_1, bR_some, bR_some]
  by_cases h : 0 ≤ x1.toInt ∧ x1.toInt ≤ 8
  · rw [if_pos h, if_neg (show ¬ x1 < 0 by rw [Int32.lt_iff_toInt_lt]; omega), if_pos (show x1 ≤ 8 by rw [Int32.le_iff_toInt_le]; omega)]
    obtain ⟨m, hm, rfl⟩ := i_ex (x := x1) (n := 9) (by decide) h.1 (by omega)
    obtain ⟨r, k1, k2, q1, q2, t, q3⟩ := buy_r (pile := pile) (wish := wish) R K (m := m) (by omega)
    rw [q1, q2, bR_some, bR_some, fnd_4, fns_4, bR_some, bR_some]
    rcases t with rfl | ⟨b, hb, rfl⟩
    · rw [if_neg (show ¬ (0 : Int32) ≤ -1 by decide), if_neg (show ¬ (0 : Int32) ≤ -1 by decide)]
      exact Both.mk ⟨q3, F.up (by decide)⟩
    · rw [if_pos (nI_0le (by omega)), if_pos (nI_0le (by omega)), costOf_eq R.1.1 R.2.1.2.1 R.cM (by omega), show fX0_costsOf sz co (nI b) = some (nI (csum cc b n), ()) from by rw [R.1.2.1]; exact costsOf_eq R.1.1 R.cC (by omega), bR_some, bR_some]
      exact Both.mk ⟨q3, F⟩
  · rw [if_neg h]
    by_cases h1 : x1 < 0
    · rw [if_pos h1]; exact Both.mk ⟨K, F.up (by decide)⟩
    · rw [if_neg h1, if_neg (show ¬ x1 ≤ 8 by rw [Int32.lt_iff_toInt_lt] at h1; rw [Int32.le_iff_toInt_le]; omega)]
      exact Both.mk ⟨K, F.up (by decide)⟩
theorem lastN_clr (hn : n ≤ 8) (g : Nat) : lastN n kd Hh 0 (clr 255 g) = lastN n kd Hh 0 (clr (2 ^ n - 1) g) := by
  unfold lastN
  apply it_congr
  intro l
  unfold lst clr
  rw [← Nat.and_assoc, ← Nat.and_assoc, and_n (Wd_lt n kd Hh l), and255 (Wd_256 hn kd Hh l)]
theorem spoils_loop (P : PC n kd Hh sz ki te) (M : PM n kd Hh s) {w p : Nat → Int32} (V : WV n kd Hh w) (F : FS fi st) : ∀ (f i : Nat) (y z : Int32) (kn : Nat → Int32), i ≤ n → n - i < f → (y = -1 ∨ ∃ b, b < 8 ∧ y = nI b) → KV n kd Hh kn → Both (ll5 (fX4_spoils_7 sz ki te) f kn fi y z (nI i)) (ll6 (fX5_spoils_11 s) f st p w y z (nI i)) (fun k1 k2 => KV n kd Hh k1.1 ∧ FS k1.2 k2.1) := by
  intro f
  have hn := P.1
  have hN := two_le hn
  have h0 : 0 < 2 ^ n := Nat.one_le_two_pow
  have hsz := P.2.1
  subst hsz
  induction f with
  | zero => intro i y z kn _ h; exact absurd h (by omega)
  | succ f ih =>
    intro i y z kn hi hf hy K
    have ih := ih (i + 1)
    show Both (fX4_spoils_7 (nI n) ki te (ll5 (fX4_spoils_7 (nI n) ki te) f) kn fi y z (nI i)) (fX5_spoils_11 s (ll6 (fX5_spoils_11 s) f) st p w y z (nI i)) _
    generalize ll5 (fX4_spoils_7 (nI n) ki te) f = ag1 at ih ⊢
    generalize ll6 (fX5_spoils_11 s) f = ag2 at ih ⊢
    unfold fX4_spoils_7 fX5_spoils_11
    rw [M.2.1, ite_le (by omega) (by omega), ite_le (by omega) (by omega)]
    by_cases c : n ≤ i
    · rw [if_pos c, if_pos c]
      rcases hy with rfl | ⟨b, hb, rfl⟩
      · rw [orNone_neg, bR_some, if_neg (show ¬ (0 : Int32) ≤ -1 by decide), fnd_4, bR_some]
        exact Both.mk ⟨K, F.up (by decide)⟩
      · rw [orNone_nI (by omega), bR_some, if_pos (nI_0le (by omega))]
        exact Both.mk ⟨K, F⟩
    · have hL := lastN_lt (kd := kd) (Hh := Hh) (a := clr (2 ^ n - 1) i) h0
      have e255 : (255 : Int32) &&& (jshl 1 (nI i) ^^^ (-1)) = nI (clr 255 i) := clr_i (l := 255) (by decide) (by omega)
      rw [if_neg c, if_neg c, everyone_c hn, bR_some, clr_i (by omega) (by omega), e255, fa_lit 0, lastOfM_eq hn V h0, lastN_clr hn, bR_some, ones_i _ (by omega), bR_some]
      obtain ⟨k1, q1, q2⟩ := lastOf_r P K (b := 0) (a := clr (2 ^ n - 1) i) h0
      rw [q1, bR_some, pop_i _ (by omega), bR_some]
      unfold fX4_spoils_55 fX5_spoils_51 fX5_spoils_64
      rw [nm_of, nm_of, nm_of, nm_of, nI_1]
      by_cases d : z ≤ nI (pop (lastN n kd Hh 0 (clr (2 ^ n - 1) i)))
      · rw [if_pos d, if_pos d, if_pos d]
        exact ih y z k1 (by omega) (by omega) hy q2
      · rw [if_neg d, if_neg d, if_neg d]
        exact ih _ _ k1 (by omega) (by omega) (Or.inr ⟨i, by omega, rfl⟩) q2
theorem op_spoils (R : RA sz li to ki co te s n l kd cc Hh) (K : KV n kd Hh kn) (F : FS fi st) : Both (fX4_spoils sz ki te kn fi) (fX5_spoils s st pile wish) (fun k1 k2 => KV n kd Hh k1.1 ∧ FS k1.2 k2.1) := by
  unfold fX4_spoils fX5_spoils
  obtain ⟨k, e, V⟩ := looksAll_r R.2.1 pile wish
  rw [e, bV_some]
  exact spoils_loop R.1 R.2.1 V F 1024 0 (-1) 9 kn (Nat.zero_le _) (by have := R.1.1; omega) (Or.inl rfl) K
end OPS4
end
section
section OPS5
variable {sz li to : Int32} {ki co : Nat → Int32} {te : Nat → Int64} {s kn fi st pile wish mark : Nat → Int32} {n l : Nat} {kd cc : Nat → Nat} {Hh : Nat → Nat → Bool}
/-- who is asked makes it well -/
def wel (n : Nat) (kd : Nat → Nat) (Hh : Nat → Nat → Bool) (a b i : Nat) : Bool := decide (a ≤ pop (lastN n kd Hh 0 i)) && decide (pop (lastN n kd Hh 0 i) ≤ b) && decide (Wd n kd Hh (lastN n kd Hh 0 i) &&& i = lastN n kd Hh 0 i)
theorem isWellAsked_r (P : PC n kd Hh sz ki te) (K : KV n kd Hh kn) {a b i : Nat} (ha : a < 2 ^ 31) (hb : b < 2 ^ 31) : Ret (fX4_isWellAsked sz ki te kn (nI i) (nI a) (nI b)) (b2 (wel n kd Hh a b i = true)) (KV n kd Hh) := by
  have hN := two_le P.1
  have h0 : 0 < 2 ^ n := Nat.one_le_two_pow
  have hL := lastN_lt (kd := kd) (Hh := Hh) (a := i) h0
  have hp := pop_le (lastN n kd Hh 0 i)
  have hW := Wd_256 P.1 kd Hh (lastN n kd Hh 0 i)
  have hA : Wd n kd Hh (lastN n kd Hh 0 i) &&& i < 256 := and_256 _ hW
  unfold fX4_isWellAsked
  rw [show (0 : Int32) = nI 0 from rfl]
  refine Ret.b1 (lastOf_r P K h0) (fun k hk => ?_)
  rw [pop_i _ (by omega), bR_some, ite_lt (by omega) (by omega), ite_lt (by omega) (by omega)]
  unfold wel
  by_cases c : pop (lastN n kd Hh 0 i) < a
  · rw [if_pos c, b2_f (by simp; omega)]; exact Ret.mk hk
  · rw [if_neg c]
    by_cases d : b < pop (lastN n kd Hh 0 i)
    · rw [if_pos d, b2_f (by simp; omega)]; exact Ret.mk hk
    · rw [if_neg d]
      refine Ret.b1 (comers_r P hk (l := lastN n kd Hh 0 i) (by omega)) (fun k2 hk2 => ?_)
      rw [fa_and, ite_eqN (by omega) (by omega)]
      by_cases e : Wd n kd Hh (lastN n kd Hh 0 i) &&& i = lastN n kd Hh 0 i
      · rw [if_pos e, b2_t (by simp [e]; omega)]; exact Ret.mk hk2
      · rw [if_neg e, b2_f (by simp [e])]; exact Ret.mk hk2
theorem invites_loop (P : PC n kd Hh sz ki te) (M : PM n kd Hh s) {w p : Nat → Int32} (V : WV n kd Hh w) (F : FS fi st) {a b : Nat} (ha : a ≤ 8) (hb : b ≤ 8) : ∀ (f i : Nat) (y : Int32) (kn : Nat → Int32), i ≤ 2 ^ n → 2 ^ n - i < f → (y = -1 ∨ ∃ b, b < 2 ^ n ∧ y = nI b) → KV n kd Hh kn → Both (ll6 (fX4_invites_27 sz ki te) f kn fi (nI a) (nI b) y (nI i)) (ll7 (fX5_invites_45 s) f st p w (nI a) (nI b) y (nI i)) (fun k1 k2 => KV n kd Hh k1.1 ∧ FS k1.2 k2.1) := by
  intro f
  have hn := P.1
  have hN := two_le hn
  have h0 : 0 < 2 ^ n := Nat.one_le_two_pow
  induction f with
  | zero => intro i y kn _ h; exact absurd h (by omega)
  | succ f ih =>
    intro i y kn hi hf hy K
    have ih := ih (i + 1)
    show Both (fX4_invites_27 sz ki te (ll6 (fX4_invites_27 sz ki te) f) kn fi (nI a) (nI b) y (nI i)) (fX5_invites_45 s (ll7 (fX5_invites_45 s) f) st p w (nI a) (nI b) y (nI i)) _
    generalize ll6 (fX4_invites_27 sz ki te) f = ag1 at ih ⊢
    generalize ll7 (fX5_invites_45 s) f = ag2 at ih ⊢
    unfold fX4_invites_27 fX5_invites_45
    rw [lists_p P, lists_m M, bR_some, bR_some, ite_le (by omega) (by omega), ite_le (by omega) (by omega)]
    by_cases c : 2 ^ n ≤ i
    · rw [if_pos c, if_pos c]
      rcases hy with rfl | ⟨b, hb, rfl⟩
      · rw [orNone_neg, bR_some, if_neg (show ¬ (0 : Int32) ≤ -1 by decide), fnd_4, bR_some]
        exact Both.mk ⟨K, F.up (by decide)⟩
      · rw [orNone_nI (by omega), bR_some, if_pos (nI_0le (by omega))]
        exact Both.mk ⟨K, F⟩
    · have hi2 : i < 2 ^ n := by omega
      have hL := lastN_lt (kd := kd) (Hh := Hh) (a := i) h0
      have hp := pop_le (lastN n kd Hh 0 i)
      have hW := Wd_256 hn kd Hh (lastN n kd Hh 0 i)
      have hA : Wd n kd Hh (lastN n kd Hh 0 i) &&& i < 256 := and_256 _ hW
      have p1 := pop_le i
      rw [if_neg c, if_neg c, show fX5_lastOf w 0 (nI i) = some (nI (lastN n kd Hh 0 i), ()) from lastOfM_eq hn V h0, bR_some, ones_i _ (by omega), bR_some, in_b2, i64_toInt, i64_toInt, i64_toInt, nI_toInt (by omega), nI_toInt (by omega), nI_toInt (by omega), bR_some, ite_b2, gIn_nI (by omega) (by decide), nI_clamp (by omega), V _ hL, fa_and, ite_eqN (by omega) (by omega)]
      have e128 : ∀ y', fX5_invites_128 s ag2 st p w y' (nI a) (nI b) (nI i) = ag2 st p w (nI a) (nI b) y' (nI (i + 1)) := by
        intro y'; unfold fX5_invites_128; rw [nm_of, nI_1]
      have em : (if ((a : Nat) : Int) ≤ (pop (lastN n kd Hh 0 i) : Nat) ∧ ((pop (lastN n kd Hh 0 i) : Nat) : Int) ≤ (b : Nat) then (if Wd n kd Hh (lastN n kd Hh 0 i) &&& i = lastN n kd Hh 0 i then fX5_invites_99 s ag2 st p w 1 (nI a) (nI b) y (nI i) else fX5_invites_98 s ag2 st p w (nI a) (nI b) y (nI i)) else fX5_invites_98 s ag2 st p w (nI a) (nI b) y (nI i)) = if wel n kd Hh a b i = true then fX5_invites_99 s ag2 st p w 1 (nI a) (nI b) y (nI i) else ag2 st p w (nI a) (nI b) y (nI (i + 1)) := by
        have e98 : fX5_invites_98 s ag2 st p w (nI a) (nI b) y (nI i) = ag2 st p w (nI a) (nI b) y (nI (i + 1)) := by
          unfold fX5_invites_98 fX5_invites_99 fX5_invites_127
          rw [if_pos (show (0 : Int32) = 0 from rfl), e128]
        rw [e98]
        by_cases z : wel n kd Hh a b i = true
        · rw [if_pos z]
          unfold wel at z
          simp only [Bool.and_eq_true, decide_eq_true_eq] at z
          rw [if_pos (by omega), if_pos z.2]
        · rw [if_neg z]
          unfold wel at z
          simp only [Bool.and_eq_true, decide_eq_true_eq] at z
          by_cases z1 : ((a : Nat) : Int) ≤ (pop (lastN n kd Hh 0 i) : Nat) ∧ ((pop (lastN n kd Hh 0 i) : Nat) : Int) ≤ (b : Nat)
          · rw [if_pos z1, if_neg (fun q => z ⟨⟨by omega, by omega⟩, q⟩)]
          · rw [if_neg z1]
      rw [em]
      obtain ⟨k1, q1, q2⟩ := isWellAsked_r P K (a := a) (b := b) (i := i) (by omega) (by omega)
      have e81 : ∀ k y', fX4_invites_81 sz ki te ag1 k fi (nI a) (nI b) y' (nI i) = ag1 k fi (nI a) (nI b) y' (nI (i + 1)) := by
        intro k y'; unfold fX4_invites_81; rw [nm_of, nI_1]
      have e55 : fX4_invites_55 sz ki te ag1 kn fi (nI a) (nI b) y (nI i) = if wel n kd Hh a b i = true then ag1 k1 fi (nI a) (nI b) (nI i) (nI (i + 1)) else ag1 k1 fi (nI a) (nI b) y (nI (i + 1)) := by
        unfold fX4_invites_55 fX4_invites_60
        rw [if_neg (show ¬ (1 : Int32) = 0 by decide), q1, bR_some, ite_b2, e81, e81]
      have e60 : fX4_invites_60 sz ki te ag1 kn fi 0 (nI a) (nI b) y (nI i) = ag1 kn fi (nI a) (nI b) y (nI (i + 1)) := by
        unfold fX4_invites_60
        rw [if_pos (show (0 : Int32) = 0 from rfl), e81]
      rw [e55, e60]
      unfold fX5_invites_99
      rw [if_neg (show ¬ (1 : Int32) = 0 by decide)]
      unfold fX5_invites_122 fX5_invites_127
      rw [e128, e128, pop_i i (by omega), bR_some, ones_i i (by omega), bR_some]
      rcases hy with rfl | ⟨d, hd, rfl⟩
      · rw [if_pos (show (-1 : Int32) < 0 by decide), if_pos (show (-1 : Int32) < 0 by decide)]
        by_cases z : wel n kd Hh a b i = true
        · rw [if_pos z, if_pos z]; exact ih _ k1 (by omega) (by omega) (Or.inr ⟨i, hi2, rfl⟩) q2
        · rw [if_neg z, if_neg z]; exact ih _ k1 (by omega) (by omega) (Or.inl rfl) q2
      · have p2 := pop_le d
        rw [if_neg (nI_neg (by omega)), if_neg (nI_neg (by omega)), pop_i d (by omega), bR_some, ones_i d (by omega), bR_some, ite_le (by omega) (by omega), ite_le (by omega) (by omega)]
        by_cases z2 : pop d ≤ pop i
        · rw [if_pos z2, if_pos z2]
          have : (if wel n kd Hh a b i = true then ag2 st p w (nI a) (nI b) (nI d) (nI (i + 1)) else ag2 st p w (nI a) (nI b) (nI d) (nI (i + 1))) = ag2 st p w (nI a) (nI b) (nI d) (nI (i + 1)) := by split <;> rfl
          rw [this]
          exact ih _ kn (by omega) (by omega) (Or.inr ⟨d, hd, rfl⟩) K
        · rw [if_neg z2, if_neg z2]
          by_cases z : wel n kd Hh a b i = true
          · rw [if_pos z, if_pos z]; exact ih _ k1 (by omega) (by omega) (Or.inr ⟨i, hi2, rfl⟩) q2
          · rw [if_neg z, if_neg z]; exact ih _ k1 (by omega) (by omega) (Or.inr ⟨d, hd, rfl⟩) q2
theorem op_invites (R : RA sz li to ki co te s n l kd cc Hh) (K : KV n kd Hh kn) (F : FS fi st) (x1 x2 : Int32) : Both (fX4_invites sz ki te kn fi x1 x2) (fX5_invites s st pile wish x1 x2) (fun k1 k2 => KV n kd Hh k1.1 ∧ FS k1.2 k2.1) := by
  have e0 : (0 : Int32).toInt = 0 := by decide
  have e8 : (8 : Int32).toInt = 8 := by decide
  unfold fX4_invites fX5_invites fX4_invites_15 fX5_invites_29
  rw [in_32 x1 0 8 (by decide) (by decide), in_32 x2 0 8 (by decide) (by decide), bR_some, bR_some, ite_b2, ite_b2, fnd_1, fns_1, bR_some, bR_some]
  by_cases h : (0 ≤ x1.toInt ∧ x1.toInt ≤ 8) ∧ (0 ≤ x2.toInt ∧ x2.toInt ≤ 8)
  · rw [if_pos h.1, if_pos h.2, if_neg (show ¬ x1 < 0 by rw [Int32.lt_iff_toInt_lt]; omega), if_neg (show ¬ 8 < x2 by rw [Int32.lt_iff_toInt_lt]; omega)]
    obtain ⟨a, ha, rfl⟩ := i_ex (x := x1) (n := 9) (by decide) h.1.1 (by omega)
    obtain ⟨b, hb, rfl⟩ := i_ex (x := x2) (n := 9) (by decide) h.2.1 (by omega)
    by_cases c : nI a ≤ nI b
    · rw [if_pos c, if_pos c]
      obtain ⟨k, e, V⟩ := looksAll_r R.2.1 pile wish
      rw [e, bV_some]
      exact invites_loop R.1 R.2.1 V F (by omega) (by omega) 1024 0 (-1) kn (Nat.zero_le _) (by have := two_le R.1.1; omega) (Or.inl rfl) K
    · rw [if_neg c, if_neg c]
      exact Both.mk ⟨K, F.up (by decide)⟩
  · have hm : (if 0 ≤ x1.toInt ∧ x1.toInt ≤ 8 then (if 0 ≤ x2.toInt ∧ x2.toInt ≤ 8 then (if x1 ≤ x2 then bV (fX5_looksAll s pile wish) (fun k22 => ll7 (fX5_invites_45 s) qF st k22.1 k22.2 x1 x2 (-1) 0) else some (-1000000001, (upd st 0 (st 0 + 1), pile, wish))) else some (-1000000001, (upd st 0 (st 0 + 1), pile, wish))) else some (-1000000001, (upd st 0 (st 0 + 1), pile, wish))) = some (-1000000001, (upd st 0 (st 0 + 1), pile, wish)) := by
      by_cases c : 0 ≤ x1.toInt ∧ x1.toInt ≤ 8
      · rw [if_pos c, if_neg (fun q => h ⟨c, q⟩)]
      · rw [if_neg c]
    rw [hm]
    by_cases c1 : x1 < 0
    · rw [if_pos c1]; exact Both.mk ⟨K, F.up (by decide)⟩
    rw [if_neg c1]
    by_cases c2 : 8 < x2
    · rw [if_pos c2]; exact Both.mk ⟨K, F.up (by decide)⟩
    rw [if_neg c2, if_neg (show ¬ x1 ≤ x2 by
      rw [Int32.lt_iff_toInt_lt] at c1 c2
      rw [Int32.le_iff_toInt_le]
      omega)]
    exact Both.mk ⟨K, F.up (by decide)⟩
theorem b2_or (a b : Bool) : b2 (a = true) ||| b2 (b = true) = b2 ((a || b) = true) := by cases a <;> cases b <;> decide
theorem agM_step {ag : (Nat → Int32) → (Nat → Int32) → (Nat → Int32) → Int32 → Int32 → Int32 → Int32 → Int32 → Int32 → Option (Int32 × (Nat → Int32) × (Nat → Int32) × (Nat → Int32))} {p w : Nat → Int32} {g1 g2 i : Nat} (h1 : g1 < 8) (h2 : g2 < 8) (hi : i < 256) (se a b c : Bool) : fX5_against_69 s ag st p w (b2 (se = true)) (nI g1) (nI g2) (b2 (a = true)) (b2 (b = true)) (b2 (c = true)) (nI i) = ag st p w (nI g1) (nI g2) (b2 ((a || (se && i.testBit g1)) = true)) (b2 ((b || (se && i.testBit g2)) = true)) (b2 ((c || (se && (i.testBit g1 && i.testBit g2))) = true)) (nI (i + 1)) := by
  unfold fX5_against_69 fX5_against_89 fX5_against_93 fX5_against_94 fX5_against_114 fX5_against_118 fX5_against_119 fX5_against_149 fX5_against_153 fX5_against_154
  rw [hasM_i hi h1, hasM_i hi h2]
  simp only [bR_some, nm_of, nI_1, ite_b2]
  generalize i.testBit g1 = t1
  generalize i.testBit g2 = t2
  cases se <;> cases a <;> cases b <;> cases c <;> cases t1 <;> cases t2 <;> rfl
theorem agC_step {ag : (Nat → Int32) → (Nat → Int32) → Int32 → Int32 → Int32 → Int32 → Int32 → Int32 → Option (Int32 × (Nat → Int32) × (Nat → Int32))} {k : Nat → Int32} {g1 g2 i : Nat} (h1 : g1 < 8) (h2 : g2 < 8) (hi : i < 256) (a b c : Bool) : (bR (fX4_isOn (nI g1) (nI i)) (fun r11 k11 => bR (fX4_isOn (nI g2) (nI i)) (fun r12 k12 => nm (b2 (a = true) ||| r11) (fun u13 => nm (b2 (b = true) ||| r12) (fun u14 => (if r11 = 0 then (fX4_against_113 sz ki te ag k fi (b2 (c = true)) (nI g1) (nI g2) u13 u14 (nI i)) else ((if r12 = 0 then (fX4_against_113 sz ki te ag k fi (b2 (c = true)) (nI g1) (nI g2) u13 u14 (nI i)) else (fX4_against_114 sz ki te ag k fi (b2 (c = true)) 1 (nI g1) (nI g2) u13 u14 (nI i)))))))))) = ag k fi (nI g1) (nI g2) (b2 ((a || i.testBit g1) = true)) (b2 ((b || i.testBit g2) = true)) (b2 ((c || (i.testBit g1 && i.testBit g2)) = true)) (nI (i + 1)) := by
  unfold fX4_against_113 fX4_against_114 fX4_against_117
  rw [isOn_i hi h1, isOn_i hi h2]
  simp only [bR_some, nm_of, nI_1, ite_b2, b2_or]
  rw [show (0 : Int32) = b2 (false = true) from rfl, show (1 : Int32) = b2 (true = true) from rfl, b2_or, b2_or]
  generalize i.testBit g1 = t1
  generalize i.testBit g2 = t2
  cases a <;> cases b <;> cases c <;> cases t1 <;> cases t2 <;> rfl
theorem against_loop (P : PC n kd Hh sz ki te) (M : PM n kd Hh s) {w p : Nat → Int32} (V : WV n kd Hh w) (F : FS fi st) {g1 g2 : Nat} (h1 : g1 < 8) (h2 : g2 < 8) : ∀ (f i : Nat) (a b c : Bool) (kn : Nat → Int32), i ≤ 2 ^ n → 2 ^ n - i < f → KV n kd Hh kn → Both (ll8 (fX4_against_45 sz ki te) f kn fi (nI g1) (nI g2) (b2 (a = true)) (b2 (b = true)) (b2 (c = true)) (nI i)) (ll9 (fX5_against_43 s) f st p w (nI g1) (nI g2) (b2 (a = true)) (b2 (b = true)) (b2 (c = true)) (nI i)) (fun k1 k2 => KV n kd Hh k1.1 ∧ FS k1.2 k2.1) := by
  intro f
  have hn := P.1
  have hN := two_le hn
  induction f with
  | zero => intro i a b c kn _ h; exact absurd h (by omega)
  | succ f ih =>
    intro i a b c kn hi hf K
    have ih := ih (i + 1)
    show Both (fX4_against_45 sz ki te (ll8 (fX4_against_45 sz ki te) f) kn fi (nI g1) (nI g2) (b2 (a = true)) (b2 (b = true)) (b2 (c = true)) (nI i)) (fX5_against_43 s (ll9 (fX5_against_43 s) f) st p w (nI g1) (nI g2) (b2 (a = true)) (b2 (b = true)) (b2 (c = true)) (nI i)) _
    generalize ll8 (fX4_against_45 sz ki te) f = ag1 at ih ⊢
    generalize ll9 (fX5_against_43 s) f = ag2 at ih ⊢
    unfold fX4_against_45 fX5_against_43
    rw [lists_p P, lists_m M, bR_some, bR_some, ite_le (by omega) (by omega), ite_le (by omega) (by omega)]
    by_cases z : 2 ^ n ≤ i
    · rw [if_pos z, if_pos z]
      unfold fX4_against_141 fX4_against_142
      rw [oneIf_0, oneIf_1, bR_some, bR_some, ite_b2, ite_b2, ite_b2, ite_b2, ite_b2, ite_b2]
      cases a <;> cases b <;> cases c <;> exact Both.mk ⟨K, F⟩
    · obtain ⟨k1, q1, q2⟩ := isSettled_r P K (l := i) (by omega)
      rw [if_neg z, if_neg z, gIn_nI (by omega) (by decide), nI_clamp (by omega), V i (by omega), ite_eqN (by have := Wd_256 hn kd Hh i; omega) (by omega), q1, bR_some, ite_b2, agC_step h1 h2 (by omega)]
      by_cases d : Wd n kd Hh i = i
      · rw [if_pos d, if_pos d, show (1 : Int32) = b2 (true = true) from rfl, agM_step h1 h2 (by omega)]
        exact ih _ _ _ k1 (by omega) (by omega) q2
      · rw [if_neg d, if_neg d]
        have := agM_step (s := s) (st := st) (ag := ag2) (p := p) (w := w) h1 h2 (show i < 256 by omega) false a b c
        have e0 : fX5_against_69 s ag2 st p w 0 (nI g1) (nI g2) (b2 (a = true)) (b2 (b = true)) (b2 (c = true)) (nI i) = ag2 st p w (nI g1) (nI g2) (b2 (a = true)) (b2 (b = true)) (b2 (c = true)) (nI (i + 1)) := by
          have e : fX5_against_69 s ag2 st p w 0 (nI g1) (nI g2) (b2 (a = true)) (b2 (b = true)) (b2 (c = true)) (nI i) = fX5_against_69 s ag2 st p w (b2 (false = true)) (nI g1) (nI g2) (b2 (a = true)) (b2 (b = true)) (b2 (c = true)) (nI i) := rfl
          rw [e, this, Bool.false_and, Bool.false_and, Bool.false_and, Bool.or_false, Bool.or_false, Bool.or_false]
        rw [e0]
        unfold fX4_against_117
        rw [nm_of, nI_1]
        exact ih _ _ _ k1 (by omega) (by omega) q2
theorem op_against (R : RA sz li to ki co te s n l kd cc Hh) (K : KV n kd Hh kn) (F : FS fi st) (x1 x2 : Int32) : Both (fX4_against sz ki te kn fi x1 x2) (fX5_against s st pile wish x1 x2) (fun k1 k2 => KV n kd Hh k1.1 ∧ FS k1.2 k2.1) := by
  obtain ⟨P, M, -⟩ := R
  have hn := P.1
  have hh : ∀ x, fX0_has sz x = some (b2 (0 ≤ x.toInt ∧ x.toInt < n), ()) := fun x => by rw [P.2.1]; exact has_g hn x
  unfold fX4_against fX5_against fX4_against_27 fX5_against_21
  rw [hh, hh, isG_g M, isG_g M, bR_some, bR_some, bR_some, bR_some, ite_b2, ite_b2, ite_b2, ite_b2, fnd_1, fns_1, bR_some, bR_some]
  by_cases h : 0 ≤ x1.toInt ∧ x1.toInt < n
  · rw [if_pos h, if_pos h]
    by_cases h2 : 0 ≤ x2.toInt ∧ x2.toInt < n
    · rw [if_pos h2, if_pos h2]
      by_cases c : x1 = x2
      · rw [if_pos c, if_pos c]; exact Both.mk ⟨K, F.up (by decide)⟩
      · rw [if_neg c, if_neg c]
        obtain ⟨g1, hg1, rfl⟩ := i_ex (x := x1) (n := n) (by omega) h.1 h.2
        obtain ⟨g2, hg2, rfl⟩ := i_ex (x := x2) (n := n) (by omega) h2.1 h2.2
        obtain ⟨k, e, V⟩ := looksAll_r M pile wish
        rw [e, bV_some]
        exact against_loop P M V F (by omega) (by omega) 1024 0 false false false kn (Nat.zero_le _) (by have := two_le hn; omega) K
    · rw [if_neg h2, if_neg h2]; exact Both.mk ⟨K, F.up (by decide)⟩
  · rw [if_neg h, if_neg h]; exact Both.mk ⟨K, F.up (by decide)⟩
end OPS5
end
section
section OPS6
variable {sz li to : Int32} {ki co : Nat → Int32} {te : Nat → Int64} {s kn fi st pile wish mark : Nat → Int32} {n l : Nat} {kd cc : Nat → Nat} {Hh : Nat → Nat → Bool}
/-- all of them together -/
def ors (f : Nat → Nat) : Nat → Nat
  | 0 => 0
  | i + 1 => ors f i ||| f i
theorem ors_t (f : Nat → Nat) (j : Nat) : ∀ N, (ors f N).testBit j = true ↔ ∃ i, i < N ∧ (f i).testBit j = true
  | 0 => by
    constructor
    · intro h; rw [show ors f 0 = 0 from rfl, Nat.zero_testBit] at h; cases h
    · rintro ⟨i, h, _⟩; omega
  | N + 1 => by
    have ih := ors_t f j N
    show (ors f N ||| f N).testBit j = true ↔ _
    rw [Nat.testBit_or, Bool.or_eq_true, ih]
    constructor
    · rintro (⟨i, h1, h2⟩ | h)
      · exact ⟨i, by omega, h2⟩
      · exact ⟨N, by omega, h⟩
    · rintro ⟨i, h1, h2⟩
      by_cases c : i = N
      · subst c; exact Or.inr h2
      · exact Or.inl ⟨i, by omega, h2⟩
theorem ors_lt {f : Nat → Nat} (hf : ∀ i, f i < 256) : ∀ N, ors f N < 256
  | 0 => by show (0 : Nat) < 256; omega
  | N + 1 => or_256 (ors_lt hf N) (hf N)
theorem xor_256 {a b : Nat} (ha : a < 256) (hb : b < 256) : a ^^^ b < 256 := Nat.xor_lt_two_pow (n := 8) ha hb
theorem set_has {l g : Nat} (h : l.testBit g = true) : l ||| 2 ^ g = l := by
  apply Nat.eq_of_testBit_eq
  intro i
  rw [Nat.testBit_or, Nat.testBit_two_pow]
  by_cases c : g = i
  · subst c; rw [h]; rfl
  · rw [decide_eq_false c, Bool.or_false]
theorem clr_not {l g : Nat} (hl : l < 256) (hg : g < 8) (h : l.testBit g = false) : clr l g = l := by
  apply Nat.eq_of_testBit_eq
  intro i
  rw [clr_t hl hg]
  by_cases c : i = g
  · subst c; rw [h]; rfl
  · rw [decide_eq_true c, Bool.and_true]
theorem clr_set {l g : Nat} (hl : l < 256) (hg : g < 8) : clr l g ||| 2 ^ g = l ||| 2 ^ g := by
  apply Nat.eq_of_testBit_eq
  intro i
  rw [Nat.testBit_or, Nat.testBit_or, clr_t hl hg, Nat.testBit_two_pow]
  by_cases c : g = i
  · subst c; simp
  · have c2 : ¬ i = g := fun q => c q.symm
    simp [c, c2]
/-- whom it counts for, as the class goes and as the reference goes -/
def mdC (n : Nat) (kd : Nat → Nat) (Hh : Nat → Nat → Bool) (g l : Nat) : Nat := Wd n kd Hh (l ||| 2 ^ g) ^^^ Wd n kd Hh (clr l g)
def mdM (n : Nat) (kd : Nat → Nat) (Hh : Nat → Nat → Bool) (g l : Nat) : Nat := Wd n kd Hh l ^^^ Wd n kd Hh (l ||| 2 ^ g)
theorem md_eq (hn : n ≤ 8) {g : Nat} (hg : g < n) : ors (mdC n kd Hh g) (2 ^ n) = ors (mdM n kd Hh g) (2 ^ n) := by
  have hN := two_le hn
  have h1 : ∀ l, l < 256 → mdC n kd Hh g l = mdM n kd Hh g (clr l g) := by
    intro l hl
    unfold mdC mdM
    rw [clr_set hl (by omega), Nat.xor_comm]
  have h2 : ∀ l, l < 256 → l.testBit g = true → mdM n kd Hh g l = 0 := by
    intro l hl h
    unfold mdM
    rw [set_has h, Nat.xor_self]
  apply Nat.eq_of_testBit_eq
  intro j
  have key : (ors (mdC n kd Hh g) (2 ^ n)).testBit j = true ↔ (ors (mdM n kd Hh g) (2 ^ n)).testBit j = true := by
    rw [ors_t, ors_t]
    constructor
    · rintro ⟨i, hi, h⟩
      rw [h1 i (by omega)] at h
      exact ⟨clr i g, Nat.lt_of_le_of_lt clr_le hi, h⟩
    · rintro ⟨i, hi, h⟩
      cases c : i.testBit g with
      | true => rw [h2 i (by omega) c, Nat.zero_testBit] at h; cases h
      | false =>
        refine ⟨i, hi, ?_⟩
        rw [h1 i (by omega), clr_not (by omega) (by omega) c]
        exact h
  cases e1 : (ors (mdC n kd Hh g) (2 ^ n)).testBit j with
  | true => exact (key.mp e1).symm
  | false =>
    cases e2 : (ors (mdM n kd Hh g) (2 ^ n)).testBit j with
    | false => rfl
    | true => rw [key.mpr e2] at e1; cases e1
theorem set_lt {g : Nat} (hg : g < n) {l : Nat} (hl : l < 2 ^ n) : l ||| 2 ^ g < 2 ^ n := Nat.or_lt_two_pow hl (Nat.pow_lt_pow_right (by decide) hg)
theorem mindsC_loop (P : PC n kd Hh sz ki te) {g : Nat} (hg : g < n) : ∀ (f i : Nat) (kn : Nat → Int32), i ≤ 2 ^ n → 2 ^ n - i < f → KV n kd Hh kn → Ret (ll5 (fX4_minds_27 sz ki te) f kn fi (nI (2 ^ g)) (nI (ors (mdC n kd Hh g) i)) (nI i)) (nI (clr (ors (mdC n kd Hh g) (2 ^ n)) g)) (fun k => KV n kd Hh k.1 ∧ k.2 = fi) := by
  intro f
  have hn := P.1
  have hN := two_le hn
  induction f with
  | zero => intro i kn _ h; exact absurd h (by omega)
  | succ f ih =>
    intro i kn hi hf K
    have ih := ih (i + 1)
    show Ret (fX4_minds_27 sz ki te (ll5 (fX4_minds_27 sz ki te) f) kn fi (nI (2 ^ g)) (nI (ors (mdC n kd Hh g) i)) (nI i)) _ _
    generalize ll5 (fX4_minds_27 sz ki te) f = ag at ih ⊢
    have hO : ∀ i, mdC n kd Hh g i < 256 := fun i => xor_256 (Wd_256 hn kd Hh _) (Wd_256 hn kd Hh _)
    have e1 : ∀ x, x < 256 → nI x &&& (nI (2 ^ g) ^^^ (-1)) = nI (clr x g) := by
      intro x hx
      rw [← bit_i g (by omega)]
      exact clr_i hx (by omega)
    unfold fX4_minds_27
    rw [lists_p P, bR_some, ite_le (by omega) (by omega)]
    by_cases c : 2 ^ n ≤ i
    · have e : i = 2 ^ n := by omega
      subst e
      rw [if_pos c, e1 _ (ors_lt hO _)]
      exact Ret.mk ⟨K, rfl⟩
    · have hs := set_lt hg (show i < 2 ^ n by omega)
      have hcl : clr i g < 256 := clr_lt (by omega)
      rw [if_neg c, fa_or, e1 i (by omega)]
      refine Ret.b1 (comers_r P K (l := i ||| 2 ^ g) (by omega)) (fun k hk => ?_)
      refine Ret.b1 (comers_r P hk hcl) (fun k2 hk2 => ?_)
      rw [nm_of, nm_of, nI_1, fa_xor, fa_or]
      exact ih k2 (by omega) (by omega) hk2
theorem mindsM_loop (M : PM n kd Hh s) {w p : Nat → Int32} (V : WV n kd Hh w) {g : Nat} (hg : g < n) : ∀ (f i : Nat), i ≤ 2 ^ n → 2 ^ n - i < f → Ret (ll6 (fX5_minds_23 s) f st p w (nI g) (nI (ors (mdM n kd Hh g) i)) (nI i)) (nI (clr (ors (mdM n kd Hh g) (2 ^ n)) g)) (fun k => k.1 = st) := by
  intro f
  have hn := M.1
  have hN := two_le hn
  induction f with
  | zero => intro i _ h; exact absurd h (by omega)
  | succ f ih =>
    intro i hi hf
    have ih := ih (i + 1)
    show Ret (fX5_minds_23 s (ll6 (fX5_minds_23 s) f) st p w (nI g) (nI (ors (mdM n kd Hh g) i)) (nI i)) _ _
    generalize ll6 (fX5_minds_23 s) f = ag at ih ⊢
    have hO : ∀ i, mdM n kd Hh g i < 256 := fun i => xor_256 (Wd_256 hn kd Hh _) (Wd_256 hn kd Hh _)
    unfold fX5_minds_23
    rw [lists_m M, bR_some, ite_le (by omega) (by omega)]
    by_cases c : 2 ^ n ≤ i
    · have e : i = 2 ^ n := by omega
      subst e
      rw [if_pos c, clr_i (ors_lt hO _) (by omega)]
      exact Ret.mk rfl
    · have hs := set_lt hg (show i < 2 ^ n by omega)
      rw [if_neg c, bit_i g (by omega), fa_or, gIn_nI (by omega) (by decide), gIn_nI (by omega) (by decide), nI_clamp (by omega), nI_clamp (by omega), V i (by omega), V _ hs, nm_of, nm_of, nI_1, fa_xor, fa_or]
      exact ih (by omega) (by omega)
theorem op_minds (R : RA sz li to ki co te s n l kd cc Hh) (K : KV n kd Hh kn) (F : FS fi st) (x1 : Int32) : Both (fX4_minds sz ki te kn fi x1) (fX5_minds s st pile wish x1) (fun k1 k2 => KV n kd Hh k1.1 ∧ FS k1.2 k2.1) := by
  obtain ⟨P, M, -⟩ := R
  have hn := P.1
  have hN := two_le hn
  unfold fX4_minds fX5_minds
  rw [show fX0_has sz x1 = some (b2 (0 ≤ x1.toInt ∧ x1.toInt < n), ()) from by rw [P.2.1]; exact has_g hn x1, isG_g M, bR_some, bR_some, ite_b2, ite_b2, fnd_1, fns_1, bR_some, bR_some]
  by_cases h : 0 ≤ x1.toInt ∧ x1.toInt < n
  · rw [if_pos h, if_pos h]
    obtain ⟨g, hg, rfl⟩ := i_ex (x := x1) (n := n) (by omega) h.1 h.2
    obtain ⟨k, e, V⟩ := looksAll_r M pile wish
    rw [e, bV_some, nm_of, bit_i g (by omega)]
    obtain ⟨k1, q1, q2, q3⟩ := mindsC_loop (fi := fi) P hg 1024 0 kn (Nat.zero_le _) (by omega) K
    obtain ⟨k2, p1, p2⟩ := mindsM_loop (st := st) (p := k.1) M V hg 1024 0 (Nat.zero_le _) (by omega)
    have q1 : ll5 (fX4_minds_27 sz ki te) qF kn fi (nI (2 ^ g)) 0 0 = some (_, k1) := q1
    have p1 : ll6 (fX5_minds_23 s) qF st k.1 k.2 (nI g) 0 0 = some (_, k2) := p1
    rw [q1, p1, md_eq hn hg]
    exact Both.mk ⟨q2, by rw [q3, p2]; exact F⟩
  · rw [if_neg h, if_neg h]
    exact Both.mk ⟨K, F.up (by decide)⟩
/-! a guest as of another kind -/
theorem Wd_un {g k : Nat} (hn : n ≤ 8) (hg : g < n) (l : Nat) : Wd n (un kd g k) Hh l = clr (Wd n kd Hh l) g ||| (if cm k (Hh g l) (pop (clr l g)) = true then 2 ^ g else 0) := by
  apply Nat.eq_of_testBit_eq
  intro i
  rw [Nat.testBit_or, clr_t (Wd_256 hn kd Hh l) (by omega)]
  unfold Wd
  rw [wdn_t, wdn_t]
  by_cases c : i = g
  · subst c
    rw [un_s, decide_eq_true hg, Bool.true_and, decide_eq_false (fun q => q rfl), Bool.and_false, Bool.false_or]
    by_cases d : cm k (Hh i l) (pop (clr l i)) = true
    · rw [if_pos d, d, Nat.testBit_two_pow, decide_eq_true rfl]
    · rw [if_neg d, Nat.zero_testBit]; exact Bool.eq_false_iff.mpr d
  · rw [un_n c, decide_eq_true c, Bool.and_true]
    have : (if cm k (Hh g l) (pop (clr l g)) = true then 2 ^ g else 0).testBit i = false := by
      split
      · rw [Nat.testBit_two_pow]; exact decide_eq_false (fun q => c q.symm)
      · exact Nat.zero_testBit i
    rw [this, Bool.or_false]
theorem comersAs_r (P : PC n kd Hh sz ki te) (K : KV n kd Hh kn) {g k l : Nat} (hg : g < n) (hk : k < 6) (hl : l < 256) : Ret (fX0_comersAs sz ki te kn (nI g) (nI k) (nI l)) (nI (Wd n (un kd g k) Hh l)) (KV n kd Hh) := by
  have hn := P.1
  unfold fX0_comersAs
  refine Ret.b1 (comers_r P K hl) (fun k1 hk1 => ?_)
  rw [nm_of, clr_i (Wd_256 hn kd Hh l) (by omega), wca_eq te hk (by omega) hl, bR_some, ite_b2, ← P.2.2.2 g hg l hl, bit_i g (by omega), Wd_un hn hg]
  by_cases d : cm k (Hh g l) (pop (clr l g)) = true
  · rw [if_pos d, if_pos d, fa_or]; exact Ret.mk hk1
  · rw [if_neg d, if_neg d, Nat.or_zero]; exact Ret.mk hk1
theorem settledAs_loop (P : PC n kd Hh sz ki te) {g k : Nat} (hg : g < n) (hk : k < 6) : ∀ (f i : Nat) (kn : Nat → Int32), i ≤ 2 ^ n → 2 ^ n - i < f → KV n kd Hh kn → Ret (ll5 (fX0_settledAs_5 sz ki te) f kn (nI g) (nI k) (nI (cnt (ss n (un kd g k) Hh) i)) (nI i)) (nI (cnt (ss n (un kd g k) Hh) (2 ^ n))) (KV n kd Hh) := by
  intro f
  have hn := P.1
  have hN := two_le hn
  induction f with
  | zero => intro i kn _ h; exact absurd h (by omega)
  | succ f ih =>
    intro i kn hi hf K
    have ih := ih (i + 1)
    show Ret (fX0_settledAs_5 sz ki te (ll5 (fX0_settledAs_5 sz ki te) f) kn (nI g) (nI k) (nI (cnt (ss n (un kd g k) Hh) i)) (nI i)) _ _
    generalize ll5 (fX0_settledAs_5 sz ki te) f = ag at ih ⊢
    unfold fX0_settledAs_5 fX0_settledAs_33
    rw [lists_p P, bR_some, ite_le (by omega) (by omega)]
    by_cases c : 2 ^ n ≤ i
    · have e : i = 2 ^ n := by omega
      rw [if_pos c, e]
      exact Ret.mk K
    · rw [if_neg c]
      refine Ret.b1 (comersAs_r P K hg hk (l := i) (by omega)) (fun k1 hk1 => ?_)
      have h := cnt_s (ss n (un kd g k) Hh) i
      rw [oneIf_0, oneIf_1, bR_some, bR_some, nm_of, nm_of, nm_of, nm_of, nI_1 i, ite_eqN (by have := Wd_256 hn (un kd g k) Hh i; omega) (by omega)]
      by_cases d : Wd n (un kd g k) Hh i = i
      · rw [b2_t (show ss n (un kd g k) Hh i = true from decide_eq_true d)] at h
        rw [if_pos d, h]
        exact ih k1 (by omega) (by omega) hk1
      · rw [b2_f (show ¬ ss n (un kd g k) Hh i = true from by unfold ss; rw [decide_eq_false d]; simp)] at h
        rw [if_neg d, h]
        exact ih k1 (by omega) (by omega) hk1
theorem PM_kind (M : PM n kd Hh s) {g k : Nat} (hg : g < n) (hk : k < 6) : PM n (un kd g k) Hh (upd s (2 + 3 * g) (nI k)) := by
  obtain ⟨b1, b2, b3, b4⟩ := M
  refine ⟨b1, by rw [pk_un (by omega)]; exact b2, fun j hj => ?_, fun j hj => (b4 j hj).congr (pk_un (by omega)) (fun k hk => pk_un (by omega))⟩
  by_cases e : j = g
  · subst e; rw [un_s, pk_us]; exact ⟨hk, rfl⟩
  · rw [un_n e, pk_un (by omega)]; exact b3 j hj
theorem upd_upd (f : Nat → Int32) (i : Nat) (x y : Int32) : upd (upd f i x) i y = upd f i y := by
  funext j
  by_cases c : j = i
  · subst c; rw [pk_us, pk_us]
  · rw [pk_un c, pk_un c, pk_un c]
theorem upd_self {f : Nat → Int32} {i : Nat} {x : Int32} (h : f i = x) : upd f i x = f := by
  funext j
  by_cases c : j = i
  · subst c; rw [pk_us, h]
  · rw [pk_un c]
theorem kind_loop (P : PC n kd Hh sz ki te) (M : PM n kd Hh s) (F : FS fi st) {g : Nat} (hg : g < n) : ∀ (f i : Nat) (y y' z : Int32) (kn p w : Nat → Int32) (v : Int32), i ≤ 6 → 6 - i < f → ((i = 0 ∧ y = 0 ∧ y' = -1 ∧ z = -1) ∨ (0 < i ∧ y = y')) → KV n kd Hh kn → Both (ll6 (fX4_kind_25 sz ki te) f kn fi (nI g) y z (nI i)) (ll9 fX5_kind_30 f (upd s (2 + 3 * g) v) st p w (nI g) (nI (kd g)) y' z (nI i)) (fun k1 k2 => KV n kd Hh k1.1 ∧ k2.1 = s ∧ FS k1.2 k2.2.1) := by
  intro f
  have hn := P.1
  have hN := two_le hn
  induction f with
  | zero => intro i y y' z kn p w v _ h; exact absurd h (by omega)
  | succ f ih =>
    intro i y y' z kn p w v hi hf hy K
    have ih := ih (i + 1)
    show Both (fX4_kind_25 sz ki te (ll6 (fX4_kind_25 sz ki te) f) kn fi (nI g) y z (nI i)) (fX5_kind_30 (ll9 fX5_kind_30 f) (upd s (2 + 3 * g) v) st p w (nI g) (nI (kd g)) y' z (nI i)) _
    generalize ll6 (fX4_kind_25 sz ki te) f = ag1 at ih ⊢
    generalize ll9 fX5_kind_30 f = ag2 at ih ⊢
    unfold fX4_kind_25 fX5_kind_30
    have e : 2 + 3 * nI g = nI (2 + 3 * g) := by rw [fa_lit 2, fa_lit 3, nI_mulL, nI_add]
    rw [e, gIn_nI (by omega) (by decide), gIn_nI (by omega) (by decide), nI_clamp (by omega), upd_upd, upd_upd, fa_lit 6, ite_le (by decide) (by omega), ite_le (by decide) (by omega)]
    by_cases c : 6 ≤ i
    · rw [if_pos c, if_pos c, upd_self (M.2.2.1 g hg).2]
      rcases hy with ⟨h, -⟩ | ⟨-, h⟩
      · omega
      · exact Both.mk' h ⟨K, rfl, F⟩
    · rw [if_neg c, if_neg c]
      obtain ⟨k1, q1, q2⟩ := settledAs_loop P hg (show i < 6 by omega) 1024 0 kn (Nat.zero_le _) (by omega) K
      have q1 : fX0_settledAs sz ki te kn (nI g) (nI i) = some (nI (cnt (ss n (un kd g i) Hh) (2 ^ n)), k1) := q1
      obtain ⟨k2, p1, -⟩ := manySettled_r (pile := p) (wish := w) (PM_kind M hg (show i < 6 by omega))
      have hc := cnt_le (ss n (un kd g i) Hh) (2 ^ n)
      rw [q1, p1, bR_some, bR_some]
      unfold fX4_kind_56 fX5_kind_68 fX5_kind_83
      rw [nm_of, nm_of, nm_of, nm_of, nI_1]
      have hr : ¬ nI (cnt (ss n (un kd g i) Hh) (2 ^ n)) ≤ -1 := by
        rw [Int32.le_iff_toInt_le, nI_toInt (by omega), show (-1 : Int32).toInt = -1 from by decide]
        omega
      generalize nI (cnt (ss n (un kd g i) Hh) (2 ^ n)) = r at hr ⊢
      rcases hy with ⟨h1, h2, h3, h4⟩ | ⟨h1, h2⟩
      · subst h1; subst h4
        rw [if_neg hr, if_neg hr, if_neg hr]
        exact ih _ _ _ k1 _ _ _ (by omega) (by omega) (Or.inr ⟨by omega, rfl⟩) q2
      · subst h2
        by_cases d : r ≤ z
        · rw [if_pos d, if_pos d, if_pos d]
          exact ih _ _ _ k1 _ _ _ (by omega) (by omega) (Or.inr ⟨by omega, rfl⟩) q2
        · rw [if_neg d, if_neg d, if_neg d]
          exact ih _ _ _ k1 _ _ _ (by omega) (by omega) (Or.inr ⟨by omega, rfl⟩) q2
theorem op_kind (R : RA sz li to ki co te s n l kd cc Hh) (K : KV n kd Hh kn) (F : FS fi st) (x1 : Int32) : Both (fX4_kind sz ki te kn fi x1) (fX5_kind s st pile wish x1) (fun k1 k2 => KV n kd Hh k1.1 ∧ k2.1 = s ∧ FS k1.2 k2.2.1) := by
  obtain ⟨P, M, -⟩ := R
  have hn := P.1
  unfold fX4_kind fX5_kind
  rw [show fX0_has sz x1 = some (b2 (0 ≤ x1.toInt ∧ x1.toInt < n), ()) from by rw [P.2.1]; exact has_g hn x1, isG_g M, bR_some, bR_some, ite_b2, ite_b2, fnd_1, fns_1, bR_some, bR_some]
  by_cases h : 0 ≤ x1.toInt ∧ x1.toInt < n
  · rw [if_pos h, if_pos h]
    obtain ⟨g, hg, rfl⟩ := i_ex (x := x1) (n := n) (by omega) h.1 h.2
    rw [its_0 s (by omega), bR_some, (M.2.2.1 g hg).2]
    have := kind_loop P M F hg 1024 0 0 (-1) (-1) kn pile wish (nI (kd g)) (by omega) (by omega) (Or.inl ⟨rfl, rfl, rfl, rfl⟩) K
    rw [upd_self (M.2.2.1 g hg).2] at this
    exact this
  · rw [if_neg h, if_neg h]
    exact Both.mk ⟨K, rfl, F.up (by decide)⟩
end OPS6
end
