/-! where rounds bring each list; odds -/
section OPS3
variable {sz li to : Int32} {ki co : Nat → Int32} {te : Nat → Int64} {s kn fi st pile wish mark : Nat → Int32} {n l : Nat} {kd cc : Nat → Nat} {Hh : Nat → Nat → Bool}
theorem lists_p (P : PC n kd Hh sz ki te) : fX0_lists sz = some (nI (2 ^ n), ()) := by rw [P.2.1]; exact lists_c P.1
theorem every_p (P : PC n kd Hh sz ki te) : fX0_everyone sz = some (nI (2 ^ n - 1), ()) := by rw [P.2.1]; exact everyone_c P.1
/-- where 256 rounds lead -/
def wh (n : Nat) (kd : Nat → Nat) (Hh : Nat → Nat → Bool) (l : Nat) : Nat := it (Wd n kd Hh) 256 l
def bs (n : Nat) (kd : Nat → Nat) (Hh : Nat → Nat → Bool) (l : Nat) : Bool := decide (Wd n kd Hh (wh n kd Hh l) = wh n kd Hh l)
theorem wh_lt (hl : l < 2 ^ n) : wh n kd Hh l < 2 ^ n := it_lt (fun l => Wd_lt n kd Hh l) hl 256
theorem basin_loop (P : PC n kd Hh sz ki te) : ∀ (f i : Nat) (kn : Nat → Int32), i ≤ 2 ^ n → 2 ^ n - i < f → KV n kd Hh kn → Ret (ll3 (fX4_basin_4 sz ki te) f kn (nI (cnt (bs n kd Hh) i)) (nI i)) (nI (cnt (bs n kd Hh) (2 ^ n))) (KV n kd Hh) := by
  intro f
  have hN := two_le P.1
  induction f with
  | zero => intro i kn _ h; exact absurd h (by omega)
  | succ f ih =>
    intro i kn hi hf K
    have ih := ih (i + 1)
    show Ret (fX4_basin_4 sz ki te (ll3 (fX4_basin_4 sz ki te) f) kn (nI (cnt (bs n kd Hh) i)) (nI i)) _ _
    generalize ll3 (fX4_basin_4 sz ki te) f = ag at ih ⊢
    unfold fX4_basin_4
    rw [lists_p P, bR_some, ite_le (by omega) (by omega)]
    by_cases c : 2 ^ n ≤ i
    · have e : i = 2 ^ n := by omega
      rw [if_pos c, e]
      exact Ret.mk K
    · rw [if_neg c]
      have hw := wh_lt (kd := kd) (Hh := Hh) (show i < 2 ^ n by omega)
      refine Ret.b1 (behind_r P K (l := i) (m := 256) (by omega) (by omega)) (fun k hk => ?_)
      refine Ret.b1 (isSettled_r P hk (l := wh n kd Hh i) (by omega)) (fun k2 hk2 => ?_)
      rw [oneIf_b2, bR_some, nm_of, nm_of, nI_1, b2_congr (show Wd n kd Hh (wh n kd Hh i) = wh n kd Hh i ↔ bs n kd Hh i = true from by unfold bs; exact decide_eq_true_iff.symm), cnt_s]
      exact ih k2 (by omega) (by omega) hk2
/-- marks of where rounds lead -/
def WM (n : Nat) (kd : Nat → Nat) (Hh : Nat → Nat → Bool) (N : Nat) (mr : Nat → Int32) : Prop := ∀ l, l < N → mr l = if bs n kd Hh l then nI (wh n kd Hh l) else -1
theorem looks18 (hn : n ≤ 8) {w p mr : Nat → Int32} (V : WV n kd Hh w) {y1 : Int32} {ag6 : (Nat → Int32) → (Nat → Int32) → (Nat → Int32) → Int32 → Option ((Nat → Int32) × (Nat → Int32) × (Nat → Int32))} : ∀ (f k a : Nat), k ≤ 256 → 256 - k < f → a < 2 ^ n → ll6 (fX5_looksWhere_18 s ag6) f p w mr y1 (nI a) (nI k) = fX5_looksWhere_48 s ag6 p w mr y1 (nI (it (Wd n kd Hh) (256 - k) a)) := by
  intro f
  have hN := two_le hn
  induction f with
  | zero => intro k a _ h; exact absurd h (by omega)
  | succ f ih =>
    intro k a hk hf ha
    have ih := ih (k + 1)
    show fX5_looksWhere_18 s ag6 (ll6 (fX5_looksWhere_18 s ag6) f) p w mr y1 (nI a) (nI k) = _
    generalize ll6 (fX5_looksWhere_18 s ag6) f = ag at ih ⊢
    unfold fX5_looksWhere_18
    rw [fa_lit 256, ite_le (by decide) (by omega), gIn_nI (by omega) (by decide), gIn_nI (by omega) (by decide), nI_clamp (by omega), V a ha, ite_eqN (by have := Wd_256 hn kd Hh a; omega) (by omega), nm_of, nm_of, nI_1]
    by_cases c : 256 ≤ k
    · rw [if_pos c, show 256 - k = 0 by omega]; rfl
    · rw [if_neg c]
      by_cases d : Wd n kd Hh a = a
      · rw [if_pos d, it_fix d]
      · rw [if_neg d, ih _ (by omega) (by omega) (Wd_lt n kd Hh a), show 256 - k = 256 - (k + 1) + 1 by omega]; rfl
theorem looks6 (M : PM n kd Hh s) {w p : Nat → Int32} (V : WV n kd Hh w) : ∀ (f i : Nat) (mr : Nat → Int32), i ≤ 2 ^ n → 2 ^ n - i < f → WM n kd Hh i mr → RetV (ll4 (fX5_looksWhere_6 s) f p w mr (nI i)) (fun k => WV n kd Hh k.2.1 ∧ WM n kd Hh (2 ^ n) k.2.2) := by
  intro f
  have hN := two_le M.1
  induction f with
  | zero => intro i mr _ h; exact absurd h (by omega)
  | succ f ih =>
    intro i mr hi hf H
    have ih := ih (i + 1)
    show RetV (fX5_looksWhere_6 s (ll4 (fX5_looksWhere_6 s) f) p w mr (nI i)) _
    generalize ll4 (fX5_looksWhere_6 s) f = ag at ih ⊢
    unfold fX5_looksWhere_6
    rw [lists_m M, bR_some, ite_le (by omega) (by omega)]
    by_cases c : 2 ^ n ≤ i
    · have e : i = 2 ^ n := by omega
      subst e
      rw [if_pos c]
      exact RetV.mk ⟨V, H⟩
    · have hw := wh_lt (kd := kd) (Hh := Hh) (show i < 2 ^ n by omega)
      have e := looks18 (s := s) (ag6 := ag) (p := p) (mr := mr) (y1 := nI i) M.1 V 1024 0 i (by omega) (by omega) (by omega)
      have e : ll6 (fX5_looksWhere_18 s ag) qF p w mr (nI i) (nI i) 0 = fX5_looksWhere_48 s ag p w mr (nI i) (nI (wh n kd Hh i)) := e
      rw [if_neg c, e]
      unfold fX5_looksWhere_48 fX5_looksWhere_68
      rw [gIn_nI (by omega) (by decide), nI_clamp (by omega), V _ hw, ite_eqN (by have := Wd_256 M.1 kd Hh (wh n kd Hh i); omega) (by omega), gIn_nI (by omega) (by decide), gIn_nI (by omega) (by decide), nm_of, nm_of, nI_1, nI_clamp (by omega)]
      have key : ∀ v : Int32, (v = if bs n kd Hh i then nI (wh n kd Hh i) else -1) → WM n kd Hh (i + 1) (upd mr i v) := by
        intro v hv q hq
        by_cases d : q = i
        · subst d; rw [pk_us]; exact hv
        · rw [pk_un d]; exact H q (by omega)
      by_cases d : Wd n kd Hh (wh n kd Hh i) = wh n kd Hh i
      · rw [if_pos d]
        exact ih _ (by omega) (by omega) (key _ (by unfold bs; rw [decide_eq_true d]; rfl))
      · rw [if_neg d]
        exact ih _ (by omega) (by omega) (key _ (by unfold bs; rw [decide_eq_false d]; rfl))
theorem looksWhere_r (M : PM n kd Hh s) : RetV (fX5_looksWhere s pile wish mark) (fun k => WV n kd Hh k.2.1 ∧ WM n kd Hh (2 ^ n) k.2.2) := by
  unfold fX5_looksWhere
  refine RetV.bb (looksAll_r M pile wish) (fun k V => ?_)
  exact looks6 M V 1024 0 mark (Nat.zero_le _) (by have := two_le M.1; omega) (fun l hl => absurd hl (by omega))
theorem basinM_loop (M : PM n kd Hh s) {w p mr : Nat → Int32} (H : WM n kd Hh (2 ^ n) mr) : ∀ (f i : Nat), i ≤ 2 ^ n → 2 ^ n - i < f → Ret (ll5 (fX5_basin_8 s) f p w mr (nI (cnt (bs n kd Hh) i)) (nI i)) (nI (cnt (bs n kd Hh) (2 ^ n))) (fun _ => True) := by
  intro f
  have hN := two_le M.1
  induction f with
  | zero => intro i _ h; exact absurd h (by omega)
  | succ f ih =>
    intro i hi hf
    have ih := ih (i + 1)
    show Ret (fX5_basin_8 s (ll5 (fX5_basin_8 s) f) p w mr (nI (cnt (bs n kd Hh) i)) (nI i)) _ _
    generalize ll5 (fX5_basin_8 s) f = ag at ih ⊢
    unfold fX5_basin_8
    rw [lists_m M, bR_some, ite_le (by omega) (by omega)]
    by_cases c : 2 ^ n ≤ i
    · have e : i = 2 ^ n := by omega
      rw [if_pos c, e]
      exact Ret.mk trivial
    · have hw := wh_lt (kd := kd) (Hh := Hh) (show i < 2 ^ n by omega)
      have h := cnt_s (bs n kd Hh) i
      rw [if_neg c, gIn_nI (by omega) (by decide), nI_clamp (by omega), H i (by omega)]
      unfold fX5_basin_31
      by_cases d : bs n kd Hh i = true
      · rw [d] at h ⊢
        rw [if_pos rfl, if_neg (nI_neg (by omega)), nm_of, nm_of, nI_1 i]
        rw [b2_t rfl] at h
        rw [h]
        exact ih (by omega) (by omega)
      · have d : bs n kd Hh i = false := Bool.eq_false_iff.mpr d
        rw [d] at h ⊢
        rw [if_neg (show ¬ false = true by simp), if_pos (show (-1 : Int32) < 0 by decide), nm_of, nm_of, nI_1 i]
        rw [b2_f (by simp)] at h
        rw [h]
        exact ih (by omega) (by omega)
theorem op_basin (R : RA sz li to ki co te s n l kd cc Hh) (K : KV n kd Hh kn) : Both (fX4_basin sz ki te kn) (fX5_basin s pile wish mark) (fun k1 _ => KV n kd Hh k1) := by
  obtain ⟨P, M, -⟩ := R
  unfold fX4_basin fX5_basin
  refine Both.of (basin_loop P 1024 0 kn (Nat.zero_le _) (by have := two_le P.1; omega) K) (Q2 := fun _ => True) (RetV.b1 (looksWhere_r M) (fun k H => ?_)) (fun k1 k2 q1 _ => q1)
  exact basinM_loop M H.2 1024 0 (Nat.zero_le _) (by have := two_le M.1; omega)
/-- a fraction with 2^e below, in lowest terms -/
def rd : Nat → Nat → Nat × Nat
  | a, 0 => (a, 0)
  | a, e + 1 => if a % 2 = 0 then rd (a / 2) e else (a, e + 1)
theorem half_i : ∀ a, a < 257 → jlrem (lN a) 2 = lN (a % 2) ∧ lN a / 2 = lN (a / 2) ∧ jrem (nI a) 2 = nI (a % 2) ∧ nI a / 2 = nI (a / 2) := by decide +kernel
theorem pow_half (e : Nat) : 2 ^ (e + 1) / 2 = 2 ^ e := by rw [Nat.pow_succ]; omega
theorem rd_snd : ∀ (e a : Nat), (rd a e).2 ≤ e
  | 0, _ => Nat.le_refl 0
  | e + 1, a => by
    show (if a % 2 = 0 then rd (a / 2) e else (a, e + 1)).2 ≤ e + 1
    split
    · exact Nat.le_trans (rd_snd e (a / 2)) (by omega)
    · exact Nat.le_refl _
theorem rd_fst : ∀ (e a : Nat), (rd a e).1 ≤ a
  | 0, _ => Nat.le_refl _
  | e + 1, a => by
    show (if a % 2 = 0 then rd (a / 2) e else (a, e + 1)).1 ≤ a
    split
    · exact Nat.le_trans (rd_fst e (a / 2)) (Nat.div_le_self a 2)
    · exact Nat.le_refl _
theorem oddsC_red {y2 : Int32} : ∀ (e a i f : Nat), i + e ≤ 8 → e < f → a ≤ 256 → ll6 (fX4_odds_100 sz ki te) f kn fi y2 (lN a) (lN (2 ^ e)) (nI i) = fX4_odds_148 sz ki te kn fi y2 (lN (rd a e).1) (lN (2 ^ (rd a e).2)) := by
  intro e
  induction e with
  | zero =>
    intro a i f hi hf ha
    obtain ⟨g, rfl⟩ : ∃ g, f = g + 1 := ⟨f - 1, by omega⟩
    show fX4_odds_100 sz ki te (ll6 (fX4_odds_100 sz ki te) g) kn fi y2 (lN a) (lN 1) (nI i) = fX4_odds_148 sz ki te kn fi y2 (lN a) (lN 1)
    generalize ll6 (fX4_odds_100 sz ki te) g = ag
    unfold fX4_odds_100
    rw [fa_lit 8, ite_le (by decide) (by omega), if_neg (show ¬ lg_cmp (jlrem (lN 1) 2) 0 = 0 from by decide)]
    split <;> (try rfl)
    split <;> rfl
  | succ e ih =>
    intro a i f hi hf ha
    have h2 : 2 ^ (e + 1) ≤ 256 := two_le (by omega)
    obtain ⟨g, rfl⟩ : ∃ g, f = g + 1 := ⟨f - 1, by omega⟩
    have ih := ih (a / 2) (i + 1) g (by omega) (by omega) (by omega)
    show fX4_odds_100 sz ki te (ll6 (fX4_odds_100 sz ki te) g) kn fi y2 (lN a) (lN (2 ^ (e + 1))) (nI i) = _
    generalize ll6 (fX4_odds_100 sz ki te) g = ag at ih ⊢
    unfold fX4_odds_100
    obtain ⟨a1, a2, -, -⟩ := half_i a (by omega)
    obtain ⟨b1, b2, -, -⟩ := half_i (2 ^ (e + 1)) (by omega)
    have ev : 2 ^ (e + 1) % 2 = 0 := by rw [Nat.pow_succ]; omega
    rw [fa_lit 8, ite_le (by decide) (by omega), if_neg (by omega), a1, b1, a2, b2, ev, pow_half, nm_of, nm_of, nm_of, nI_1, if_pos (show lg_cmp (lN 0) 0 = 0 from by decide)]
    by_cases c : a % 2 = 0
    · rw [if_pos (by rw [lg_cmp_0, c]; rfl), ih]
      show _ = fX4_odds_148 sz ki te kn fi y2 (lN (if a % 2 = 0 then rd (a / 2) e else (a, e + 1)).1) (lN (2 ^ (if a % 2 = 0 then rd (a / 2) e else (a, e + 1)).2))
      rw [if_pos c]
    · rw [if_neg (by rw [lg_cmp_0]; intro q; exact c ((lN_eq (b := 0) (by omega) (by decide)).mp q))]
      show _ = fX4_odds_148 sz ki te kn fi y2 (lN (if a % 2 = 0 then rd (a / 2) e else (a, e + 1)).1) (lN (2 ^ (if a % 2 = 0 then rd (a / 2) e else (a, e + 1)).2))
      rw [if_neg c]
theorem oddsM_red {y2 : Int32} {p w mr : Nat → Int32} : ∀ (e a f : Nat), e ≤ 8 → e < f → a ≤ 256 → ll7 (fX5_odds_88 s) f st p w mr y2 (nI a) (nI (2 ^ e)) = fX5_odds_113 s st p w mr y2 (nI (rd a e).1) (nI (2 ^ (rd a e).2)) := by
  intro e
  induction e with
  | zero =>
    intro a f hi hf ha
    obtain ⟨g, rfl⟩ : ∃ g, f = g + 1 := ⟨f - 1, by omega⟩
    show fX5_odds_88 s (ll7 (fX5_odds_88 s) g) st p w mr y2 (nI a) (nI 1) = fX5_odds_113 s st p w mr y2 (nI a) (nI 1)
    generalize ll7 (fX5_odds_88 s) g = ag
    unfold fX5_odds_88
    rw [if_pos (show nI 1 ≤ 1 from by decide)]
    split <;> rfl
  | succ e ih =>
    intro a f hi hf ha
    have h2 : 2 ^ (e + 1) ≤ 256 := two_le (by omega)
    have h1 : 1 < 2 ^ (e + 1) := by rw [Nat.pow_succ]; have := Nat.one_le_two_pow (n := e); omega
    obtain ⟨g, rfl⟩ : ∃ g, f = g + 1 := ⟨f - 1, by omega⟩
    have ih := ih (a / 2) g (by omega) (by omega) (by omega)
    show fX5_odds_88 s (ll7 (fX5_odds_88 s) g) st p w mr y2 (nI a) (nI (2 ^ (e + 1))) = _
    generalize ll7 (fX5_odds_88 s) g = ag at ih ⊢
    unfold fX5_odds_88
    obtain ⟨-, -, a1, a2⟩ := half_i a (by omega)
    obtain ⟨-, -, b1, b2⟩ := half_i (2 ^ (e + 1)) (by omega)
    rw [a1, a2, b2, pow_half, nm_of, nm_of, fa_lit 1, ite_le (by omega) (by decide), if_neg (show ¬ 2 ^ (e + 1) ≤ 1 by omega), fa_lit 0, ite_eqN (by omega) (by decide)]
    by_cases c : a % 2 = 0
    · rw [if_pos c, ih]
      show _ = fX5_odds_113 s st p w mr y2 (nI (if a % 2 = 0 then rd (a / 2) e else (a, e + 1)).1) (nI (2 ^ (if a % 2 = 0 then rd (a / 2) e else (a, e + 1)).2))
      rw [if_pos c]
    · rw [if_neg c]
      show _ = fX5_odds_113 s st p w mr y2 (nI (if a % 2 = 0 then rd (a / 2) e else (a, e + 1)).1) (nI (2 ^ (if a % 2 = 0 then rd (a / 2) e else (a, e + 1)).2))
      rw [if_neg c]
def bo (n : Nat) (kd : Nat → Nat) (Hh : Nat → Nat → Bool) (g l : Nat) : Bool := bs n kd Hh l && (wh n kd Hh l).testBit g
/-- what odds answers -/
def oddsR (a n x : Nat) : Int64 := if x = 0 then lN (rd a n).1 else lN (2 ^ (rd a n).2)
theorem oddsC_loop (P : PC n kd Hh sz ki te) {g x : Nat} (hg : g < 8) (hx : x < 2) : ∀ (f i : Nat) (kn : Nat → Int32), i ≤ 2 ^ n → 2 ^ n - i < f → KV n kd Hh kn → Ret (ll7 (fX4_odds_43 sz ki te) f kn fi (nI g) (nI x) (lN (cnt (bo n kd Hh g) i)) (lN (2 ^ n)) (nI i)) (oddsR (cnt (bo n kd Hh g) (2 ^ n)) n x) (fun k => KV n kd Hh k.1 ∧ k.2 = fi) := by
  intro f
  have hN := two_le P.1
  have hn := P.1
  induction f with
  | zero => intro i kn _ h; exact absurd h (by omega)
  | succ f ih =>
    intro i kn hi hf K
    have ih := ih (i + 1)
    have hc := cnt_le (bo n kd Hh g) i
    show Ret (fX4_odds_43 sz ki te (ll7 (fX4_odds_43 sz ki te) f) kn fi (nI g) (nI x) (lN (cnt (bo n kd Hh g) i)) (lN (2 ^ n)) (nI i)) _ _
    generalize ll7 (fX4_odds_43 sz ki te) f = ag at ih ⊢
    unfold fX4_odds_43 fX4_odds_91
    rw [lists_p P, bR_some, ite_le (by omega) (by omega)]
    by_cases c : 2 ^ n ≤ i
    · have e : i = 2 ^ n := by omega
      subst e
      have e := oddsC_red (sz := sz) (ki := ki) (te := te) (kn := kn) (fi := fi) (y2 := nI x) n (cnt (bo n kd Hh g) (2 ^ n)) 0 1024 (by omega) (by omega) (by omega)
      have e : ll6 (fX4_odds_100 sz ki te) qF kn fi (nI x) (lN (cnt (bo n kd Hh g) (2 ^ n))) (lN (2 ^ n)) 0 = _ := e
      rw [if_pos c, e]
      unfold fX4_odds_148 oddsR
      rcases (show x = 0 ∨ x = 1 by omega) with rfl | rfl
      · rw [if_pos (show nI 0 = 0 from rfl), if_pos rfl]; exact Ret.mk ⟨K, rfl⟩
      · rw [if_neg (show ¬ nI 1 = 0 by decide), if_neg (by omega)]; exact Ret.mk ⟨K, rfl⟩
    · rw [if_neg c]
      have hw := wh_lt (kd := kd) (Hh := Hh) (show i < 2 ^ n by omega)
      refine Ret.b1 (behind_r P K (l := i) (m := 256) (by omega) (by omega)) (fun k hk => ?_)
      refine Ret.b1 (isSettled_r P hk (l := wh n kd Hh i) (by omega)) (fun k2 hk2 => ?_)
      have ih := ih k2 (by omega) (by omega) hk2
      have e : cnt (bo n kd Hh g) (i + 1) = cnt (bo n kd Hh g) i + if bo n kd Hh g i then 1 else 0 := rfl
      rw [e] at ih
      rw [ite_b2, nm_of, nm_of, nm_of, nI_1]
      unfold bo at ih
      by_cases d : Wd n kd Hh (wh n kd Hh i) = wh n kd Hh i
      · rw [if_pos d]
        rw [show bs n kd Hh i = true from decide_eq_true d, Bool.true_and] at ih
        have e2 : (jshr (nI (it (Wd n kd Hh) 256 i)) (nI g) &&& 1) = b2 ((wh n kd Hh i).testBit g = true) := shr_i (wh n kd Hh i) (by omega) g hg
        rw [e2]
        cases h : (wh n kd Hh i).testBit g with
        | false =>
          rw [h, if_neg (by simp), Nat.add_zero] at ih
          rw [b2_f (by simp), show (0 : Int32).toInt64 = lN 0 from rfl, lN_add, Nat.add_zero]
          exact ih
        | true =>
          rw [h, if_pos rfl] at ih
          rw [b2_t rfl, show (1 : Int32).toInt64 = lN 1 from rfl, lN_add]
          exact ih
      · rw [if_neg d]
        rw [show bs n kd Hh i = false from decide_eq_false d, Bool.false_and, if_neg (by simp), Nat.add_zero] at ih
        exact ih
theorem oddsM_loop (M : PM n kd Hh s) {p w mr : Nat → Int32} (H : WM n kd Hh (2 ^ n) mr) {g x : Nat} (hg : g < 8) (hx : x < 2) : ∀ (f i : Nat), i ≤ 2 ^ n → 2 ^ n - i < f → Ret (ll8 (fX5_odds_35 s) f st p w mr (nI g) (nI x) (nI (cnt (bo n kd Hh g) i)) (nI i)) (oddsR (cnt (bo n kd Hh g) (2 ^ n)) n x) (fun k => k.1 = st) := by
  intro f
  have hN := two_le M.1
  have hn := M.1
  induction f with
  | zero => intro i _ h; exact absurd h (by omega)
  | succ f ih =>
    intro i hi hf
    have ih := ih (i + 1)
    have hc := cnt_le (bo n kd Hh g) i
    show Ret (fX5_odds_35 s (ll8 (fX5_odds_35 s) f) st p w mr (nI g) (nI x) (nI (cnt (bo n kd Hh g) i)) (nI i)) _ _
    generalize ll8 (fX5_odds_35 s) f = ag at ih ⊢
    unfold fX5_odds_35
    rw [lists_m M, bR_some, ite_le (by omega) (by omega)]
    by_cases c : 2 ^ n ≤ i
    · have e : i = 2 ^ n := by omega
      subst e
      have h1 := rd_fst n (cnt (bo n kd Hh g) (2 ^ n))
      have h2 : 2 ^ (rd (cnt (bo n kd Hh g) (2 ^ n)) n).2 ≤ 256 := two_le (by have := rd_snd n (cnt (bo n kd Hh g) (2 ^ n)); omega)
      have e := oddsM_red (s := s) (st := st) (p := p) (w := w) (mr := mr) (y2 := nI x) n (cnt (bo n kd Hh g) (2 ^ n)) 1024 (by omega) (by omega) (by omega)
      have e : ll7 (fX5_odds_88 s) qF st p w mr (nI x) (nI (cnt (bo n kd Hh g) (2 ^ n))) (nI (2 ^ n)) = _ := e
      rw [if_pos c, bR_some, e]
      unfold fX5_odds_113 oddsR
      rw [nI_l (by omega), nI_l (by omega)]
      rcases (show x = 0 ∨ x = 1 by omega) with rfl | rfl
      · rw [if_pos (show nI 0 = 0 from rfl), if_pos rfl]; exact Ret.mk rfl
      · rw [if_neg (show ¬ nI 1 = 0 by decide), if_neg (by omega)]; exact Ret.mk rfl
    · have hw := wh_lt (kd := kd) (Hh := Hh) (show i < 2 ^ n by omega)
      have ih := ih (by omega) (by omega)
      have e : cnt (bo n kd Hh g) (i + 1) = cnt (bo n kd Hh g) i + if bo n kd Hh g i then 1 else 0 := rfl
      rw [e] at ih
      rw [if_neg c, gIn_nI (by omega) (by decide), gIn_nI (by omega) (by decide), nI_clamp (by omega), H i (by omega)]
      unfold fX5_odds_73 fX5_odds_74
      rw [nm_of, nm_of, nm_of, nm_of, nI_1 i]
      unfold bo at ih
      cases d : bs n kd Hh i with
      | true =>
        rw [d, Bool.true_and] at ih
        rw [if_pos rfl, if_neg (nI_neg (by omega)), hasM_i (by omega) hg, bR_some, ite_b2]
        cases h : (wh n kd Hh i).testBit g with
        | false =>
          rw [h, if_neg (by simp), Nat.add_zero] at ih
          rw [if_neg (by simp), fa_lit 0, nI_add, Nat.add_zero]
          exact ih
        | true =>
          rw [h, if_pos rfl] at ih
          rw [if_pos rfl, nI_1]
          exact ih
      | false =>
        rw [d, Bool.false_and, if_neg (by simp), Nat.add_zero] at ih
        rw [if_neg (show ¬ false = true by simp), if_pos (show (-1 : Int32) < 0 by decide), fa_lit 0, nI_add, Nat.add_zero]
        exact ih
theorem op_odds (R : RA sz li to ki co te s n l kd cc Hh) (K : KV n kd Hh kn) (F : FS fi st) (x1 x2 : Int32) : Both (fX4_odds sz ki te kn fi x1 x2) (fX5_odds s st pile wish mark x1 x2) (fun k1 k2 => KV n kd Hh k1.1 ∧ FS k1.2 k2.1) := by
  obtain ⟨P, M, -⟩ := R
  have hn := P.1
  have hN := two_le hn
  unfold fX4_odds fX5_odds fX4_odds_20 fX5_odds_18
  rw [show fX0_has sz x1 = some (b2 (0 ≤ x1.toInt ∧ x1.toInt < n), ()) from by rw [P.2.1]; exact has_g hn x1, isG_g M, bR_some, bR_some, ite_b2, ite_b2, in_32 x2 0 1 (by decide) (by decide), bR_some, ite_b2, fnd_1, fns_1, bR_some, bR_some]
  by_cases h : 0 ≤ x1.toInt ∧ x1.toInt < n
  · rw [if_pos h, if_pos h]
    obtain ⟨g, hg, rfl⟩ := i_ex (x := x1) (n := n) (by omega) h.1 h.2
    by_cases h2 : 0 ≤ x2.toInt ∧ x2.toInt ≤ 1
    · rw [if_pos h2]
      obtain ⟨x, hx, rfl⟩ := i_ex (x := x2) (n := 2) (by decide) h2.1 (by omega)
      obtain ⟨k, e, -, H⟩ := looksWhere_r (pile := pile) (wish := wish) (mark := mark) M
      rw [e, bV_some]
      obtain ⟨k2, q1, q2⟩ := oddsM_loop (st := st) (p := k.1) (w := k.2.1) M H (g := g) (x := x) (by omega) hx 1024 0 (Nat.zero_le _) (by omega)
      have q1 : ll8 (fX5_odds_35 s) qF st k.1 k.2.1 k.2.2 (nI g) (nI x) 0 0 = some (_, k2) := q1
      obtain ⟨k1, p1, p2, p3⟩ := oddsC_loop (fi := fi) P (g := g) (x := x) (by omega) hx 1024 0 kn (Nat.zero_le _) (by omega) K
      have e4 : fX4_odds_28 sz ki te kn fi (nI g) (nI x) = some (oddsR (cnt (bo n kd Hh g) (2 ^ n)) n x, k1) := by
        unfold fX4_odds_28
        rw [lists_p P, bR_some, nm_of, nI_l (by omega)]
        exact p1
      rw [q1, e4]
      have e5 : (if nI x = 0 then some (oddsR (cnt (bo n kd Hh g) (2 ^ n)) n x, k1) else (if nI x = 1 then some (oddsR (cnt (bo n kd Hh g) (2 ^ n)) n x, k1) else some ((-1000000001 : Int32).toInt64, (kn, upd fi 0 (fi 0 + 1))))) = some (oddsR (cnt (bo n kd Hh g) (2 ^ n)) n x, k1) := by
        rcases (show x = 0 ∨ x = 1 by omega) with rfl | rfl
        · exact if_pos rfl
        · rw [if_neg (show ¬ nI 1 = 0 by decide), if_pos (show nI 1 = 1 from rfl)]
      rw [e5]
      exact Both.mk ⟨p2, by rw [p3, q2]; exact F⟩
    · rw [if_neg h2, if_neg (fun e => h2 (by rw [e]; decide)), if_neg (fun e => h2 (by rw [e]; decide))]
      exact Both.mk ⟨K, F.up (by decide)⟩
  · rw [if_neg h, if_neg h]
    exact Both.mk ⟨K, F.up (by decide)⟩
end OPS3
