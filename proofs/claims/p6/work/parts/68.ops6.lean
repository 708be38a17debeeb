section OPS6
variable {sz li to : Int32} {ki co : Nat → Int32} {te : Nat → Int64} {s kn fi st pile wish mark : Nat → Int32} {n l : Nat} {kd cc : Nat → Nat} {Hh : Nat → Nat → Bool}
/-- all of them together -/
def ors (f : Nat → Nat) : Nat → Nat
  | 0 => 0
  | i + 1 => ors f i ||| f i
theorem ors_t (f : Nat → Nat) (j : Nat) : ∀ N, (ors f N).testBit j = true ↔ ∃ i, i < N ∧ (f i).testBit j = true
  | 0 => by
    constructor
    · intro h; rw [show ors f 0 = 0 from rfl, Nat.zero_testBit] at h; cases h
    · rintro ⟨i, h, _⟩; omega
  | N + 1 => by
    have ih := ors_t f j N
    show (ors f N ||| f N).testBit j = true ↔ _
    rw [Nat.testBit_or, Bool.or_eq_true, ih]
    constructor
    · rintro (⟨i, h1, h2⟩ | h)
      · exact ⟨i, by omega, h2⟩
      · exact ⟨N, by omega, h⟩
    · rintro ⟨i, h1, h2⟩
      by_cases c : i = N
      · subst c; exact Or.inr h2
      · exact Or.inl ⟨i, by omega, h2⟩
theorem ors_lt {f : Nat → Nat} (hf : ∀ i, f i < 256) : ∀ N, ors f N < 256
  | 0 => by show (0 : Nat) < 256; omega
  | N + 1 => or_256 (ors_lt hf N) (hf N)
theorem xor_256 {a b : Nat} (ha : a < 256) (hb : b < 256) : a ^^^ b < 256 := Nat.xor_lt_two_pow (n := 8) ha hb
theorem set_has {l g : Nat} (h : l.testBit g = true) : l ||| 2 ^ g = l := by
  apply Nat.eq_of_testBit_eq
  intro i
  rw [Nat.testBit_or, Nat.testBit_two_pow]
  by_cases c : g = i
  · subst c; rw [h]; rfl
  · rw [decide_eq_false c, Bool.or_false]
theorem clr_not {l g : Nat} (hl : l < 256) (hg : g < 8) (h : l.testBit g = false) : clr l g = l := by
  apply Nat.eq_of_testBit_eq
  intro i
  rw [clr_t hl hg]
  by_cases c : i = g
  · subst c; rw [h]; rfl
  · rw [decide_eq_true c, Bool.and_true]
theorem clr_set {l g : Nat} (hl : l < 256) (hg : g < 8) : clr l g ||| 2 ^ g = l ||| 2 ^ g := by
  apply Nat.eq_of_testBit_eq
  intro i
  rw [Nat.testBit_or, Nat.testBit_or, clr_t hl hg, Nat.testBit_two_pow]
  by_cases c : g = i
  · subst c; simp
  · have c2 : ¬ i = g := fun q => c q.symm
    simp [c, c2]
/-- whom it counts for, as the class goes and as the reference goes -/
def mdC (n : Nat) (kd : Nat → Nat) (Hh : Nat → Nat → Bool) (g l : Nat) : Nat := Wd n kd Hh (l ||| 2 ^ g) ^^^ Wd n kd Hh (clr l g)
def mdM (n : Nat) (kd : Nat → Nat) (Hh : Nat → Nat → Bool) (g l : Nat) : Nat := Wd n kd Hh l ^^^ Wd n kd Hh (l ||| 2 ^ g)
theorem md_eq (hn : n ≤ 8) {g : Nat} (hg : g < n) : ors (mdC n kd Hh g) (2 ^ n) = ors (mdM n kd Hh g) (2 ^ n) := by
  have hN := two_le hn
  have h1 : ∀ l, l < 256 → mdC n kd Hh g l = mdM n kd Hh g (clr l g) := by
    intro l hl
    unfold mdC mdM
    rw [clr_set hl (by omega), Nat.xor_comm]
  have h2 : ∀ l, l < 256 → l.testBit g = true → mdM n kd Hh g l = 0 := by
    intro l hl h
    unfold mdM
    rw [set_has h, Nat.xor_self]
  apply Nat.eq_of_testBit_eq
  intro j
  have key : (ors (mdC n kd Hh g) (2 ^ n)).testBit j = true ↔ (ors (mdM n kd Hh g) (2 ^ n)).testBit j = true := by
    rw [ors_t, ors_t]
    constructor
    · rintro ⟨i, hi, h⟩
      rw [h1 i (by omega)] at h
      exact ⟨clr i g, Nat.lt_of_le_of_lt clr_le hi, h⟩
    · rintro ⟨i, hi, h⟩
      cases c : i.testBit g with
      | true => rw [h2 i (by omega) c, Nat.zero_testBit] at h; cases h
      | false =>
        refine ⟨i, hi, ?_⟩
        rw [h1 i (by omega), clr_not (by omega) (by omega) c]
        exact h
  cases e1 : (ors (mdC n kd Hh g) (2 ^ n)).testBit j with
  | true => exact (key.mp e1).symm
  | false =>
    cases e2 : (ors (mdM n kd Hh g) (2 ^ n)).testBit j with
    | false => rfl
    | true => rw [key.mpr e2] at e1; cases e1
theorem set_lt {g : Nat} (hg : g < n) {l : Nat} (hl : l < 2 ^ n) : l ||| 2 ^ g < 2 ^ n := Nat.or_lt_two_pow hl (Nat.pow_lt_pow_right (by decide) hg)
theorem mindsC_loop (P : PC n kd Hh sz ki te) {g : Nat} (hg : g < n) : ∀ (f i : Nat) (kn : Nat → Int32), i ≤ 2 ^ n → 2 ^ n - i < f → KV n kd Hh kn → Ret (ll5 (fX4_minds_27 sz ki te) f kn fi (nI (2 ^ g)) (nI (ors (mdC n kd Hh g) i)) (nI i)) (nI (clr (ors (mdC n kd Hh g) (2 ^ n)) g)) (fun k => KV n kd Hh k.1 ∧ k.2 = fi) := by
  intro f
  have hn := P.1
  have hN := two_le hn
  induction f with
  | zero => intro i kn _ h; exact absurd h (by omega)
  | succ f ih =>
    intro i kn hi hf K
    have ih := ih (i + 1)
    show Ret (fX4_minds_27 sz ki te (ll5 (fX4_minds_27 sz ki te) f) kn fi (nI (2 ^ g)) (nI (ors (mdC n kd Hh g) i)) (nI i)) _ _
    generalize ll5 (fX4_minds_27 sz ki te) f = ag at ih ⊢
    have hO : ∀ i, mdC n kd Hh g i < 256 := fun i => xor_256 (Wd_256 hn kd Hh _) (Wd_256 hn kd Hh _)
    have e1 : ∀ x, x < 256 → nI x &&& (nI (2 ^ g) ^^^ (-1)) = nI (clr x g) := by
      intro x hx
      rw [← bit_i g (by omega)]
      exact clr_i hx (by omega)
    unfold fX4_minds_27
    rw [lists_p P, bR_some, ite_le (by omega) (by omega)]
    by_cases c : 2 ^ n ≤ i
    · have e : i = 2 ^ n := by omega
      subst e
      rw [if_pos c, e1 _ (ors_lt hO _)]
      exact Ret.mk ⟨K, rfl⟩
    · have hs := set_lt hg (show i < 2 ^ n by omega)
      have hcl : clr i g < 256 := clr_lt (by omega)
      rw [if_neg c, fa_or, e1 i (by omega)]
      refine Ret.b1 (comers_r P K (l := i ||| 2 ^ g) (by omega)) (fun k hk => ?_)
      refine Ret.b1 (comers_r P hk hcl) (fun k2 hk2 => ?_)
      rw [nm_of, nm_of, nI_1, fa_xor, fa_or]
      exact ih k2 (by omega) (by omega) hk2
theorem mindsM_loop (M : PM n kd Hh s) {w p : Nat → Int32} (V : WV n kd Hh w) {g : Nat} (hg : g < n) : ∀ (f i : Nat), i ≤ 2 ^ n → 2 ^ n - i < f → Ret (ll6 (fX5_minds_23 s) f st p w (nI g) (nI (ors (mdM n kd Hh g) i)) (nI i)) (nI (clr (ors (mdM n kd Hh g) (2 ^ n)) g)) (fun k => k.1 = st) := by
  intro f
  have hn := M.1
  have hN := two_le hn
  induction f with
  | zero => intro i _ h; exact absurd h (by omega)
  | succ f ih =>
    intro i hi hf
    have ih := ih (i + 1)
    show Ret (fX5_minds_23 s (ll6 (fX5_minds_23 s) f) st p w (nI g) (nI (ors (mdM n kd Hh g) i)) (nI i)) _ _
    generalize ll6 (fX5_minds_23 s) f = ag at ih ⊢
    have hO : ∀ i, mdM n kd Hh g i < 256 := fun i => xor_256 (Wd_256 hn kd Hh _) (Wd_256 hn kd Hh _)
    unfold fX5_minds_23
    rw [lists_m M, bR_some, ite_le (by omega) (by omega)]
    by_cases c : 2 ^ n ≤ i
    · have e : i = 2 ^ n := by omega
      subst e
      rw [if_pos c, clr_i (ors_lt hO _) (by omega)]
      exact Ret.mk rfl
    · have hs := set_lt hg (show i < 2 ^ n by omega)
      rw [if_neg c, bit_i g (by omega), fa_or, gIn_nI (by omega) (by decide), gIn_nI (by omega) (by decide), nI_clamp (by omega), nI_clamp (by omega), V i (by omega), V _ hs, nm_of, nm_of, nI_1, fa_xor, fa_or]
      exact ih (by omega) (by omega)
theorem op_minds (R : RA sz li to ki co te s n l kd cc Hh) (K : KV n kd Hh kn) (F : FS fi st) (x1 : Int32) : Both (fX4_minds sz ki te kn fi x1) (fX5_minds s st pile wish x1) (fun k1 k2 => KV n kd Hh k1.1 ∧ FS k1.2 k2.1) := by
  obtain ⟨P, M, -⟩ := R
  have hn := P.1
  have hN := two_le hn
  unfold fX4_minds fX5_minds
  rw [show fX0_has sz x1 = some (b2 (0 ≤ x1.toInt ∧ x1.toInt < n), ()) from by rw [P.2.1]; exact has_g hn x1, isG_g M, bR_some, bR_some, ite_b2, ite_b2, fnd_1, fns_1, bR_some, bR_some]
  by_cases h : 0 ≤ x1.toInt ∧ x1.toInt < n
  · rw [if_pos h, if_pos h]
    obtain ⟨g, hg, rfl⟩ := i_ex (x := x1) (n := n) (by omega) h.1 h.2
    obtain ⟨k, e, V⟩ := looksAll_r M pile wish
    rw [e, bV_some, nm_of, bit_i g (by omega)]
    obtain ⟨k1, q1, q2, q3⟩ := mindsC_loop (fi := fi) P hg 1024 0 kn (Nat.zero_le _) (by omega) K
    obtain ⟨k2, p1, p2⟩ := mindsM_loop (st := st) (p := k.1) M V hg 1024 0 (Nat.zero_le _) (by omega)
    have q1 : ll5 (fX4_minds_27 sz ki te) qF kn fi (nI (2 ^ g)) 0 0 = some (_, k1) := q1
    have p1 : ll6 (fX5_minds_23 s) qF st k.1 k.2 (nI g) 0 0 = some (_, k2) := p1
    rw [q1, p1, md_eq hn hg]
    exact Both.mk ⟨q2, by rw [q3, p2]; exact F⟩
  · rw [if_neg h, if_neg h]
    exact Both.mk ⟨K, F.up (by decide)⟩
/-! a guest as of another kind -/
theorem Wd_un {g k : Nat} (hn : n ≤ 8) (hg : g < n) (l : Nat) : Wd n (un kd g k) Hh l = clr (Wd n kd Hh l) g ||| (if cm k (Hh g l) (pop (clr l g)) = true then 2 ^ g else 0) := by
  apply Nat.eq_of_testBit_eq
  intro i
  rw [Nat.testBit_or, clr_t (Wd_256 hn kd Hh l) (by omega)]
  unfold Wd
  rw [wdn_t, wdn_t]
  by_cases c : i = g
  · subst c
    rw [un_s, decide_eq_true hg, Bool.true_and, decide_eq_false (fun q => q rfl), Bool.and_false, Bool.false_or]
    by_cases d : cm k (Hh i l) (pop (clr l i)) = true
    · rw [if_pos d, d, Nat.testBit_two_pow, decide_eq_true rfl]
    · rw [if_neg d, Nat.zero_testBit]; exact Bool.eq_false_iff.mpr d
  · rw [un_n c, decide_eq_true c, Bool.and_true]
    have : (if cm k (Hh g l) (pop (clr l g)) = true then 2 ^ g else 0).testBit i = false := by
      split
      · rw [Nat.testBit_two_pow]; exact decide_eq_false (fun q => c q.symm)
      · exact Nat.zero_testBit i
    rw [this, Bool.or_false]
theorem comersAs_r (P : PC n kd Hh sz ki te) (K : KV n kd Hh kn) {g k l : Nat} (hg : g < n) (hk : k < 6) (hl : l < 256) : Ret (fX0_comersAs sz ki te kn (nI g) (nI k) (nI l)) (nI (Wd n (un kd g k) Hh l)) (KV n kd Hh) := by
  have hn := P.1
  unfold fX0_comersAs
  refine Ret.b1 (comers_r P K hl) (fun k1 hk1 => ?_)
  rw [nm_of, clr_i (Wd_256 hn kd Hh l) (by omega), wca_eq te hk (by omega) hl, bR_some, ite_b2, ← P.2.2.2 g hg l hl, bit_i g (by omega), Wd_un hn hg]
  by_cases d : cm k (Hh g l) (pop (clr l g)) = true
  · rw [if_pos d, if_pos d, fa_or]; exact Ret.mk hk1
  · rw [if_neg d, if_neg d, Nat.or_zero]; exact Ret.mk hk1
theorem settledAs_loop (P : PC n kd Hh sz ki te) {g k : Nat} (hg : g < n) (hk : k < 6) : ∀ (f i : Nat) (kn : Nat → Int32), i ≤ 2 ^ n → 2 ^ n - i < f → KV n kd Hh kn → Ret (ll5 (fX0_settledAs_5 sz ki te) f kn (nI g) (nI k) (nI (cnt (ss n (un kd g k) Hh) i)) (nI i)) (nI (cnt (ss n (un kd g k) Hh) (2 ^ n))) (KV n kd Hh) := by
  intro f
  have hn := P.1
  have hN := two_le hn
  induction f with
  | zero => intro i kn _ h; exact absurd h (by omega)
  | succ f ih =>
    intro i kn hi hf K
    have ih := ih (i + 1)
    show Ret (fX0_settledAs_5 sz ki te (ll5 (fX0_settledAs_5 sz ki te) f) kn (nI g) (nI k) (nI (cnt (ss n (un kd g k) Hh) i)) (nI i)) _ _
    generalize ll5 (fX0_settledAs_5 sz ki te) f = ag at ih ⊢
    unfold fX0_settledAs_5 fX0_settledAs_33
    rw [lists_p P, bR_some, ite_le (by omega) (by omega)]
    by_cases c : 2 ^ n ≤ i
    · have e : i = 2 ^ n := by omega
      rw [if_pos c, e]
      exact Ret.mk K
    · rw [if_neg c]
      refine Ret.b1 (comersAs_r P K hg hk (l := i) (by omega)) (fun k1 hk1 => ?_)
      have h := cnt_s (ss n (un kd g k) Hh) i
      rw [oneIf_0, oneIf_1, bR_some, bR_some, nm_of, nm_of, nm_of, nm_of, nI_1 i, ite_eqN (by have := Wd_256 hn (un kd g k) Hh i; omega) (by omega)]
      by_cases d : Wd n (un kd g k) Hh i = i
      · rw [b2_t (show ss n (un kd g k) Hh i = true from decide_eq_true d)] at h
        rw [if_pos d, h]
        exact ih k1 (by omega) (by omega) hk1
      · rw [b2_f (show ¬ ss n (un kd g k) Hh i = true from by unfold ss; rw [decide_eq_false d]; simp)] at h
        rw [if_neg d, h]
        exact ih k1 (by omega) (by omega) hk1
theorem PM_kind (M : PM n kd Hh s) {g k : Nat} (hg : g < n) (hk : k < 6) : PM n (un kd g k) Hh (upd s (2 + 3 * g) (nI k)) := by
  obtain ⟨b1, b2, b3, b4⟩ := M
  refine ⟨b1, by rw [pk_un (by omega)]; exact b2, fun j hj => ?_, fun j hj => (b4 j hj).congr (pk_un (by omega)) (fun k hk => pk_un (by omega))⟩
  by_cases e : j = g
  · subst e; rw [un_s, pk_us]; exact ⟨hk, rfl⟩
  · rw [un_n e, pk_un (by omega)]; exact b3 j hj
theorem upd_upd (f : Nat → Int32) (i : Nat) (x y : Int32) : upd (upd f i x) i y = upd f i y := by
  funext j
  by_cases c : j = i
  · subst c; rw [pk_us, pk_us]
  · rw [pk_un c, pk_un c, pk_un c]
theorem upd_self {f : Nat → Int32} {i : Nat} {x : Int32} (h : f i = x) : upd f i x = f := by
  funext j
  by_cases c : j = i
  · subst c; rw [pk_us, h]
  · rw [pk_un c]
theorem kind_loop (P : PC n kd Hh sz ki te) (M : PM n kd Hh s) (F : FS fi st) {g : Nat} (hg : g < n) : ∀ (f i : Nat) (y y' z : Int32) (kn p w : Nat → Int32) (v : Int32), i ≤ 6 → 6 - i < f → ((i = 0 ∧ y = 0 ∧ y' = -1 ∧ z = -1) ∨ (0 < i ∧ y = y')) → KV n kd Hh kn → Both (ll6 (fX4_kind_25 sz ki te) f kn fi (nI g) y z (nI i)) (ll9 fX5_kind_30 f (upd s (2 + 3 * g) v) st p w (nI g) (nI (kd g)) y' z (nI i)) (fun k1 k2 => KV n kd Hh k1.1 ∧ k2.1 = s ∧ FS k1.2 k2.2.1) := by
  intro f
  have hn := P.1
  have hN := two_le hn
  induction f with
  | zero => intro i y y' z kn p w v _ h; exact absurd h (by omega)
  | succ f ih =>
    intro i y y' z kn p w v hi hf hy K
    have ih := ih (i + 1)
    show Both (fX4_kind_25 sz ki te (ll6 (fX4_kind_25 sz ki te) f) kn fi (nI g) y z (nI i)) (fX5_kind_30 (ll9 fX5_kind_30 f) (upd s (2 + 3 * g) v) st p w (nI g) (nI (kd g)) y' z (nI i)) _
    generalize ll6 (fX4_kind_25 sz ki te) f = ag1 at ih ⊢
    generalize ll9 fX5_kind_30 f = ag2 at ih ⊢
    unfold fX4_kind_25 fX5_kind_30
    have e : 2 + 3 * nI g = nI (2 + 3 * g) := by rw [fa_lit 2, fa_lit 3, nI_mulL, nI_add]
    rw [e, gIn_nI (by omega) (by decide), gIn_nI (by omega) (by decide), nI_clamp (by omega), upd_upd, upd_upd, fa_lit 6, ite_le (by decide) (by omega), ite_le (by decide) (by omega)]
    by_cases c : 6 ≤ i
    · rw [if_pos c, if_pos c, upd_self (M.2.2.1 g hg).2]
      rcases hy with ⟨h, -⟩ | ⟨-, h⟩
      · omega
      · exact Both.mk' h ⟨K, rfl, F⟩
    · rw [if_neg c, if_neg c]
      obtain ⟨k1, q1, q2⟩ := settledAs_loop P hg (show i < 6 by omega) 1024 0 kn (Nat.zero_le _) (by omega) K
      have q1 : fX0_settledAs sz ki te kn (nI g) (nI i) = some (nI (cnt (ss n (un kd g i) Hh) (2 ^ n)), k1) := q1
      obtain ⟨k2, p1, -⟩ := manySettled_r (pile := p) (wish := w) (PM_kind M hg (show i < 6 by omega))
      have hc := cnt_le (ss n (un kd g i) Hh) (2 ^ n)
      rw [q1, p1, bR_some, bR_some]
      unfold fX4_kind_56 fX5_kind_68 fX5_kind_83
      rw [nm_of, nm_of, nm_of, nm_of, nI_1]
      have hr : ¬ nI (cnt (ss n (un kd g i) Hh) (2 ^ n)) ≤ -1 := by
        rw [Int32.le_iff_toInt_le, nI_toInt (by omega), show (-1 : Int32).toInt = -1 from by decide]
        omega
      generalize nI (cnt (ss n (un kd g i) Hh) (2 ^ n)) = r at hr ⊢
      rcases hy with ⟨h1, h2, h3, h4⟩ | ⟨h1, h2⟩
      · subst h1; subst h4
        rw [if_neg hr, if_neg hr, if_neg hr]
        exact ih _ _ _ k1 _ _ _ (by omega) (by omega) (Or.inr ⟨by omega, rfl⟩) q2
      · subst h2
        by_cases d : r ≤ z
        · rw [if_pos d, if_pos d, if_pos d]
          exact ih _ _ _ k1 _ _ _ (by omega) (by omega) (Or.inr ⟨by omega, rfl⟩) q2
        · rw [if_neg d, if_neg d, if_neg d]
          exact ih _ _ _ k1 _ _ _ (by omega) (by omega) (Or.inr ⟨by omega, rfl⟩) q2
theorem op_kind (R : RA sz li to ki co te s n l kd cc Hh) (K : KV n kd Hh kn) (F : FS fi st) (x1 : Int32) : Both (fX4_kind sz ki te kn fi x1) (fX5_kind s st pile wish x1) (fun k1 k2 => KV n kd Hh k1.1 ∧ k2.1 = s ∧ FS k1.2 k2.2.1) := by
  obtain ⟨P, M, -⟩ := R
  have hn := P.1
  unfold fX4_kind fX5_kind
  rw [show fX0_has sz x1 = some (b2 (0 ≤ x1.toInt ∧ x1.toInt < n), ()) from by rw [P.2.1]; exact has_g hn x1, isG_g M, bR_some, bR_some, ite_b2, ite_b2, fnd_1, fns_1, bR_some, bR_some]
  by_cases h : 0 ≤ x1.toInt ∧ x1.toInt < n
  · rw [if_pos h, if_pos h]
    obtain ⟨g, hg, rfl⟩ := i_ex (x := x1) (n := n) (by omega) h.1 h.2
    rw [its_0 s (by omega), bR_some, (M.2.2.1 g hg).2]
    have := kind_loop P M F hg 1024 0 0 (-1) (-1) kn pile wish (nI (kd g)) (by omega) (by omega) (Or.inl ⟨rfl, rfl, rfl, rfl⟩) K
    rw [upd_self (M.2.2.1 g hg).2] at this
    exact this
  · rw [if_neg h, if_neg h]
    exact Both.mk ⟨K, rfl, F.up (by decide)⟩
end OPS6
