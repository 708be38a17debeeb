/-! whom to get, who spoils it -/
def Both2 {α κ1 κ2 : Type} (o1 : Option (α × κ1)) (o2 : Option (α × κ2)) (T : α → Prop) (Q : κ1 → κ2 → Prop) : Prop := ∃ r k1 k2, o1 = some (r, k1) ∧ o2 = some (r, k2) ∧ T r ∧ Q k1 k2
theorem Both2.mk {α κ1 κ2 : Type} {T : α → Prop} {Q : κ1 → κ2 → Prop} {r : α} {k1 : κ1} {k2 : κ2} (t : T r) (h : Q k1 k2) : Both2 (some (r, k1)) (some (r, k2)) T Q := ⟨r, k1, k2, rfl, rfl, t, h⟩
/-- one round, some being on each list, none but some on any -/
def lst (n : Nat) (kd : Nat → Nat) (Hh : Nat → Nat → Bool) (b a l : Nat) : Nat := (Wd n kd Hh l &&& a) ||| b
def lastN (n : Nat) (kd : Nat → Nat) (Hh : Nat → Nat → Bool) (b a : Nat) : Nat := it (lst n kd Hh b a) 64 b
theorem it_congr {f g : Nat → Nat} (h : ∀ l, f l = g l) : ∀ k l, it f k l = it g k l
  | 0, _ => rfl
  | k + 1, l => by show it f k (f l) = it g k (g l); rw [h l]; exact it_congr h k (g l)
section OPS4
variable {sz li to : Int32} {ki co : Nat → Int32} {te : Nat → Int64} {s kn fi st pile wish mark : Nat → Int32} {n l : Nat} {kd cc : Nat → Nat} {Hh : Nat → Nat → Bool}
theorem lst_lt {b a : Nat} (hb : b < 2 ^ n) (l : Nat) : lst n kd Hh b a l < 2 ^ n := Nat.or_lt_two_pow (Nat.lt_of_le_of_lt Nat.and_le_left (Wd_lt n kd Hh l)) hb
theorem lastN_lt {b a : Nat} (hb : b < 2 ^ n) : lastN n kd Hh b a < 2 ^ n := it_lt (lst_lt hb) hb 64
theorem lastOf_loop (P : PC n kd Hh sz ki te) {b a : Nat} (hb : b < 2 ^ n) : ∀ (f i y : Nat) (z : Int32) (kn : Nat → Int32), i ≤ 64 → 64 - i < f → y < 2 ^ n → (z = -1 ∨ ∃ z', z' < 2 ^ n ∧ z = nI z' ∧ lst n kd Hh b a z' = y) → KV n kd Hh kn → Ret (ll6 (fX0_lastOf_8 sz ki te) f kn (nI b) (nI a) (nI y) z (nI i)) (nI (it (lst n kd Hh b a) (64 - i) y)) (KV n kd Hh) := by
  intro f
  have hN := two_le P.1
  induction f with
  | zero => intro i y z kn _ h; exact absurd h (by omega)
  | succ f ih =>
    intro i y z kn hi hf hy hz K
    have ih := ih (i + 1)
    show Ret (fX0_lastOf_8 sz ki te (ll6 (fX0_lastOf_8 sz ki te) f) kn (nI b) (nI a) (nI y) z (nI i)) _ _
    generalize ll6 (fX0_lastOf_8 sz ki te) f = ag at ih ⊢
    unfold fX0_lastOf_8
    rw [fa_lit 64, ite_le (by decide) (by omega)]
    by_cases c : 64 ≤ i
    · rw [if_pos c, show 64 - i = 0 by omega]
      exact Ret.mk K
    · rw [if_neg c]
      by_cases d : nI y = z
      · rw [if_pos d]
        rcases hz with q | ⟨z', q1, q2, q3⟩
        · rw [q] at d; exact absurd d (nI_m1 (by omega))
        · rw [q2] at d
          have e := (nI_eq (by omega) (by omega)).mp d
          subst e
          rw [it_fix q3]
          exact Ret.mk K
      · rw [if_neg d]
        refine Ret.b1 (comers_r P K (l := y) (by omega)) (fun k hk => ?_)
        rw [nm_of, nm_of, nI_1, fa_and, fa_or, show 64 - i = 64 - (i + 1) + 1 by omega]
        exact ih (lst n kd Hh b a y) (nI y) k (by omega) (by omega) (lst_lt hb y) (Or.inr ⟨y, hy, rfl, rfl⟩) hk
theorem lastOf_r (P : PC n kd Hh sz ki te) (K : KV n kd Hh kn) {b a : Nat} (hb : b < 2 ^ n) : Ret (fX0_lastOf sz ki te kn (nI b) (nI a)) (nI (lastN n kd Hh b a)) (KV n kd Hh) := lastOf_loop P hb 1024 0 b (-1) kn (by omega) (by omega) hb (Or.inl rfl) K
theorem lastOfM_loop (hn : n ≤ 8) {w : Nat → Int32} (V : WV n kd Hh w) {b a : Nat} (hb : b < 2 ^ n) : ∀ (f i y : Nat), i ≤ 64 → 64 - i < f → y < 2 ^ n → ll4 (fX5_lastOf_5 w) f (nI b) (nI a) (nI y) (nI i) = some (nI (it (lst n kd Hh b a) (64 - i) y), ()) := by
  intro f
  have hN := two_le hn
  induction f with
  | zero => intro i y _ h; exact absurd h (by omega)
  | succ f ih =>
    intro i y hi hf hy
    have ih := ih (i + 1)
    show fX5_lastOf_5 w (ll4 (fX5_lastOf_5 w) f) (nI b) (nI a) (nI y) (nI i) = _
    generalize ll4 (fX5_lastOf_5 w) f = ag at ih ⊢
    unfold fX5_lastOf_5
    rw [fa_lit 64, ite_le (by decide) (by omega)]
    by_cases c : 64 ≤ i
    · rw [if_pos c, show 64 - i = 0 by omega]; rfl
    · rw [if_neg c, gIn_nI (by omega) (by decide), nI_clamp (by omega), V y hy, nm_of, nm_of, nI_1, fa_and, fa_or, show 64 - i = 64 - (i + 1) + 1 by omega]
      exact ih (lst n kd Hh b a y) (by omega) (by omega) (lst_lt hb y)
theorem lastOfM_eq (hn : n ≤ 8) {w : Nat → Int32} (V : WV n kd Hh w) {b a : Nat} (hb : b < 2 ^ n) : fX5_lastOf w (nI b) (nI a) = some (nI (lastN n kd Hh b a), ()) := lastOfM_loop hn V hb 1024 0 b (by omega) (by omega) hb
theorem and_n {x : Nat} (h : x < 2 ^ n) : x &&& (2 ^ n - 1) = x := by rw [Nat.and_two_pow_sub_one_eq_mod]; exact Nat.mod_eq_of_lt h
theorem lastN_255 (hn : n ≤ 8) (b : Nat) : lastN n kd Hh b 255 = lastN n kd Hh b (2 ^ n - 1) := by
  unfold lastN
  apply it_congr
  intro l
  unfold lst
  rw [and_n (Wd_lt n kd Hh l), and255 (Wd_256 hn kd Hh l)]
theorem lastE_eq (hn : n ≤ 8) {w : Nat → Int32} (V : WV n kd Hh w) {b : Nat} (hb : b < 2 ^ n) : fX5_lastOf w (nI b) 255 = some (nI (lastN n kd Hh b (2 ^ n - 1)), ()) := by
  rw [fa_lit 255, lastOfM_eq hn V hb, lastN_255 hn]
theorem op_last (R : RA sz li to ki co te s n l kd cc Hh) (K : KV n kd Hh kn) (F : FS fi st) (x1 : Int32) : Both (fX4_last sz ki te kn fi x1) (fX5_last s st pile wish x1) (fun k1 k2 => KV n kd Hh k1.1 ∧ FS k1.2 k2.1) := by
  obtain ⟨P, M, -⟩ := R
  have hn := P.1
  have hN := two_le hn
  unfold fX4_last fX5_last
  rw [show fX0_isSet sz x1 = some (b2 (0 ≤ x1.toInt ∧ x1.toInt < (2 ^ n : Nat)), ()) from by rw [P.2.1]; exact isSet_g hn x1, isList_g M, bR_some, bR_some, ite_b2, ite_b2, fnd_1, fns_1, bR_some, bR_some]
  by_cases h : 0 ≤ x1.toInt ∧ x1.toInt < (2 ^ n : Nat)
  · rw [if_pos h, if_pos h]
    obtain ⟨v, hv, rfl⟩ := i_ex (x := x1) (n := 2 ^ n) (by omega) h.1 h.2
    obtain ⟨k, e, V⟩ := looksAll_r M pile wish
    obtain ⟨k1, q1, q2⟩ := lastOf_r P K (b := v) (a := 2 ^ n - 1) hv
    rw [e, bV_some, lastE_eq hn V hv, bR_some, every_p P, bR_some, q1, bR_some]
    exact Both.mk ⟨q2, F⟩
  · rw [if_neg h, if_neg h]
    exact Both.mk ⟨K, F.up (by decide)⟩
theorem i_sub {x y : Int32} (h1 : -2147483648 ≤ x.toInt - y.toInt) (h2 : x.toInt - y.toInt ≤ 2147483647) : (x - y).toInt = x.toInt - y.toInt := by
  rw [Int32.toInt_sub, Int.bmod_eq_of_le (by omega) (by omega)]
theorem sub_i {a b : Nat} (ha : a < 2 ^ 30) (hb : b < 2 ^ 30) : (nI a - nI b).toInt = (a : Int) - b := by
  rw [i_sub (by rw [nI_toInt (by omega), nI_toInt (by omega)]; omega) (by rw [nI_toInt (by omega), nI_toInt (by omega)]; omega), nI_toInt (by omega), nI_toInt (by omega)]
/-- one set is better bought than another -/
def chp (cc : Nat → Nat) (n i b : Nat) : Prop := csum cc i n < csum cc b n ∨ (csum cc i n = csum cc b n ∧ pop i < pop b)
theorem isCheaper_eq (hn : n ≤ 8) (hc : ∀ g, g < n → cc g < 100 ∧ co g = nI (cc g)) {i b : Nat} (hi : i < 256) (hb : b < 256) : (chp cc n i b → fX4_isCheaper (nI n) co (nI i) (nI b) = some (1, ())) ∧ (¬ chp cc n i b → fX4_isCheaper (nI n) co (nI i) (nI b) = some (0, ())) := by
  have h1 := csum_le (co := cc) (l := i) (n := n) (fun g hg => (hc g hg).1)
  have h2 := csum_le (co := cc) (l := b) (n := n) (fun g hg => (hc g hg).1)
  have p1 := pop_le i
  have p2 := pop_le b
  unfold fX4_isCheaper chp
  rw [costsOf_eq hn hc hi, costsOf_eq hn hc hb, bR_some, bR_some, pop_i i hi, pop_i b hb, bR_some, bR_some, ite_lt (by omega) (by omega), ite_eqN (by omega) (by omega), ite_le (by omega) (by omega)]
  constructor
  · intro h
    by_cases c : csum cc i n < csum cc b n
    · rw [if_pos c]
    · rw [if_neg c, if_pos (by omega), if_neg (by omega)]
  · intro h
    rw [if_neg (by omega)]
    by_cases c : csum cc i n = csum cc b n
    · rw [if_pos c, if_pos (by omega)]
    · rw [if_neg c]
theorem buy_loop (R : RA sz li to ki co te s n l kd cc Hh) {w p : Nat → Int32} (V : WV n kd Hh w) {m : Nat} (hm : m ≤ 8) : ∀ (f i : Nat) (y : Int32) (kn : Nat → Int32), i ≤ 2 ^ n → 2 ^ n - i < f → (y = -1 ∨ ∃ b, b < 2 ^ n ∧ y = nI b) → KV n kd Hh kn → Both2 (ll4 (fX4_cheapestFor_4 sz ki co te) f kn (nI m) y (nI i)) (ll5 (fX5_bestBuy_8 s) f p w (nI m) y (nI i)) (fun r => r = -1 ∨ ∃ b, b < 2 ^ n ∧ r = nI b) (fun k1 _ => KV n kd Hh k1) := by
  intro f
  have cM := R.cM
  have cC := R.cC
  obtain ⟨P, M, -⟩ := R
  have hn := P.1
  have hN := two_le hn
  have hsz := P.2.1
  subst hsz
  induction f with
  | zero => intro i y kn _ h; exact absurd h (by omega)
  | succ f ih =>
    intro i y kn hi hf hy K
    have ih := ih (i + 1)
    show Both2 (fX4_cheapestFor_4 (nI n) ki co te (ll4 (fX4_cheapestFor_4 (nI n) ki co te) f) kn (nI m) y (nI i)) (fX5_bestBuy_8 s (ll5 (fX5_bestBuy_8 s) f) p w (nI m) y (nI i)) _ _
    generalize ll4 (fX4_cheapestFor_4 (nI n) ki co te) f = ag1 at ih ⊢
    generalize ll5 (fX5_bestBuy_8 s) f = ag2 at ih ⊢
    unfold fX4_cheapestFor_4 fX5_bestBuy_8
    rw [lists_c hn, lists_m M, bR_some, bR_some, ite_le (by omega) (by omega), ite_le (by omega) (by omega)]
    by_cases c : 2 ^ n ≤ i
    · rw [if_pos c, if_pos c]
      exact Both2.mk hy K
    · have hi2 : i < 2 ^ n := by omega
      have hL := lastN_lt (kd := kd) (Hh := Hh) (a := 2 ^ n - 1) hi2
      have hp := pop_le (lastN n kd Hh i (2 ^ n - 1))
      rw [if_neg c, if_neg c, lastE_eq hn V hi2, bR_some, ones_i _ (by omega), bR_some, ite_lt (by omega) (by omega)]
      unfold fX4_cheapestFor_28 fX4_cheapestFor_33 fX4_cheapestFor_64 fX5_bestBuy_79
      rw [if_neg (show ¬ (1 : Int32) = 0 by decide), if_pos (show (0 : Int32) = 0 from rfl), nm_of, nm_of, nI_1, everyone_c hn, bR_some]
      obtain ⟨k1, q1, q2⟩ := lastOf_r P K (b := i) (a := 2 ^ n - 1) hi2
      rw [q1, bR_some, pop_i _ (by omega), bR_some, ite_lt (by omega) (by omega), nm_of, nm_of]
      have e78 : ∀ y', fX5_bestBuy_78 s ag2 p w y' (nI m) (nI i) = ag2 p w (nI m) y' (nI (i + 1)) := by
        intro y'; unfold fX5_bestBuy_78 fX5_bestBuy_79; rw [nm_of, nI_1]
      have e73 : fX5_bestBuy_73 s ag2 p w (nI m) (nI i) = ag2 p w (nI m) (nI i) (nI (i + 1)) := by unfold fX5_bestBuy_73; exact e78 _
      have e77 : ∀ y', fX5_bestBuy_77 s ag2 p w (nI m) y' (nI i) = ag2 p w (nI m) y' (nI (i + 1)) := by intro y'; unfold fX5_bestBuy_77; exact e78 _
      by_cases d : pop (lastN n kd Hh i (2 ^ n - 1)) < m
      · rw [if_pos d, if_pos d]
        rcases hy with rfl | ⟨b, hb, rfl⟩
        · rw [if_pos (show (-1 : Int32) < 0 by decide)]
          exact ih _ k1 (by omega) (by omega) (Or.inl rfl) q2
        · rw [if_neg (nI_neg (by omega))]
          by_cases z : chp cc n i b
          · rw [(isCheaper_eq hn cC (by omega) (by omega)).1 z, bR_some, if_neg (show ¬ (1 : Int32) = 0 by decide)]
            exact ih _ k1 (by omega) (by omega) (Or.inr ⟨b, hb, rfl⟩) q2
          · rw [(isCheaper_eq hn cC (by omega) (by omega)).2 z, bR_some, if_pos (show (0 : Int32) = 0 from rfl)]
            exact ih _ kn (by omega) (by omega) (Or.inr ⟨b, hb, rfl⟩) K
      · rw [if_neg d, if_neg d]
        unfold fX5_bestBuy_50
        rcases hy with rfl | ⟨b, hb, rfl⟩
        · rw [if_pos (show (-1 : Int32) < 0 by decide), if_neg (show ¬ (0 : Int32) ≤ -1 by decide), e73]
          exact ih _ k1 (by omega) (by omega) (Or.inr ⟨i, hi2, rfl⟩) q2
        · have h1 := csum_le (co := cc) (l := i) (n := n) (fun g hg => (cC g hg).1)
          have h2 := csum_le (co := cc) (l := b) (n := n) (fun g hg => (cC g hg).1)
          have p1 := pop_le i
          have p2 := pop_le b
          have hs := sub_i (a := csum cc i n) (b := csum cc b n) (by omega) (by omega)
          have e0 : (0 : Int32).toInt = 0 := by decide
          rw [if_neg (nI_neg (by omega)), if_pos (nI_0le (by omega)), costOf_eq hn M.2.1 cM (by omega), costOf_eq hn M.2.1 cM (by omega), bR_some, bR_some, ones_i i (by omega), ones_i b (by omega), bR_some, bR_some, e73, e77, ite_le (by omega) (by omega)]
          by_cases z : chp cc n i b
          · rw [(isCheaper_eq hn cC (by omega) (by omega)).1 z, bR_some, if_neg (show ¬ (1 : Int32) = 0 by decide)]
            unfold chp at z
            by_cases z1 : csum cc i n < csum cc b n
            · rw [if_pos (show nI (csum cc i n) - nI (csum cc b n) < 0 by rw [Int32.lt_iff_toInt_lt, hs]; omega)]
              exact ih _ k1 (by omega) (by omega) (Or.inr ⟨i, hi2, rfl⟩) q2
            · rw [if_neg (show ¬ nI (csum cc i n) - nI (csum cc b n) < 0 by rw [Int32.lt_iff_toInt_lt, hs]; omega), if_pos (show nI (csum cc i n) - nI (csum cc b n) = 0 by rw [← Int32.toInt_inj, hs]; omega), if_neg (by omega)]
              exact ih _ k1 (by omega) (by omega) (Or.inr ⟨i, hi2, rfl⟩) q2
          · rw [(isCheaper_eq hn cC (by omega) (by omega)).2 z, bR_some, if_pos (show (0 : Int32) = 0 from rfl)]
            unfold chp at z
            rw [if_neg (show ¬ nI (csum cc i n) - nI (csum cc b n) < 0 by rw [Int32.lt_iff_toInt_lt, hs]; omega)]
            by_cases z1 : csum cc i n = csum cc b n
            · rw [if_pos (show nI (csum cc i n) - nI (csum cc b n) = 0 by rw [← Int32.toInt_inj, hs]; omega), if_pos (by omega)]
              exact ih _ kn (by omega) (by omega) (Or.inr ⟨b, hb, rfl⟩) K
            · rw [if_neg (show ¬ nI (csum cc i n) - nI (csum cc b n) = 0 by rw [← Int32.toInt_inj, hs]; omega)]
              exact ih _ kn (by omega) (by omega) (Or.inr ⟨b, hb, rfl⟩) K
theorem buy_r (R : RA sz li to ki co te s n l kd cc Hh) (K : KV n kd Hh kn) {m : Nat} (hm : m ≤ 8) : Both2 (fX4_cheapestFor sz ki co te kn (nI m)) (fX5_bestBuy s pile wish (nI m)) (fun r => r = -1 ∨ ∃ b, b < 2 ^ n ∧ r = nI b) (fun k1 _ => KV n kd Hh k1) := by
  unfold fX5_bestBuy
  obtain ⟨k, e, V⟩ := looksAll_r R.2.1 pile wish
  rw [e, bV_some]
  exact buy_loop R V hm 1024 0 (-1) kn (Nat.zero_le _) (by have := two_le R.1.1; omega) (Or.inl rfl) K
theorem orNone_neg : fX5_orNone st (-1) = some (-1000000004, upd st 3 (st 3 + 1)) := by
  unfold fX5_orNone
  rw [if_neg (show ¬ (0 : Int32) ≤ -1 by decide), fns_4, bR_some]
theorem orNone_nI {b : Nat} (hb : b < 2 ^ 31) : fX5_orNone st (nI b) = some (nI b, st) := by
  unfold fX5_orNone
  rw [if_pos (nI_0le hb)]
theorem op_buys (R : RA sz li to ki co te s n l kd cc Hh) (K : KV n kd Hh kn) (F : FS fi st) (x1 : Int32) : Both (fX4_buys sz ki co te kn fi x1) (fX5_buys s st pile wish x1) (fun k1 k2 => KV n kd Hh k1.1 ∧ FS k1.2 k2.1) := by
  have hN := two_le R.1.1
  unfold fX4_buys fX5_buys fX4_buys_10
  have e0 : (0 : Int32).toInt = 0 := by decide
  have e8 : (8 : Int32).toInt = 8 := by decide
  rw [in_32 x1 0 8 (by decide) (by decide), bR_some, ite_b2, fnd_1, fns_1, bR_some, bR_some]
  by_cases h : 0 ≤ x1.toInt ∧ x1.toInt ≤ 8
  · rw [if_pos h, if_neg (show ¬ x1 < 0 by rw [Int32.lt_iff_toInt_lt]; omega), if_pos (show x1 ≤ 8 by rw [Int32.le_iff_toInt_le]; omega)]
    obtain ⟨m, hm, rfl⟩ := i_ex (x := x1) (n := 9) (by decide) h.1 (by omega)
    obtain ⟨r, k1, k2, q1, q2, t, q3⟩ := buy_r (pile := pile) (wish := wish) R K (m := m) (by omega)
    rw [q1, q2, bR_some, bR_some]
    rcases t with rfl | ⟨b, hb, rfl⟩
    · rw [orNone_neg, bR_some, if_neg (show ¬ (0 : Int32) ≤ -1 by decide), fnd_4, bR_some]
      exact Both.mk ⟨q3, F.up (by decide)⟩
    · rw [orNone_nI (by omega), bR_some, if_pos (nI_0le (by omega))]
      exact Both.mk ⟨q3, F⟩
  · rw [if_neg h]
    by_cases h1 : x1 < 0
    · rw [if_pos h1]; exact Both.mk ⟨K, F.up (by decide)⟩
    · rw [if_neg h1, if_neg (show ¬ x1 ≤ 8 by rw [Int32.lt_iff_toInt_lt] at h1; rw [Int32.le_iff_toInt_le]; omega)]
      exact Both.mk ⟨K, F.up (by decide)⟩
theorem op_price (R : RA sz li to ki co te s n l kd cc Hh) (K : KV n kd Hh kn) (F : FS fi st) (x1 : Int32) : Both (fX4_price sz ki co te kn fi x1) (fX5_price s st pile wish x1) (fun k1 k2 => KV n kd Hh k1.1 ∧ FS k1.2 k2.1) := by
  have hN := two_le R.1.1
  unfold fX4_price fX5_price fX4_price_10
  have e0 : (0 : Int32).toInt = 0 := by decide
  have e8 : (8 : Int32).toInt = 8 := by decide
  rw [in_32 x1 0 8 (by decide) (by decide), bR_some, ite_b2, fnd_1, fns_1, bR_some, bR_some]
  by_cases h : 0 ≤ x1.toInt ∧ x1.toInt ≤ 8
  · rw [if_pos h, if_neg (show ¬ x1 < 0 by rw [Int32.lt_iff_toInt_lt]; omega), if_pos (show x1 ≤ 8 by rw [Int32.le_iff_toInt_le]; omega)]
    obtain ⟨m, hm, rfl⟩ := i_ex (x := x1) (n := 9) (by decide) h.1 (by omega)
    obtain ⟨r, k1, k2, q1, q2, t, q3⟩ := buy_r (pile := pile) (wish := wish) R K (m := m) (by omega)
    rw [q1, q2, bR_some, bR_some, fnd_4, fns_4, bR_some, bR_some]
    rcases t with rfl | ⟨b, hb, rfl⟩
    · rw [if_neg (show ¬ (0 : Int32) ≤ -1 by decide), if_neg (show ¬ (0 : Int32) ≤ -1 by decide)]
      exact Both.mk ⟨q3, F.up (by decide)⟩
    · rw [if_pos (nI_0le (by omega)), if_pos (nI_0le (by omega)), costOf_eq R.1.1 R.2.1.2.1 R.cM (by omega), show fX0_costsOf sz co (nI b) = some (nI (csum cc b n), ()) from by rw [R.1.2.1]; exact costsOf_eq R.1.1 R.cC (by omega), bR_some, bR_some]
      exact Both.mk ⟨q3, F⟩
  · rw [if_neg h]
    by_cases h1 : x1 < 0
    · rw [if_pos h1]; exact Both.mk ⟨K, F.up (by decide)⟩
    · rw [if_neg h1, if_neg (show ¬ x1 ≤ 8 by rw [Int32.lt_iff_toInt_lt] at h1; rw [Int32.le_iff_toInt_le]; omega)]
      exact Both.mk ⟨K, F.up (by decide)⟩
theorem lastN_clr (hn : n ≤ 8) (g : Nat) : lastN n kd Hh 0 (clr 255 g) = lastN n kd Hh 0 (clr (2 ^ n - 1) g) := by
  unfold lastN
  apply it_congr
  intro l
  unfold lst clr
  rw [← Nat.and_assoc, ← Nat.and_assoc, and_n (Wd_lt n kd Hh l), and255 (Wd_256 hn kd Hh l)]
theorem spoils_loop (P : PC n kd Hh sz ki te) (M : PM n kd Hh s) {w p : Nat → Int32} (V : WV n kd Hh w) (F : FS fi st) : ∀ (f i : Nat) (y z : Int32) (kn : Nat → Int32), i ≤ n → n - i < f → (y = -1 ∨ ∃ b, b < 8 ∧ y = nI b) → KV n kd Hh kn → Both (ll5 (fX4_spoils_7 sz ki te) f kn fi y z (nI i)) (ll6 (fX5_spoils_11 s) f st p w y z (nI i)) (fun k1 k2 => KV n kd Hh k1.1 ∧ FS k1.2 k2.1) := by
  intro f
  have hn := P.1
  have hN := two_le hn
  have h0 : 0 < 2 ^ n := Nat.one_le_two_pow
  have hsz := P.2.1
  subst hsz
  induction f with
  | zero => intro i y z kn _ h; exact absurd h (by omega)
  | succ f ih =>
    intro i y z kn hi hf hy K
    have ih := ih (i + 1)
    show Both (fX4_spoils_7 (nI n) ki te (ll5 (fX4_spoils_7 (nI n) ki te) f) kn fi y z (nI i)) (fX5_spoils_11 s (ll6 (fX5_spoils_11 s) f) st p w y z (nI i)) _
    generalize ll5 (fX4_spoils_7 (nI n) ki te) f = ag1 at ih ⊢
    generalize ll6 (fX5_spoils_11 s) f = ag2 at ih ⊢
    unfold fX4_spoils_7 fX5_spoils_11
    rw [M.2.1, ite_le (by omega) (by omega), ite_le (by omega) (by omega)]
    by_cases c : n ≤ i
    · rw [if_pos c, if_pos c]
      rcases hy with rfl | ⟨b, hb, rfl⟩
      · rw [orNone_neg, bR_some, if_neg (show ¬ (0 : Int32) ≤ -1 by decide), fnd_4, bR_some]
        exact Both.mk ⟨K, F.up (by decide)⟩
      · rw [orNone_nI (by omega), bR_some, if_pos (nI_0le (by omega))]
        exact Both.mk ⟨K, F⟩
    · have hL := lastN_lt (kd := kd) (Hh := Hh) (a := clr (2 ^ n - 1) i) h0
      have e255 : (255 : Int32) &&& (jshl 1 (nI i) ^^^ (-1)) = nI (clr 255 i) := clr_i (l := 255) (by decide) (by omega)
      rw [if_neg c, if_neg c, everyone_c hn, bR_some, clr_i (by omega) (by omega), e255, fa_lit 0, lastOfM_eq hn V h0, lastN_clr hn, bR_some, ones_i _ (by omega), bR_some]
      obtain ⟨k1, q1, q2⟩ := lastOf_r P K (b := 0) (a := clr (2 ^ n - 1) i) h0
      rw [q1, bR_some, pop_i _ (by omega), bR_some]
      unfold fX4_spoils_55 fX5_spoils_51 fX5_spoils_64
      rw [nm_of, nm_of, nm_of, nm_of, nI_1]
      by_cases d : z ≤ nI (pop (lastN n kd Hh 0 (clr (2 ^ n - 1) i)))
      · rw [if_pos d, if_pos d, if_pos d]
        exact ih y z k1 (by omega) (by omega) hy q2
      · rw [if_neg d, if_neg d, if_neg d]
        exact ih _ _ k1 (by omega) (by omega) (Or.inr ⟨i, by omega, rfl⟩) q2
theorem op_spoils (R : RA sz li to ki co te s n l kd cc Hh) (K : KV n kd Hh kn) (F : FS fi st) : Both (fX4_spoils sz ki te kn fi) (fX5_spoils s st pile wish) (fun k1 k2 => KV n kd Hh k1.1 ∧ FS k1.2 k2.1) := by
  unfold fX4_spoils fX5_spoils
  obtain ⟨k, e, V⟩ := looksAll_r R.2.1 pile wish
  rw [e, bV_some]
  exact spoils_loop R.1 R.2.1 V F 1024 0 (-1) 9 kn (Nat.zero_le _) (by have := R.1.1; omega) (Or.inl rfl) K
end OPS4
