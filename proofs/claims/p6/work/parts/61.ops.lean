section OPS
variable {sz li to : Int32} {ki co : Nat → Int32} {te : Nat → Int64} {s kn fi st pile wish mark : Nat → Int32} {n l : Nat} {kd cc : Nat → Nat} {Hh : Nat → Nat → Bool}
theorem tb_m1 {te : Nat → Int64} {g l : Nat} (h : te (4 * g + l / 64) = -1) : tb te g l = true := by
  unfold tb
  rw [h]
  exact (by decide +kernel : ∀ i, i < 64 → (-1 : Int64).toBitVec.getLsbD i = true) (l % 64) (Nat.mod_lt _ (by decide))
theorem RA.guest (R : RA sz li to ki co te s n l kd cc Hh) {k v : Nat} (hn : n < 8) (hk : k < 6) (hv : v < 100) {s' : Nat → Int32} (e0 : s' 0 = nI (n + 1)) (e2 : s' (2 + 3 * n) = nI k) (e3 : s' (3 + 3 * n) = nI v) (e4 : s' (4 + 3 * n) = 0) (ee : ∀ j, ¬ j = 0 → ¬ j = 2 + 3 * n → ¬ j = 3 + 3 * n → ¬ j = 4 + 3 * n → s' j = s j) : RA (nI (n + 1)) li to (upd ki n (nI k)) (upd co n (nI v)) te s' (n + 1) l (un kd n k) (un cc n v) (fun g l => if g = n then true else Hh g l) := by
  obtain ⟨⟨a1, a2, a3, a4⟩, ⟨b1, b2, b3, b4⟩, c, d, ⟨t, t1, t2, t3⟩, f⟩ := R
  have h2 : 2 ^ n < 2 ^ (n + 1) := Nat.pow_lt_pow_right (by decide) (by omega)
  refine ⟨⟨by omega, rfl, fun g hg => ?_, fun g hg q hq => ?_⟩, ⟨by omega, e0, fun g hg => ?_, fun g hg => ?_⟩, ⟨by omega, c.2.1, by rw [ee 1 (by omega) (by omega) (by omega) (by omega)]; exact c.2.2⟩, fun g hg => ?_, ⟨t, by omega, t2, fun g hg => ?_⟩, fun j h1 h2 => f j (by omega) h2⟩
  · by_cases e : g = n
    · subst e; rw [un_s, pk_us]; exact ⟨hk, rfl⟩
    · rw [un_n e, pk_un e]; exact a3 g (by omega)
  · show (if g = n then true else Hh g q) = _
    by_cases e : g = n
    · subst e; rw [if_pos rfl, tb_m1 (f _ (by omega) (by omega))]
    · rw [if_neg e]; exact a4 g (by omega) q hq
  · by_cases e : g = n
    · subst e; rw [un_s]; exact ⟨hk, e2⟩
    · rw [un_n e, ee _ (by omega) (by omega) (by omega) (by omega)]; exact b3 g (by omega)
  · by_cases e : g = n
    · subst e
      refine ⟨0, fun _ => 0, by omega, e4, fun k hk => absurd hk (by omega), fun _ q _ => if_pos rfl, fun h => absurd h (by omega)⟩
    · have := b4 g (by omega)
      have e5 : (fun l => if g = n then true else Hh g l) = Hh g := by funext q; rw [if_neg e]
      show TK g (fun l => if g = n then true else Hh g l) s'
      rw [e5]
      exact this.congr (ee _ (by omega) (by omega) (by omega) (by omega)) (fun k hk => ee _ (by omega) (by omega) (by omega) (by omega))
  · by_cases e : g = n
    · subst e; rw [un_s, pk_us]; exact ⟨hv, rfl, e3⟩
    · rw [un_n e, pk_un e, ee _ (by omega) (by omega) (by omega) (by omega)]; exact d g (by omega)
  · by_cases e : g = n
    · subst e
      rw [e4, Nat.testBit_lt_two_pow t1]
      simp
    · rw [ee _ (by omega) (by omega) (by omega) (by omega)]; exact t3 g (by omega)
theorem op_guest (R : RA sz li to ki co te s n l kd cc Hh) (K : KV n kd Hh kn) (F : FS fi st) (x1 x2 : Int32) : Both (fX4_guest sz ki co kn fi x1 x2) (fX5_guest s st x1 x2) (fun k1 k2 => (∃ n' kd' cc' Hh', RA k1.1 li to k1.2.1 k1.2.2.1 te k2.1 n' l kd' cc' Hh' ∧ KV n' kd' Hh' k1.2.2.2.1) ∧ FS k1.2.2.2.2 k2.2) := by
  have R0 := R
  obtain ⟨P, M, hL, hC, hT, -⟩ := R
  have hn := P.1
  have hsz := P.2.1
  subst hsz
  unfold fX4_guest fX5_guest
  rw [isKind_b2, isCost_b2, in_32 x1 0 5 (by decide) (by decide), in_32 x2 0 99 (by decide) (by decide), bR_some, bR_some, bR_some, bR_some, ite_b2, ite_b2, ite_b2, ite_b2]
  unfold fX4_guest_14 fX5_guest_24
  rw [fnd_1, fns_1, bR_some, bR_some]
  by_cases h : 0 ≤ x1.toInt ∧ x1.toInt ≤ 5
  · rw [if_pos h, if_pos h]
    by_cases h2 : 0 ≤ x2.toInt ∧ x2.toInt ≤ 99
    · rw [if_pos h2, if_pos h2, M.2.1, fa_lit 8, ite_le (by decide) (by omega), ite_eqN (by omega) (by decide), fnd_2, fns_2, bR_some, bR_some]
      obtain ⟨k, hk, rfl⟩ := i_ex (x := x1) (n := 6) (by decide) h.1 (by omega)
      obtain ⟨v, hv, rfl⟩ := i_ex (x := x2) (n := 100) (by decide) h2.1 (by omega)
      by_cases h8 : n = 8
      · rw [if_pos (by omega), if_pos h8]
        exact Both.mk ⟨⟨n, kd, cc, Hh, R0, K⟩, F.up (by decide)⟩
      · rw [if_neg (by omega), if_neg h8]
        unfold fX0_welcome
        have e : 2 + 3 * nI n = nI (2 + 3 * n) := by rw [fa_lit 2, fa_lit 3, nI_mulL, nI_add]
        have e1 : nI (2 + 3 * n) + 1 = nI (3 + 3 * n) := by rw [nI_1]; congr 1; omega
        have e2 : nI (2 + 3 * n) + 2 = nI (4 + 3 * n) := by rw [fa_lit 2, nI_add]; congr 1; omega
        rw [gIn_nI (by omega) (by decide), gIn_nI (by omega) (by decide), nm_of, fillI 256 (by decide), bV_some, bR_some, e, nm_of, e1, e2, gIn_nI (by omega) (by decide), gIn_nI (by omega) (by decide), gIn_nI (by omega) (by decide), nI_clamp (by omega), nI_clamp (by omega), nI_clamp (by omega), nI_clamp (by omega), pk_us, pk_un (show ¬ 0 = 4 + 3 * n by omega), pk_un (show ¬ 0 = 3 + 3 * n by omega), pk_un (show ¬ 0 = 2 + 3 * n by omega), M.2.1, nI_1]
        refine Both.mk' (by rw [fa_lit 1, nI_sub1 (by omega)]; rfl) ⟨⟨n + 1, _, _, _, R0.guest (by omega) hk hv ?_ ?_ ?_ ?_ ?_, KV_new kn⟩, F⟩
        · dsimp only; rw [pk_us]
        · dsimp only; rw [pk_un (by omega), pk_un (by omega), pk_un (by omega), pk_us]
        · dsimp only; rw [pk_un (by omega), pk_un (by omega), pk_us]
        · dsimp only; rw [pk_un (by omega), pk_us]
        · intro j h0 h2 h3 h4
          dsimp only
          rw [pk_un h0, pk_un h4, pk_un h3, pk_un h2]
    · rw [if_neg h2, if_neg h2]
      exact Both.mk ⟨⟨n, kd, cc, Hh, R0, K⟩, F.up (by decide)⟩
  · rw [if_neg h, if_neg h]
    exact Both.mk ⟨⟨n, kd, cc, Hh, R0, K⟩, F.up (by decide)⟩
theorem op_list (R : RA sz li to ki co te s n l kd cc Hh) (F : FS fi st) (x1 : Int32) : Both (fX4_list sz li fi x1) (fX5_list s st x1) (fun k1 k2 => (∃ l', RA sz k1.1 to ki co te k2.1 n l' kd cc Hh) ∧ FS k1.2 k2.2) := by
  have R0 := R
  obtain ⟨P, M, hL, hC, hT, -⟩ := R
  have hn := P.1
  have hN := two_le hn
  have hsz := P.2.1
  subst hsz
  unfold fX4_list fX5_list
  rw [isSet_g hn, isList_g M, bR_some, bR_some, ite_b2, ite_b2, fnd_1, fns_1, bR_some, bR_some]
  by_cases h : 0 ≤ x1.toInt ∧ x1.toInt < (2 ^ n : Nat)
  · rw [if_pos h, if_pos h]
    obtain ⟨v, hv, rfl⟩ := i_ex (x := x1) (n := 2 ^ n) (by omega) h.1 h.2
    rw [fa_lit 1, becomes_eq (by decide), bR_some]
    exact Both.mk' (hL.2.1.trans hL.2.2.symm) ⟨⟨v, R0.list hv⟩, F⟩
  · rw [if_neg h, if_neg h]
    exact Both.mk ⟨⟨l, R0⟩, F.up (by decide)⟩
theorem RA.cM (R : RA sz li to ki co te s n l kd cc Hh) : ∀ g, g < n → cc g < 100 ∧ s (3 + 3 * g) = nI (cc g) := fun g hg => ⟨(R.2.2.2.1 g hg).1, (R.2.2.2.1 g hg).2.2⟩
theorem RA.cC (R : RA sz li to ki co te s n l kd cc Hh) : ∀ g, g < n → cc g < 100 ∧ co g = nI (cc g) := fun g hg => ⟨(R.2.2.2.1 g hg).1, (R.2.2.2.1 g hg).2.1⟩
theorem op_now (R : RA sz li to ki co te s n l kd cc Hh) (K : KV n kd Hh kn) (F : FS fi st) (x1 : Int32) : Both (fX4_now sz li ki co te kn fi x1) (fX5_now s st pile x1) (fun k1 k2 => KV n kd Hh k1.1 ∧ FS k1.2 k2.1) := by
  have hl := R.l256
  have cM := R.cM
  have cC := R.cC
  obtain ⟨P, M, hL, hC, hT, -⟩ := R
  have hn := P.1
  have hsz := P.2.1
  subst hsz
  unfold fX4_now fX5_now
  by_cases h : x1.toInt < 0 ∨ 4 < x1.toInt
  · rw [if_pos h, if_pos h, fnd_1, fns_1, bR_some, bR_some]
    exact Both.mk ⟨K, F.up (by decide)⟩
  · rw [if_neg h, if_neg h, hL.2.1, hL.2.2]
    obtain ⟨w, hw, rfl⟩ := i_ex (x := x1) (n := 5) (by decide) (by omega) (by omega)
    match w, hw with
    | 0, _ =>
      rw [if_pos (by decide), if_pos (by decide)]
      exact Both.mk ⟨K, F⟩
    | 1, _ =>
      rw [if_neg (by decide), if_pos (by decide), if_neg (by decide), if_pos (by decide), pop_i l hl, ones_i l hl, bR_some, bR_some]
      exact Both.mk ⟨K, F⟩
    | 2, _ =>
      rw [if_neg (by decide), if_neg (by decide), if_pos (by decide), if_neg (by decide), if_neg (by decide), if_pos (by decide)]
      exact Both.of (Q1 := fun k => KV n kd Hh k.1 ∧ k.2 = fi) (Q2 := fun k => k.1 = st) (Ret.b1 (comers_r P K hl) (fun k hk => Ret.mk ⟨hk, rfl⟩)) (Ret.b1 (would_r M hl pile) (fun k _ => ⟨_, rfl, rfl⟩)) (fun k1 k2 q1 q2 => ⟨q1.1, by rw [q1.2, q2]; exact F⟩)
    | 3, _ =>
      rw [if_neg (by decide), if_neg (by decide), if_neg (by decide), if_pos (by decide), if_neg (by decide), if_neg (by decide), if_neg (by decide), if_pos (by decide)]
      refine Both.of (r := b2 (Wd n kd Hh l = l)) (Q1 := fun k => KV n kd Hh k.1 ∧ k.2 = fi) (Q2 := fun k => k.1 = st) (Ret.b1 (isSettled_r P K hl) (fun k hk => ?_)) (Ret.b1 (would_r M hl pile) (fun k _ => ?_)) (fun k1 k2 q1 q2 => ⟨q1.1, by rw [q1.2, q2]; exact F⟩)
      · rw [oneIf_b2, bR_some]; exact Ret.mk ⟨hk, rfl⟩
      · have hw := Wd_256 hn kd Hh l
        rw [ite_eqN (by omega) (by omega)]
        by_cases c : Wd n kd Hh l = l
        · rw [if_pos c, b2_t c]; exact Ret.mk rfl
        · rw [if_neg c, b2_f c]; exact Ret.mk rfl
    | 4, _ =>
      rw [if_neg (by decide), if_neg (by decide), if_neg (by decide), if_neg (by decide), if_pos (by decide), if_neg (by decide), if_neg (by decide), if_neg (by decide), if_neg (by decide), if_pos (by decide), costsOf_eq hn cC hl, costOf_eq hn M.2.1 cM hl, bR_some, bR_some]
      exact Both.mk ⟨K, F⟩
    | w + 5, h => exact absurd h (by omega)
theorem wd_bit {g : Nat} (hg : g < n) : Wd n kd Hh l &&& 2 ^ g = if cm (kd g) (Hh g l) (pop (clr l g)) = true then 2 ^ g else 0 := by
  apply Nat.eq_of_testBit_eq
  intro i
  unfold Wd
  rw [Nat.testBit_and, wdn_t, Nat.testBit_two_pow]
  by_cases c : g = i
  · subst c
    rw [decide_eq_true hg, decide_eq_true rfl, Bool.true_and, Bool.and_true]
    by_cases d : cm (kd g) (Hh g l) (pop (clr l g)) = true
    · rw [if_pos d, d, Nat.testBit_two_pow, decide_eq_true rfl]
    · rw [if_neg d, Nat.zero_testBit]
      exact Bool.eq_false_iff.mpr d
  · rw [decide_eq_false c, Bool.and_false]
    split
    · rw [Nat.testBit_two_pow, decide_eq_false c]
    · rw [Nat.zero_testBit]
theorem calledM_r (M : PM n kd Hh s) {g : Nat} (hg : g < n) (hl : l < 256) (pile : Nat → Int32) : Ret (fX5_called s pile (nI l) (nI g)) (nI (cal n kd Hh l g)) (fun _ => True) := by
  unfold fX5_called
  refine Ret.b1 (comesBy_r M hg hl pile) (fun k _ => ?_)
  have hn := M.1
  unfold fX5_called_23 cal
  rw [ite_b2, wd_bit hg, clr_i hl (by omega), bit_i g (by omega)]
  by_cases d : cm (kd g) (Hh g l) (pop (clr l g)) = true
  · rw [if_pos d, if_pos d, fa_or]; exact Ret.mk trivial
  · rw [if_neg d, if_neg d, fa_lit 0, fa_or]; exact Ret.mk trivial
theorem calling_r (M : PM n kd Hh s) (hs : s 1 = nI l) {g : Nat} (hg : g < n) (hl : l < 256) (pile : Nat → Int32) : Ret (fX5_calling s pile (nI g)) (b2 (¬ cal n kd Hh l g = l)) (fun k => k.1 = upd s 1 (nI (cal n kd Hh l g))) := by
  unfold fX5_calling
  rw [nm_of, hs]
  refine Ret.b1 (calledM_r M hg hl pile) (fun k _ => ?_)
  have hw := cal_256 (kd := kd) (Hh := Hh) (g := g) M.1 hl
  rw [pk_us, ite_eqN (by omega) (by omega)]
  by_cases c : cal n kd Hh l g = l
  · rw [if_pos c, b2_f (fun q => q c)]; exact Ret.mk rfl
  · rw [if_neg c, b2_t c]; exact Ret.mk rfl
theorem op_call (R : RA sz li to ki co te s n l kd cc Hh) (K : KV n kd Hh kn) (F : FS fi st) (x1 : Int32) : Both (fX4_call sz li ki te kn fi x1) (fX5_call s st pile x1) (fun k1 k2 => (∃ l', RA sz k1.1 to ki co te k2.1 n l' kd cc Hh) ∧ KV n kd Hh k1.2.1 ∧ FS k1.2.2 k2.2.1) := by
  have hl := R.l256
  have R0 := R
  obtain ⟨P, M, hL, hC, hT, -⟩ := R
  have hn := P.1
  have hsz := P.2.1
  subst hsz
  unfold fX4_call fX5_call
  rw [has_g hn, isG_g M, bR_some, bR_some, ite_b2, ite_b2, fnd_1, fns_1, bR_some, bR_some]
  by_cases h : 0 ≤ x1.toInt ∧ x1.toInt < n
  · rw [if_pos h, if_pos h, hL.2.1]
    obtain ⟨g, hg, rfl⟩ := i_ex (x := x1) (n := n) (by omega) h.1 h.2
    refine Both.of (Q1 := fun k => k.1 = nI (cal n kd Hh l g) ∧ KV n kd Hh k.2.1 ∧ k.2.2 = fi) (Q2 := fun k => k.1 = upd s 1 (nI (cal n kd Hh l g)) ∧ k.2.1 = st) (Ret.b1 (ringUp_r P K hl (show g < 8 by omega)) (fun k hk => Ret.mk ⟨hk.1, hk.2, rfl⟩)) (Ret.b1 (calling_r M hL.2.2 hg hl pile) (fun k hk => Ret.mk ⟨hk, rfl⟩)) (fun k1 k2 q1 q2 => ⟨⟨cal n kd Hh l g, ?_⟩, q1.2.1, by rw [q1.2.2, q2.2]; exact F⟩)
    rw [q1.1, q2.1]
    exact R0.list (cal_lt hL.1)
  · rw [if_neg h, if_neg h]
    exact Both.mk ⟨⟨l, R0⟩, K, F.up (by decide)⟩
theorem calls_in {m : Int32} {t : Int32} {agC : Int32 → (Nat → Int32) → (Nat → Int32) → Int32 → Int32 → Int32 → Option (Int32 × Int32 × (Nat → Int32) × (Nat → Int32))} {agM : (Nat → Int32) → (Nat → Int32) → (Nat → Int32) → Int32 → Int32 → Int32 → Option (Int32 × (Nat → Int32) × (Nat → Int32) × (Nat → Int32))} {Q : Int32 × (Nat → Int32) × (Nat → Int32) → (Nat → Int32) × (Nat → Int32) × (Nat → Int32) → Prop}
    (hag : ∀ (l : Nat) (kn s pile : Nat → Int32) (a : Int32), RA (nI n) (nI l) to ki co te s n l kd cc Hh → KV n kd Hh kn → Both (agC (nI l) kn fi m a (t + 1)) (agM s st pile m a (t + 1)) Q) : ∀ (f i l : Nat) (kn s pile : Nat → Int32) (a : Int32), i ≤ n → n - i < f → RA (nI n) (nI l) to ki co te s n l kd cc Hh → KV n kd Hh kn → Both (ll7 (fX4_calls_30 (nI n) ki te agC) f (nI l) kn fi m a t (nI i)) (ll7 (fX5_calls_31 agM) f s st pile m a t (nI i)) Q
  | 0, i, l, kn, s, pile, a, _, h, _, _ => absurd h (by omega)
  | f + 1, i, l, kn, s, pile, a, hi, hf, R, K => by
    have ih := calls_in hag f (i + 1)
    show Both (fX4_calls_30 (nI n) ki te agC (ll7 (fX4_calls_30 (nI n) ki te agC) f) (nI l) kn fi m a t (nI i)) (fX5_calls_31 agM (ll7 (fX5_calls_31 agM) f) s st pile m a t (nI i)) Q
    generalize ll7 (fX4_calls_30 (nI n) ki te agC) f = ag1 at ih ⊢
    generalize ll7 (fX5_calls_31 agM) f = ag2 at ih ⊢
    have hl := R.l256
    have P := R.1
    have M := R.2.1
    have hL := R.2.2.1
    have hn := P.1
    unfold fX4_calls_30 fX5_calls_31
    rw [M.2.1, ite_le (by omega) (by omega), ite_le (by omega) (by omega)]
    by_cases c : n ≤ i
    · rw [if_pos c, if_pos c, nm_of, nm_of]
      exact hag l kn s pile a R K
    · rw [if_neg c, if_neg c]
      obtain ⟨k1, e1, q1, q2⟩ := ringUp_r P K hl (show i < 8 by omega)
      obtain ⟨k2, e2, q3⟩ := calling_r M hL.2.2 (show i < n by omega) hl pile
      rw [e1, e2, bR_some, bR_some, nm_of, nm_of, nm_of, nm_of, nI_1, q1, q3]
      exact ih (cal n kd Hh l i) k1.2 _ k2.2 _ (by omega) (by omega) (R.list (cal_lt hL.1)) q2
theorem calls_out {m : Nat} (hm : m ≤ 20) {Q : Int32 × (Nat → Int32) × (Nat → Int32) → (Nat → Int32) × (Nat → Int32) × (Nat → Int32) → Prop} (hQ : ∀ (l : Nat) (kn s pile : Nat → Int32), RA (nI n) (nI l) to ki co te s n l kd cc Hh → KV n kd Hh kn → Q (nI l, kn, fi) (s, st, pile)) : ∀ (f j l : Nat) (kn s pile : Nat → Int32) (a : Int32), j ≤ m → m - j < f → RA (nI n) (nI l) to ki co te s n l kd cc Hh → KV n kd Hh kn → Both (ll6 (fX4_calls_22 (nI n) ki te) f (nI l) kn fi (nI m) a (nI j)) (ll6 fX5_calls_23 f s st pile (nI m) a (nI j)) Q
  | 0, j, l, kn, s, pile, a, _, h, _, _ => absurd h (by omega)
  | f + 1, j, l, kn, s, pile, a, hj, hf, R, K => by
    have ih := calls_out hm hQ f (j + 1)
    show Both (fX4_calls_22 (nI n) ki te (ll6 (fX4_calls_22 (nI n) ki te) f) (nI l) kn fi (nI m) a (nI j)) (fX5_calls_23 (ll6 fX5_calls_23 f) s st pile (nI m) a (nI j)) Q
    generalize ll6 (fX4_calls_22 (nI n) ki te) f = ag1 at ih ⊢
    generalize ll6 fX5_calls_23 f = ag2 at ih ⊢
    unfold fX4_calls_22 fX5_calls_23
    rw [ite_le (by omega) (by omega), ite_le (by omega) (by omega)]
    by_cases c : m ≤ j
    · rw [if_pos c, if_pos c]
      exact Both.mk (hQ l kn s pile R K)
    · rw [if_neg c, if_neg c]
      exact calls_in (fun l kn s pile a R K => by rw [nI_1]; exact ih l kn s pile a (by omega) (by omega) R K) 1024 0 l kn s pile a (by omega) (by have := R.1.1; omega) R K
theorem op_calls (R : RA sz li to ki co te s n l kd cc Hh) (K : KV n kd Hh kn) (F : FS fi st) (x1 : Int32) : Both (fX4_calls sz li ki te kn fi x1) (fX5_calls s st pile x1) (fun k1 k2 => (∃ l', RA sz k1.1 to ki co te k2.1 n l' kd cc Hh) ∧ KV n kd Hh k1.2.1 ∧ FS k1.2.2 k2.2.1) := by
  have R0 := R
  obtain ⟨P, M, hL, hC, hT, -⟩ := R
  have hn := P.1
  have hsz := P.2.1
  subst hsz
  have hli := hL.2.1
  subst hli
  unfold fX4_calls fX5_calls
  have e1 : (1 : Int32).toInt = 1 := by decide
  have e4 : (20 : Int32).toInt = 20 := by decide
  unfold fX4_calls_11
  rw [in_32 x1 1 20 (by decide) (by decide), bR_some, ite_b2, fnd_1, fns_1, bR_some, bR_some]
  by_cases h : 1 ≤ x1.toInt ∧ x1.toInt ≤ 20
  · rw [if_pos h, if_neg (show ¬ x1 < 1 by rw [Int32.lt_iff_toInt_lt]; omega), if_pos (show x1 ≤ 20 by rw [Int32.le_iff_toInt_le]; omega)]
    obtain ⟨m, hm, rfl⟩ := i_ex (x := x1) (n := 21) (by decide) (by omega) (by omega)
    exact calls_out (by omega) (fun l kn s pile R K => ⟨⟨l, R⟩, K, F⟩) 1024 0 l kn s pile 0 (by omega) (by omega) R0 K
  · rw [if_neg h]
    by_cases h1 : x1 < 1
    · rw [if_pos h1]; exact Both.mk ⟨⟨l, R0⟩, K, F.up (by decide)⟩
    · rw [if_neg h1, if_neg (show ¬ x1 ≤ 20 by rw [Int32.lt_iff_toInt_lt] at h1; rw [Int32.le_iff_toInt_le]; omega)]
      exact Both.mk ⟨⟨l, R0⟩, K, F.up (by decide)⟩
theorem behindM_loop (M : PM n kd Hh s) {m : Nat} (hm : m ≤ 64) : ∀ (f i a : Nat) (pile : Nat → Int32), i ≤ m → m - i < f → a < 256 → Ret (ll4 (fX5_behind_5 s) f pile (nI m) (nI a) (nI i)) (nI (it (Wd n kd Hh) (m - i) a)) (fun _ => True)
  | 0, i, a, pile, _, h, _ => absurd h (by omega)
  | f + 1, i, a, pile, hi, hf, ha => by
    have ih := behindM_loop M hm f (i + 1)
    show Ret (fX5_behind_5 s (ll4 (fX5_behind_5 s) f) pile (nI m) (nI a) (nI i)) _ _
    generalize ll4 (fX5_behind_5 s) f = ag at ih ⊢
    unfold fX5_behind_5
    rw [ite_le (by omega) (by omega)]
    by_cases c : m ≤ i
    · rw [if_pos c, show m - i = 0 by omega]
      exact Ret.mk trivial
    · rw [if_neg c]
      refine Ret.b1 (would_r M ha pile) (fun k _ => ?_)
      rw [nm_of, nI_1, show m - i = (m - (i + 1)) + 1 by omega]
      exact ih _ k (by omega) (by omega) (Wd_256 M.1 kd Hh a)
theorem behindM_r (M : PM n kd Hh s) {m : Nat} (hm : m ≤ 64) (hl : l < 256) (pile : Nat → Int32) : Ret (fX5_behind s pile (nI l) (nI m)) (nI (it (Wd n kd Hh) m l)) (fun _ => True) := behindM_loop M hm 1024 0 l pile (by omega) (by omega) hl
theorem op_rounds (R : RA sz li to ki co te s n l kd cc Hh) (K : KV n kd Hh kn) (F : FS fi st) (x1 : Int32) : Both (fX4_rounds sz li ki te kn fi x1) (fX5_rounds s st pile x1) (fun k1 k2 => (∃ l', RA sz k1.1 to ki co te k2.1 n l' kd cc Hh) ∧ KV n kd Hh k1.2.1 ∧ FS k1.2.2 k2.2.1) := by
  have R0 := R
  have hl := R.l256
  obtain ⟨P, M, hL, hC, hT, -⟩ := R
  have hn := P.1
  have hsz := P.2.1
  subst hsz
  unfold fX4_rounds fX5_rounds
  have e1 : (1 : Int32).toInt = 1 := by decide
  have e4 : (64 : Int32).toInt = 64 := by decide
  unfold fX4_rounds_11
  rw [in_32 x1 1 64 (by decide) (by decide), bR_some, ite_b2, fnd_1, fns_1, bR_some, bR_some]
  by_cases h : 1 ≤ x1.toInt ∧ x1.toInt ≤ 64
  · rw [if_pos h, if_neg (show ¬ x1 < 1 by rw [Int32.lt_iff_toInt_lt]; omega), if_pos (show x1 ≤ 64 by rw [Int32.le_iff_toInt_le]; omega), hL.2.1, hL.2.2]
    obtain ⟨m, hm, rfl⟩ := i_ex (x := x1) (n := 65) (by decide) (by omega) (by omega)
    obtain ⟨k1, e1, q1⟩ := behind_r P K (m := m) hl (by omega)
    obtain ⟨k2, e2, -⟩ := behindM_r M (m := m) (by omega) hl pile
    rw [e1, e2, bR_some, bR_some, pk_us]
    exact Both.mk ⟨⟨_, R0.list (it_lt (fun l => Wd_lt n kd Hh l) hL.1 m)⟩, q1, F⟩
  · rw [if_neg h]
    by_cases h1 : x1 < 1
    · rw [if_pos h1]; exact Both.mk ⟨⟨l, R0⟩, K, F.up (by decide)⟩
    · rw [if_neg h1, if_neg (show ¬ x1 ≤ 64 by rw [Int32.lt_iff_toInt_lt] at h1; rw [Int32.le_iff_toInt_le]; omega)]
      exact Both.mk ⟨⟨l, R0⟩, K, F.up (by decide)⟩
theorem op_on (R : RA sz li to ki co te s n l kd cc Hh) (K : KV n kd Hh kn) (F : FS fi st) (x1 : Int32) : Both (fX4_on sz li ki te kn fi x1) (fX5_on s st pile x1) (fun k1 k2 => KV n kd Hh k1.1 ∧ FS k1.2 k2.1) := by
  have hl := R.l256
  obtain ⟨P, M, hL, hC, hT, -⟩ := R
  have hn := P.1
  have hsz := P.2.1
  subst hsz
  unfold fX4_on fX5_on
  have e1 : (0 : Int32).toInt = 0 := by decide
  have e4 : (64 : Int32).toInt = 64 := by decide
  unfold fX4_on_10
  rw [in_32 x1 0 64 (by decide) (by decide), bR_some, ite_b2, fnd_1, fns_1, bR_some, bR_some]
  by_cases h : 0 ≤ x1.toInt ∧ x1.toInt ≤ 64
  · rw [if_pos h, if_neg (show ¬ x1 < 0 by rw [Int32.lt_iff_toInt_lt]; omega), if_pos (show x1 ≤ 64 by rw [Int32.le_iff_toInt_le]; omega), hL.2.1, hL.2.2]
    obtain ⟨m, hm, rfl⟩ := i_ex (x := x1) (n := 65) (by decide) (by omega) (by omega)
    obtain ⟨k1, e1, q1⟩ := behind_r P K (m := m) hl (by omega)
    obtain ⟨k2, e2, -⟩ := behindM_r M (m := m) (by omega) hl pile
    rw [e1, e2, bR_some, bR_some]
    exact Both.mk ⟨q1, F⟩
  · rw [if_neg h]
    by_cases h1 : x1 < 0
    · rw [if_pos h1]; exact Both.mk ⟨K, F.up (by decide)⟩
    · rw [if_neg h1, if_neg (show ¬ x1 ≤ 64 by rw [Int32.lt_iff_toInt_lt] at h1; rw [Int32.le_iff_toInt_le]; omega)]
      exact Both.mk ⟨K, F.up (by decide)⟩
end OPS
