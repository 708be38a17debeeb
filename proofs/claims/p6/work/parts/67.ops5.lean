section OPS5
variable {sz li to : Int32} {ki co : Nat → Int32} {te : Nat → Int64} {s kn fi st pile wish mark : Nat → Int32} {n l : Nat} {kd cc : Nat → Nat} {Hh : Nat → Nat → Bool}
/-- who is asked makes it well -/
def wel (n : Nat) (kd : Nat → Nat) (Hh : Nat → Nat → Bool) (a b i : Nat) : Bool := decide (a ≤ pop (lastN n kd Hh 0 i)) && decide (pop (lastN n kd Hh 0 i) ≤ b) && decide (Wd n kd Hh (lastN n kd Hh 0 i) &&& i = lastN n kd Hh 0 i)
theorem isWellAsked_r (P : PC n kd Hh sz ki te) (K : KV n kd Hh kn) {a b i : Nat} (ha : a < 2 ^ 31) (hb : b < 2 ^ 31) : Ret (fX4_isWellAsked sz ki te kn (nI i) (nI a) (nI b)) (b2 (wel n kd Hh a b i = true)) (KV n kd Hh) := by
  have hN := two_le P.1
  have h0 : 0 < 2 ^ n := Nat.one_le_two_pow
  have hL := lastN_lt (kd := kd) (Hh := Hh) (a := i) h0
  have hp := pop_le (lastN n kd Hh 0 i)
  have hW := Wd_256 P.1 kd Hh (lastN n kd Hh 0 i)
  have hA : Wd n kd Hh (lastN n kd Hh 0 i) &&& i < 256 := and_256 _ hW
  unfold fX4_isWellAsked
  rw [show (0 : Int32) = nI 0 from rfl]
  refine Ret.b1 (lastOf_r P K h0) (fun k hk => ?_)
  rw [pop_i _ (by omega), bR_some, ite_lt (by omega) (by omega), ite_lt (by omega) (by omega)]
  unfold wel
  by_cases c : pop (lastN n kd Hh 0 i) < a
  · rw [if_pos c, b2_f (by simp; omega)]; exact Ret.mk hk
  · rw [if_neg c]
    by_cases d : b < pop (lastN n kd Hh 0 i)
    · rw [if_pos d, b2_f (by simp; omega)]; exact Ret.mk hk
    · rw [if_neg d]
      refine Ret.b1 (comers_r P hk (l := lastN n kd Hh 0 i) (by omega)) (fun k2 hk2 => ?_)
      rw [fa_and, ite_eqN (by omega) (by omega)]
      by_cases e : Wd n kd Hh (lastN n kd Hh 0 i) &&& i = lastN n kd Hh 0 i
      · rw [if_pos e, b2_t (by simp [e]; omega)]; exact Ret.mk hk2
      · rw [if_neg e, b2_f (by simp [e])]; exact Ret.mk hk2
theorem invites_loop (P : PC n kd Hh sz ki te) (M : PM n kd Hh s) {w p : Nat → Int32} (V : WV n kd Hh w) (F : FS fi st) {a b : Nat} (ha : a ≤ 8) (hb : b ≤ 8) : ∀ (f i : Nat) (y : Int32) (kn : Nat → Int32), i ≤ 2 ^ n → 2 ^ n - i < f → (y = -1 ∨ ∃ b, b < 2 ^ n ∧ y = nI b) → KV n kd Hh kn → Both (ll6 (fX4_invites_27 sz ki te) f kn fi (nI a) (nI b) y (nI i)) (ll7 (fX5_invites_45 s) f st p w (nI a) (nI b) y (nI i)) (fun k1 k2 => KV n kd Hh k1.1 ∧ FS k1.2 k2.1) := by
  intro f
  have hn := P.1
  have hN := two_le hn
  have h0 : 0 < 2 ^ n := Nat.one_le_two_pow
  induction f with
  | zero => intro i y kn _ h; exact absurd h (by omega)
  | succ f ih =>
    intro i y kn hi hf hy K
    have ih := ih (i + 1)
    show Both (fX4_invites_27 sz ki te (ll6 (fX4_invites_27 sz ki te) f) kn fi (nI a) (nI b) y (nI i)) (fX5_invites_45 s (ll7 (fX5_invites_45 s) f) st p w (nI a) (nI b) y (nI i)) _
    generalize ll6 (fX4_invites_27 sz ki te) f = ag1 at ih ⊢
    generalize ll7 (fX5_invites_45 s) f = ag2 at ih ⊢
    unfold fX4_invites_27 fX5_invites_45
    rw [lists_p P, lists_m M, bR_some, bR_some, ite_le (by omega) (by omega), ite_le (by omega) (by omega)]
    by_cases c : 2 ^ n ≤ i
    · rw [if_pos c, if_pos c]
      rcases hy with rfl | ⟨b, hb, rfl⟩
      · rw [orNone_neg, bR_some, if_neg (show ¬ (0 : Int32) ≤ -1 by decide), fnd_4, bR_some]
        exact Both.mk ⟨K, F.up (by decide)⟩
      · rw [orNone_nI (by omega), bR_some, if_pos (nI_0le (by omega))]
        exact Both.mk ⟨K, F⟩
    · have hi2 : i < 2 ^ n := by omega
      have hL := lastN_lt (kd := kd) (Hh := Hh) (a := i) h0
      have hp := pop_le (lastN n kd Hh 0 i)
      have hW := Wd_256 hn kd Hh (lastN n kd Hh 0 i)
      have hA : Wd n kd Hh (lastN n kd Hh 0 i) &&& i < 256 := and_256 _ hW
      have p1 := pop_le i
      rw [if_neg c, if_neg c, show fX5_lastOf w 0 (nI i) = some (nI (lastN n kd Hh 0 i), ()) from lastOfM_eq hn V h0, bR_some, ones_i _ (by omega), bR_some, in_b2, i64_toInt, i64_toInt, i64_toInt, nI_toInt (by omega), nI_toInt (by omega), nI_toInt (by omega), bR_some, ite_b2, gIn_nI (by omega) (by decide), nI_clamp (by omega), V _ hL, fa_and, ite_eqN (by omega) (by omega)]
      have e128 : ∀ y', fX5_invites_128 s ag2 st p w y' (nI a) (nI b) (nI i) = ag2 st p w (nI a) (nI b) y' (nI (i + 1)) := by
        intro y'; unfold fX5_invites_128; rw [nm_of, nI_1]
      have em : (if ((a : Nat) : Int) ≤ (pop (lastN n kd Hh 0 i) : Nat) ∧ ((pop (lastN n kd Hh 0 i) : Nat) : Int) ≤ (b : Nat) then (if Wd n kd Hh (lastN n kd Hh 0 i) &&& i = lastN n kd Hh 0 i then fX5_invites_99 s ag2 st p w 1 (nI a) (nI b) y (nI i) else fX5_invites_98 s ag2 st p w (nI a) (nI b) y (nI i)) else fX5_invites_98 s ag2 st p w (nI a) (nI b) y (nI i)) = if wel n kd Hh a b i = true then fX5_invites_99 s ag2 st p w 1 (nI a) (nI b) y (nI i) else ag2 st p w (nI a) (nI b) y (nI (i + 1)) := by
        have e98 : fX5_invites_98 s ag2 st p w (nI a) (nI b) y (nI i) = ag2 st p w (nI a) (nI b) y (nI (i + 1)) := by
          unfold fX5_invites_98 fX5_invites_99 fX5_invites_127
          rw [if_pos (show (0 : Int32) = 0 from rfl), e128]
        rw [e98]
        by_cases z : wel n kd Hh a b i = true
        · rw [if_pos z]
          unfold wel at z
          simp only [Bool.and_eq_true, decide_eq_true_eq] at z
          rw [if_pos (by omega), if_pos z.2]
        · rw [if_neg z]
          unfold wel at z
          simp only [Bool.and_eq_true, decide_eq_true_eq] at z
          by_cases z1 : ((a : Nat) : Int) ≤ (pop (lastN n kd Hh 0 i) : Nat) ∧ ((pop (lastN n kd Hh 0 i) : Nat) : Int) ≤ (b : Nat)
          · rw [if_pos z1, if_neg (fun q => z ⟨⟨by omega, by omega⟩, q⟩)]
          · rw [if_neg z1]
      rw [em]
      obtain ⟨k1, q1, q2⟩ := isWellAsked_r P K (a := a) (b := b) (i := i) (by omega) (by omega)
      have e81 : ∀ k y', fX4_invites_81 sz ki te ag1 k fi (nI a) (nI b) y' (nI i) = ag1 k fi (nI a) (nI b) y' (nI (i + 1)) := by
        intro k y'; unfold fX4_invites_81; rw [nm_of, nI_1]
      have e55 : fX4_invites_55 sz ki te ag1 kn fi (nI a) (nI b) y (nI i) = if wel n kd Hh a b i = true then ag1 k1 fi (nI a) (nI b) (nI i) (nI (i + 1)) else ag1 k1 fi (nI a) (nI b) y (nI (i + 1)) := by
        unfold fX4_invites_55 fX4_invites_60
        rw [if_neg (show ¬ (1 : Int32) = 0 by decide), q1, bR_some, ite_b2, e81, e81]
      have e60 : fX4_invites_60 sz ki te ag1 kn fi 0 (nI a) (nI b) y (nI i) = ag1 kn fi (nI a) (nI b) y (nI (i + 1)) := by
        unfold fX4_invites_60
        rw [if_pos (show (0 : Int32) = 0 from rfl), e81]
      rw [e55, e60]
      unfold fX5_invites_99
      rw [if_neg (show ¬ (1 : Int32) = 0 by decide)]
      unfold fX5_invites_122 fX5_invites_127
      rw [e128, e128, pop_i i (by omega), bR_some, ones_i i (by omega), bR_some]
      rcases hy with rfl | ⟨d, hd, rfl⟩
      · rw [if_pos (show (-1 : Int32) < 0 by decide), if_pos (show (-1 : Int32) < 0 by decide)]
        by_cases z : wel n kd Hh a b i = true
        · rw [if_pos z, if_pos z]; exact ih _ k1 (by omega) (by omega) (Or.inr ⟨i, hi2, rfl⟩) q2
        · rw [if_neg z, if_neg z]; exact ih _ k1 (by omega) (by omega) (Or.inl rfl) q2
      · have p2 := pop_le d
        rw [if_neg (nI_neg (by omega)), if_neg (nI_neg (by omega)), pop_i d (by omega), bR_some, ones_i d (by omega), bR_some, ite_le (by omega) (by omega), ite_le (by omega) (by omega)]
        by_cases z2 : pop d ≤ pop i
        · rw [if_pos z2, if_pos z2]
          have : (if wel n kd Hh a b i = true then ag2 st p w (nI a) (nI b) (nI d) (nI (i + 1)) else ag2 st p w (nI a) (nI b) (nI d) (nI (i + 1))) = ag2 st p w (nI a) (nI b) (nI d) (nI (i + 1)) := by split <;> rfl
          rw [this]
          exact ih _ kn (by omega) (by omega) (Or.inr ⟨d, hd, rfl⟩) K
        · rw [if_neg z2, if_neg z2]
          by_cases z : wel n kd Hh a b i = true
          · rw [if_pos z, if_pos z]; exact ih _ k1 (by omega) (by omega) (Or.inr ⟨i, hi2, rfl⟩) q2
          · rw [if_neg z, if_neg z]; exact ih _ k1 (by omega) (by omega) (Or.inr ⟨d, hd, rfl⟩) q2
theorem op_invites (R : RA sz li to ki co te s n l kd cc Hh) (K : KV n kd Hh kn) (F : FS fi st) (x1 x2 : Int32) : Both (fX4_invites sz ki te kn fi x1 x2) (fX5_invites s st pile wish x1 x2) (fun k1 k2 => KV n kd Hh k1.1 ∧ FS k1.2 k2.1) := by
  have e0 : (0 : Int32).toInt = 0 := by decide
  have e8 : (8 : Int32).toInt = 8 := by decide
  unfold fX4_invites fX5_invites fX4_invites_15 fX5_invites_29
  rw [in_32 x1 0 8 (by decide) (by decide), in_32 x2 0 8 (by decide) (by decide), bR_some, bR_some, ite_b2, ite_b2, fnd_1, fns_1, bR_some, bR_some]
  by_cases h : (0 ≤ x1.toInt ∧ x1.toInt ≤ 8) ∧ (0 ≤ x2.toInt ∧ x2.toInt ≤ 8)
  · rw [if_pos h.1, if_pos h.2, if_neg (show ¬ x1 < 0 by rw [Int32.lt_iff_toInt_lt]; omega), if_neg (show ¬ 8 < x2 by rw [Int32.lt_iff_toInt_lt]; omega)]
    obtain ⟨a, ha, rfl⟩ := i_ex (x := x1) (n := 9) (by decide) h.1.1 (by omega)
    obtain ⟨b, hb, rfl⟩ := i_ex (x := x2) (n := 9) (by decide) h.2.1 (by omega)
    by_cases c : nI a ≤ nI b
    · rw [if_pos c, if_pos c]
      obtain ⟨k, e, V⟩ := looksAll_r R.2.1 pile wish
      rw [e, bV_some]
      exact invites_loop R.1 R.2.1 V F (by omega) (by omega) 1024 0 (-1) kn (Nat.zero_le _) (by have := two_le R.1.1; omega) (Or.inl rfl) K
    · rw [if_neg c, if_neg c]
      exact Both.mk ⟨K, F.up (by decide)⟩
  · have hm : (if 0 ≤ x1.toInt ∧ x1.toInt ≤ 8 then (if 0 ≤ x2.toInt ∧ x2.toInt ≤ 8 then (if x1 ≤ x2 then bV (fX5_looksAll s pile wish) (fun k22 => ll7 (fX5_invites_45 s) qF st k22.1 k22.2 x1 x2 (-1) 0) else some (-1000000001, (upd st 0 (st 0 + 1), pile, wish))) else some (-1000000001, (upd st 0 (st 0 + 1), pile, wish))) else some (-1000000001, (upd st 0 (st 0 + 1), pile, wish))) = some (-1000000001, (upd st 0 (st 0 + 1), pile, wish)) := by
      by_cases c : 0 ≤ x1.toInt ∧ x1.toInt ≤ 8
      · rw [if_pos c, if_neg (fun q => h ⟨c, q⟩)]
      · rw [if_neg c]
    rw [hm]
    by_cases c1 : x1 < 0
    · rw [if_pos c1]; exact Both.mk ⟨K, F.up (by decide)⟩
    rw [if_neg c1]
    by_cases c2 : 8 < x2
    · rw [if_pos c2]; exact Both.mk ⟨K, F.up (by decide)⟩
    rw [if_neg c2, if_neg (show ¬ x1 ≤ x2 by
      rw [Int32.lt_iff_toInt_lt] at c1 c2
      rw [Int32.le_iff_toInt_le]
      omega)]
    exact Both.mk ⟨K, F.up (by decide)⟩
theorem b2_or (a b : Bool) : b2 (a = true) ||| b2 (b = true) = b2 ((a || b) = true) := by cases a <;> cases b <;> decide
theorem agM_step {ag : (Nat → Int32) → (Nat → Int32) → (Nat → Int32) → Int32 → Int32 → Int32 → Int32 → Int32 → Int32 → Option (Int32 × (Nat → Int32) × (Nat → Int32) × (Nat → Int32))} {p w : Nat → Int32} {g1 g2 i : Nat} (h1 : g1 < 8) (h2 : g2 < 8) (hi : i < 256) (se a b c : Bool) : fX5_against_69 s ag st p w (b2 (se = true)) (nI g1) (nI g2) (b2 (a = true)) (b2 (b = true)) (b2 (c = true)) (nI i) = ag st p w (nI g1) (nI g2) (b2 ((a || (se && i.testBit g1)) = true)) (b2 ((b || (se && i.testBit g2)) = true)) (b2 ((c || (se && (i.testBit g1 && i.testBit g2))) = true)) (nI (i + 1)) := by
  unfold fX5_against_69 fX5_against_89 fX5_against_93 fX5_against_94 fX5_against_114 fX5_against_118 fX5_against_119 fX5_against_149 fX5_against_153 fX5_against_154
  rw [hasM_i hi h1, hasM_i hi h2]
  simp only [bR_some, nm_of, nI_1, ite_b2]
  generalize i.testBit g1 = t1
  generalize i.testBit g2 = t2
  cases se <;> cases a <;> cases b <;> cases c <;> cases t1 <;> cases t2 <;> rfl
theorem agC_step {ag : (Nat → Int32) → (Nat → Int32) → Int32 → Int32 → Int32 → Int32 → Int32 → Int32 → Option (Int32 × (Nat → Int32) × (Nat → Int32))} {k : Nat → Int32} {g1 g2 i : Nat} (h1 : g1 < 8) (h2 : g2 < 8) (hi : i < 256) (a b c : Bool) : (bR (fX4_isOn (nI g1) (nI i)) (fun r11 k11 => bR (fX4_isOn (nI g2) (nI i)) (fun r12 k12 => nm (b2 (a = true) ||| r11) (fun u13 => nm (b2 (b = true) ||| r12) (fun u14 => (if r11 = 0 then (fX4_against_113 sz ki te ag k fi (b2 (c = true)) (nI g1) (nI g2) u13 u14 (nI i)) else ((if r12 = 0 then (fX4_against_113 sz ki te ag k fi (b2 (c = true)) (nI g1) (nI g2) u13 u14 (nI i)) else (fX4_against_114 sz ki te ag k fi (b2 (c = true)) 1 (nI g1) (nI g2) u13 u14 (nI i)))))))))) = ag k fi (nI g1) (nI g2) (b2 ((a || i.testBit g1) = true)) (b2 ((b || i.testBit g2) = true)) (b2 ((c || (i.testBit g1 && i.testBit g2)) = true)) (nI (i + 1)) := by
  unfold fX4_against_113 fX4_against_114 fX4_against_117
  rw [isOn_i hi h1, isOn_i hi h2]
  simp only [bR_some, nm_of, nI_1, ite_b2, b2_or]
  rw [show (0 : Int32) = b2 (false = true) from rfl, show (1 : Int32) = b2 (true = true) from rfl, b2_or, b2_or]
  generalize i.testBit g1 = t1
  generalize i.testBit g2 = t2
  cases a <;> cases b <;> cases c <;> cases t1 <;> cases t2 <;> rfl
theorem against_loop (P : PC n kd Hh sz ki te) (M : PM n kd Hh s) {w p : Nat → Int32} (V : WV n kd Hh w) (F : FS fi st) {g1 g2 : Nat} (h1 : g1 < 8) (h2 : g2 < 8) : ∀ (f i : Nat) (a b c : Bool) (kn : Nat → Int32), i ≤ 2 ^ n → 2 ^ n - i < f → KV n kd Hh kn → Both (ll8 (fX4_against_45 sz ki te) f kn fi (nI g1) (nI g2) (b2 (a = true)) (b2 (b = true)) (b2 (c = true)) (nI i)) (ll9 (fX5_against_43 s) f st p w (nI g1) (nI g2) (b2 (a = true)) (b2 (b = true)) (b2 (c = true)) (nI i)) (fun k1 k2 => KV n kd Hh k1.1 ∧ FS k1.2 k2.1) := by
  intro f
  have hn := P.1
  have hN := two_le hn
  induction f with
  | zero => intro i a b c kn _ h; exact absurd h (by omega)
  | succ f ih =>
    intro i a b c kn hi hf K
    have ih := ih (i + 1)
    show Both (fX4_against_45 sz ki te (ll8 (fX4_against_45 sz ki te) f) kn fi (nI g1) (nI g2) (b2 (a = true)) (b2 (b = true)) (b2 (c = true)) (nI i)) (fX5_against_43 s (ll9 (fX5_against_43 s) f) st p w (nI g1) (nI g2) (b2 (a = true)) (b2 (b = true)) (b2 (c = true)) (nI i)) _
    generalize ll8 (fX4_against_45 sz ki te) f = ag1 at ih ⊢
    generalize ll9 (fX5_against_43 s) f = ag2 at ih ⊢
    unfold fX4_against_45 fX5_against_43
    rw [lists_p P, lists_m M, bR_some, bR_some, ite_le (by omega) (by omega), ite_le (by omega) (by omega)]
    by_cases z : 2 ^ n ≤ i
    · rw [if_pos z, if_pos z]
      unfold fX4_against_141 fX4_against_142
      rw [oneIf_0, oneIf_1, bR_some, bR_some, ite_b2, ite_b2, ite_b2, ite_b2, ite_b2, ite_b2]
      cases a <;> cases b <;> cases c <;> exact Both.mk ⟨K, F⟩
    · obtain ⟨k1, q1, q2⟩ := isSettled_r P K (l := i) (by omega)
      rw [if_neg z, if_neg z, gIn_nI (by omega) (by decide), nI_clamp (by omega), V i (by omega), ite_eqN (by have := Wd_256 hn kd Hh i; omega) (by omega), q1, bR_some, ite_b2, agC_step h1 h2 (by omega)]
      by_cases d : Wd n kd Hh i = i
      · rw [if_pos d, if_pos d, show (1 : Int32) = b2 (true = true) from rfl, agM_step h1 h2 (by omega)]
        exact ih _ _ _ k1 (by omega) (by omega) q2
      · rw [if_neg d, if_neg d]
        have := agM_step (s := s) (st := st) (ag := ag2) (p := p) (w := w) h1 h2 (show i < 256 by omega) false a b c
        have e0 : fX5_against_69 s ag2 st p w 0 (nI g1) (nI g2) (b2 (a = true)) (b2 (b = true)) (b2 (c = true)) (nI i) = ag2 st p w (nI g1) (nI g2) (b2 (a = true)) (b2 (b = true)) (b2 (c = true)) (nI (i + 1)) := by
          have e : fX5_against_69 s ag2 st p w 0 (nI g1) (nI g2) (b2 (a = true)) (b2 (b = true)) (b2 (c = true)) (nI i) = fX5_against_69 s ag2 st p w (b2 (false = true)) (nI g1) (nI g2) (b2 (a = true)) (b2 (b = true)) (b2 (c = true)) (nI i) := rfl
          rw [e, this, Bool.false_and, Bool.false_and, Bool.false_and, Bool.or_false, Bool.or_false, Bool.or_false]
        rw [e0]
        unfold fX4_against_117
        rw [nm_of, nI_1]
        exact ih _ _ _ k1 (by omega) (by omega) q2
theorem op_against (R : RA sz li to ki co te s n l kd cc Hh) (K : KV n kd Hh kn) (F : FS fi st) (x1 x2 : Int32) : Both (fX4_against sz ki te kn fi x1 x2) (fX5_against s st pile wish x1 x2) (fun k1 k2 => KV n kd Hh k1.1 ∧ FS k1.2 k2.1) := by
  obtain ⟨P, M, -⟩ := R
  have hn := P.1
  have hh : ∀ x, fX0_has sz x = some (b2 (0 ≤ x.toInt ∧ x.toInt < n), ()) := fun x => by rw [P.2.1]; exact has_g hn x
  unfold fX4_against fX5_against fX4_against_27 fX5_against_21
  rw [hh, hh, isG_g M, isG_g M, bR_some, bR_some, bR_some, bR_some, ite_b2, ite_b2, ite_b2, ite_b2, fnd_1, fns_1, bR_some, bR_some]
  by_cases h : 0 ≤ x1.toInt ∧ x1.toInt < n
  · rw [if_pos h, if_pos h]
    by_cases h2 : 0 ≤ x2.toInt ∧ x2.toInt < n
    · rw [if_pos h2, if_pos h2]
      by_cases c : x1 = x2
      · rw [if_pos c, if_pos c]; exact Both.mk ⟨K, F.up (by decide)⟩
      · rw [if_neg c, if_neg c]
        obtain ⟨g1, hg1, rfl⟩ := i_ex (x := x1) (n := n) (by omega) h.1 h.2
        obtain ⟨g2, hg2, rfl⟩ := i_ex (x := x2) (n := n) (by omega) h2.1 h2.2
        obtain ⟨k, e, V⟩ := looksAll_r M pile wish
        rw [e, bV_some]
        exact against_loop P M V F (by omega) (by omega) 1024 0 false false false kn (Nat.zero_le _) (by have := two_le hn; omega) K
    · rw [if_neg h2, if_neg h2]; exact Both.mk ⟨K, F.up (by decide)⟩
  · rw [if_neg h, if_neg h]; exact Both.mk ⟨K, F.up (by decide)⟩
end OPS5
