section OPS2
variable {sz li to : Int32} {ki co : Nat → Int32} {te : Nat → Int64} {s kn fi st pile wish mark : Nat → Int32} {n l : Nat} {kd cc : Nat → Nat} {Hh : Nat → Nat → Bool}
theorem RA.tM (R : RA sz li to ki co te s n l kd cc Hh) : ∀ g, g < n → ∃ m, m ≤ 60 ∧ s (4 + 3 * g) = nI m := fun g hg => by
  obtain ⟨m, -, h1, h2, -⟩ := R.2.1.2.2.2 g hg
  exact ⟨m, h1, h2⟩
/-- who has told a term -/
def td (s : Nat → Int32) (g : Nat) : Bool := decide (¬ s (4 + 3 * g) = 0)
theorem count_loop {taped x1 : Int32} (hn : n ≤ 8) (h0 : s 0 = nI n) (hm : ∀ g, g < n → ∃ m, m ≤ 60 ∧ s (4 + 3 * g) = nI m) : ∀ (f i : Nat), i ≤ n → n - i < f → ∃ f', ll4 (fX5_count_4 taped s) f st x1 (nI (wdn (td s) i)) (nI i) = ll4 (fX5_count_4 taped s) (f' + 1) st x1 (nI (wdn (td s) n)) (nI n)
  | 0, i, _, h => absurd h (by omega)
  | f + 1, i, hi, hf => by
    by_cases c : n ≤ i
    · have e : i = n := by omega
      rw [e]
      exact ⟨f, rfl⟩
    · obtain ⟨f', ih⟩ := count_loop hn h0 hm f (i + 1) (by omega) (by omega)
      refine ⟨f', ?_⟩
      rw [← ih]
      show fX5_count_4 taped s (ll4 (fX5_count_4 taped s) f) st x1 (nI (wdn (td s) i)) (nI i) = _
      generalize ll4 (fX5_count_4 taped s) f = ag
      unfold fX5_count_4
      obtain ⟨m, hm1, hm2⟩ := hm i (by omega)
      rw [h0, ite_le (by omega) (by omega), if_neg c, its_2 s (by omega), bR_some, hm2, fa_lit 0, ite_le (by omega) (by decide)]
      unfold fX5_count_31
      rw [nm_of, nm_of, nm_of, nm_of, bit_i i (by omega), fa_or, fa_or, nI_1]
      by_cases d : m = 0
      · rw [if_pos (by omega)]
        have e : wdn (td s) (i + 1) = wdn (td s) i ||| 0 := by
          show _ ||| (if _ then _ else _) = _
          rw [if_neg]
          unfold td
          rw [hm2, d]
          simp
          rfl
        rw [e]
      · rw [if_neg (by omega)]
        have e : wdn (td s) (i + 1) = wdn (td s) i ||| 2 ^ i := by
          show _ ||| (if _ then _ else _) = _
          rw [if_pos]
          unfold td
          rw [hm2, fa_lit 0]
          refine decide_eq_true (fun q => d ((nI_eq (by omega) (by decide)).mp q))
        rw [e]
theorem op_count {tl tp : Int32} (R : RA sz li to ki co te s n l kd cc Hh) (F : FS fi st) (ht : tl = tp) (x1 : Int32) : Both (fX4_count sz to co tl fi x1) (fX5_count tp s st x1) (fun k1 k2 => FS k1 k2) := by
  have cM := R.cM
  have cC := R.cC
  have tM := R.tM
  obtain ⟨P, M, hL, hC, ⟨t, t1, t2, t3⟩, -⟩ := R
  have hn := P.1
  have hN := two_le hn
  have hsz := P.2.1
  subst hsz
  subst ht
  have ht : t = wdn (td s) n := by
    apply Nat.eq_of_testBit_eq
    intro i
    rw [wdn_t]
    by_cases c : i < n
    · rw [decide_eq_true c, Bool.true_and]
      unfold td
      have := t3 i c
      cases e : t.testBit i
      · rw [e] at this
        exact (decide_eq_false (fun q => by have := this.mpr q; cases this)).symm
      · rw [e] at this
        exact (decide_eq_true (this.mp rfl)).symm
    · rw [decide_eq_false c, Bool.false_and]
      exact Nat.testBit_lt_two_pow (Nat.lt_of_lt_of_le t1 (Nat.pow_le_pow_right (by decide) (by omega)))
  obtain ⟨f', e⟩ := count_loop (st := st) (taped := tl) (x1 := x1) hn M.2.1 tM 1024 0 (by omega) (by omega)
  have e2 : fX5_count tl s st x1 = fX5_count_4 tl s (ll4 (fX5_count_4 tl s) f') st x1 (nI t) (nI n) := by
    rw [ht]
    exact e
  rw [e2]
  clear e e2
  generalize ll4 (fX5_count_4 tl s) f' = ag
  unfold fX4_count fX5_count_4
  rw [M.2.1, if_pos (Int32.le_refl (nI n))]
  by_cases h : x1.toInt < 0 ∨ 3 < x1.toInt
  · rw [if_pos h, if_pos h, fnd_1, fns_1, bR_some, bR_some]
    exact Both.mk (F.up (by decide))
  · rw [if_neg h, if_neg h]
    obtain ⟨w, hw, rfl⟩ := i_ex (x := x1) (n := 4) (by decide) (by omega) (by omega)
    match w, hw with
    | 0, _ =>
      rw [if_pos (by decide), if_pos (by decide)]
      exact Both.mk F
    | 1, _ =>
      rw [if_neg (by decide), if_pos (by decide), if_neg (by decide), if_pos (by decide)]
      exact Both.mk F
    | 2, _ =>
      rw [if_neg (by decide), if_neg (by decide), if_pos (by decide), if_neg (by decide), if_neg (by decide), if_pos (by decide), everyone_c hn, bR_some, costsOf_eq hn cC (by omega), fa_lit 255, costOf_eq hn M.2.1 cM (by decide), bR_some, bR_some]
      refine Both.mk' ?_ F
      congr 1
      apply csum_congr
      intro g hg
      rw [Nat.testBit_two_pow_sub_one, decide_eq_true hg]
      exact ((by decide +kernel : ∀ g, g < 8 → Nat.testBit 255 g = true) g (by omega)).symm
    | 3, _ =>
      rw [if_neg (by decide), if_neg (by decide), if_neg (by decide), if_pos (by decide), if_neg (by decide), if_neg (by decide), if_neg (by decide), if_pos (by decide)]
      exact Both.mk' t2 F
    | w + 4, h => exact absurd h (by omega)
theorem op_tear (x : Int32) : Both (fX4_tear x) (fX5_tear x) (fun k1 k2 => k1 = 0 ∧ k2 = 0) := by
  unfold fX4_tear fX5_tear fX4_oneIf fX5_tear_12
  by_cases c : x = 0
  · rw [if_pos c, if_pos c, bR_some]; exact Both.mk ⟨rfl, rfl⟩
  · rw [if_neg c, if_neg c, bR_some]; exact Both.mk ⟨rfl, rfl⟩
theorem sum_c (fi : Nat → Int32) : ll3 fX4_status_33 qF fi 0 0 = some (0 + fi 0 + fi 1 + fi 2 + fi 3 + fi 4 + fi 5 + fi 6, fi) := rfl
theorem sum_m (st : Nat → Int32) : ll4 fX5_status_25 qF st (-1) 0 0 = some (0 + st 0 + st 1 + st 2 + st 3 + st 4 + st 5 + st 6, st) := rfl
theorem sum_0 (st : Nat → Int32) : ll4 fX5_status_25 qF st (nI 0) 0 0 = some (0 + st 0 + 0 + 0 + 0 + 0 + 0 + 0, st) := rfl
theorem sum_1 (st : Nat → Int32) : ll4 fX5_status_25 qF st (nI 1) 0 0 = some (0 + 0 + st 1 + 0 + 0 + 0 + 0 + 0, st) := rfl
theorem sum_2 (st : Nat → Int32) : ll4 fX5_status_25 qF st (nI 2) 0 0 = some (0 + 0 + 0 + st 2 + 0 + 0 + 0 + 0, st) := rfl
theorem sum_3 (st : Nat → Int32) : ll4 fX5_status_25 qF st (nI 3) 0 0 = some (0 + 0 + 0 + 0 + st 3 + 0 + 0 + 0, st) := rfl
theorem sum_4 (st : Nat → Int32) : ll4 fX5_status_25 qF st (nI 4) 0 0 = some (0 + 0 + 0 + 0 + 0 + st 4 + 0 + 0, st) := rfl
theorem sum_5 (st : Nat → Int32) : ll4 fX5_status_25 qF st (nI 5) 0 0 = some (0 + 0 + 0 + 0 + 0 + 0 + st 5 + 0, st) := rfl
theorem sum_6 (st : Nat → Int32) : ll4 fX5_status_25 qF st (nI 6) 0 0 = some (0 + 0 + 0 + 0 + 0 + 0 + 0 + st 6, st) := rfl
theorem op_status (F : FS fi st) (x1 : Int32) : Both (fX4_status fi x1) (fX5_status st x1) (fun k1 k2 => FS k1 k2) := by
  unfold fX4_status fX5_status fX4_status_11
  have el : (-1 : Int32).toInt = -1 := by decide
  have e7 : (7 : Int32).toInt = 7 := by decide
  have e0 : (0 : Int32).toInt = 0 := by decide
  rw [in_32 x1 (-1) 6 (by decide) (by decide), bR_some, ite_b2, fnd_1, fns_1, bR_some, bR_some]
  by_cases h : -1 ≤ x1.toInt ∧ x1.toInt ≤ 6
  · rw [if_pos h, if_neg (show ¬ x1 < -1 by rw [Int32.lt_iff_toInt_lt]; omega), if_pos (show x1 < 7 by rw [Int32.lt_iff_toInt_lt]; omega)]
    by_cases h1 : x1 < 0
    · have e : x1 = -1 := Int32.toInt_inj.mp (by rw [Int32.lt_iff_toInt_lt] at h1; omega)
      rw [if_pos h1, e, sum_c, sum_m, F 0 (by decide), F 1 (by decide), F 2 (by decide), F 3 (by decide), F 4 (by decide), F 5 (by decide), F 6 (by decide)]
      exact Both.mk F
    · rw [if_neg h1]
      rw [Int32.lt_iff_toInt_lt] at h1
      obtain ⟨w, hw, rfl⟩ := i_ex (x := x1) (n := 7) (by decide) (by omega) (by omega)
      rw [gIn_nI hw (by decide), nI_clamp (by omega), F w hw]
      match w, hw with
      | 0, _ => rw [sum_0]; exact Both.mk' (by simp) F
      | 1, _ => rw [sum_1]; exact Both.mk' (by simp) F
      | 2, _ => rw [sum_2]; exact Both.mk' (by simp) F
      | 3, _ => rw [sum_3]; exact Both.mk' (by simp) F
      | 4, _ => rw [sum_4]; exact Both.mk' (by simp) F
      | 5, _ => rw [sum_5]; exact Both.mk' (by simp) F
      | 6, _ => rw [sum_6]; exact Both.mk' (by simp) F
      | w + 7, h => exact absurd h (by omega)
  · rw [if_neg h]
    by_cases h1 : x1 < -1
    · rw [if_pos h1]; exact Both.mk (F.up (by decide))
    · rw [if_neg h1, if_neg (show ¬ x1 < 7 by rw [Int32.lt_iff_toInt_lt] at h1 ⊢; omega)]
      exact Both.mk (F.up (by decide))
theorem RA.congr (R : RA sz li to ki co te s n l kd cc Hh) {ki' co' : Nat → Int32} {te' : Nat → Int64} {s' : Nat → Int32} (h1 : ∀ j, j < 8 → ki' j = ki j) (h2 : ∀ j, j < 8 → co' j = co j) (h3 : ∀ j, j < 32 → te' j = te j) (h4 : ∀ j, j < 538 → s' j = s j) : RA sz li to ki' co' te' s' n l kd cc Hh := by
  obtain ⟨⟨a1, a2, a3, a4⟩, ⟨b1, b2, b3, b4⟩, c, d, ⟨t, t1, t2, t3⟩, f⟩ := R
  refine ⟨⟨a1, a2, fun g hg => ?_, fun g hg q hq => ?_⟩, ⟨b1, ?_, fun g hg => ?_, fun g hg => ?_⟩, ⟨c.1, c.2.1, ?_⟩, fun g hg => ?_, ⟨t, t1, t2, fun g hg => ?_⟩, fun j e1 e2 => ?_⟩
  · rw [h1 g (by omega)]; exact a3 g hg
  · have := a4 g hg q hq
    unfold tb at this ⊢
    rw [h3 _ (by omega)]; exact this
  · rw [h4 0 (by omega)]; exact b2
  · rw [h4 _ (by omega)]; exact b3 g hg
  · exact (b4 g hg).congr (h4 _ (by omega)) (fun k hk => h4 _ (by omega))
  · rw [h4 1 (by omega)]; exact c.2.2
  · rw [h2 g (by omega), h4 _ (by omega)]; exact d g hg
  · rw [h4 _ (by omega)]; exact t3 g hg
  · rw [h3 j e2]; exact f j e1 e2
theorem take_eq (a b c : Int32) (ki co : Nat → Int32) (te : Nat → Int64) (kn : Nat → Int32) (sz li to : Int32) (ki1 co1 : Nat → Int32) (te1 : Nat → Int64) : fX0_take a b c ki co te kn sz li to ki1 co1 te1 = some (sz, li, to, va_cpy ki1 ki 0 0 8, va_cpy co1 co 0 0 8, va_cpy te1 te 0 0 32, fillF 256 (-1) kn) := by
  unfold fX0_take
  rw [fillI 256 (by decide), bV_some]
  rfl
theorem cpy_at {α : Type} (f g : Nat → α) {n j : Nat} (h : j < n) : va_cpy f g 0 0 n j = f j := by
  unfold va_cpy
  rw [if_pos ⟨Nat.zero_le _, by omega⟩]
  congr 1
  omega
theorem image_loop {ik : Int32} : ∀ (f i : Nat) (ks : Nat → Int32), i ≤ 538 → 538 - i < f → (∀ j, j < i → ks j = s j) → Ret (ll3 (fX5_image_2 s) f ik ks (nI i)) 1 (fun k => k.1 = 1 ∧ ∀ j, j < 538 → k.2 j = s j)
  | 0, i, _, _, h, _ => absurd h (by omega)
  | f + 1, i, ks, hi, hf, hk => by
    have ih := image_loop (ik := ik) f (i + 1)
    show Ret (fX5_image_2 s (ll3 (fX5_image_2 s) f) ik ks (nI i)) _ _
    generalize ll3 (fX5_image_2 s) f = ag at ih ⊢
    unfold fX5_image_2
    rw [fa_lit 538, ite_le (by decide) (by omega)]
    by_cases c : 538 ≤ i
    · rw [if_pos c]
      exact Ret.mk ⟨rfl, fun j hj => hk j (by omega)⟩
    · rw [if_neg c, gIn_nI (by omega) (by decide), gIn_nI (by omega) (by decide), nm_of, nI_1, nI_clamp (by omega)]
      refine ih _ (by omega) (by omega) (fun j hj => ?_)
      by_cases d : j = i
      · subst d; rw [pk_us]
      · rw [pk_un d]; exact hk j (by omega)
theorem undo_loop {ik : Int32} {ks : Nat → Int32} : ∀ (f i : Nat) (s : Nat → Int32), i ≤ 538 → 538 - i < f → (∀ j, j < i → s j = ks j) → Ret (ll3 (fX5_undo_16 ik ks) f s st (nI i)) (ks 0) (fun k => (∀ j, j < 538 → k.1 j = ks j) ∧ k.2 = st)
  | 0, i, _, _, h, _ => absurd h (by omega)
  | f + 1, i, s, hi, hf, hk => by
    have ih := undo_loop (ik := ik) (ks := ks) f (i + 1)
    show Ret (fX5_undo_16 ik ks (ll3 (fX5_undo_16 ik ks) f) s st (nI i)) _ _
    generalize ll3 (fX5_undo_16 ik ks) f = ag at ih ⊢
    unfold fX5_undo_16
    rw [fa_lit 538, ite_le (by decide) (by omega)]
    by_cases c : 538 ≤ i
    · rw [if_pos c]
      exact Ret.mk' (hk 0 (by omega)) ⟨fun j hj => hk j (by omega), rfl⟩
    · rw [if_neg c, gIn_nI (by omega) (by decide), gIn_nI (by omega) (by decide), nm_of, nI_1, nI_clamp (by omega)]
      refine ih _ (by omega) (by omega) (fun j hj => ?_)
      by_cases d : j = i
      · subst d; rw [pk_us]
      · rw [pk_un d]; exact hk j (by omega)
theorem op_image {ik ik2 a b c : Int32} {ki2 co2 kn2 : Nat → Int32} {te2 : Nat → Int64} {ks : Nat → Int32} (R : RA sz li to ki co te s n l kd cc Hh) : Both (fX4_image ik sz li to ki co te a b c ki2 co2 te2 kn2) (fX5_image ik2 s ks) (fun k1 k2 => k1.1 = 1 ∧ k2.1 = 1 ∧ RA k1.2.1 k1.2.2.1 k1.2.2.2.1 k1.2.2.2.2.1 k1.2.2.2.2.2.1 k1.2.2.2.2.2.2.1 k2.2 n l kd cc Hh) := by
  obtain ⟨k, e, q1, q2⟩ := image_loop (s := s) (ik := ik2) 1024 0 ks (by omega) (by omega) (fun j hj => absurd hj (by omega))
  have e : fX5_image ik2 s ks = some (1, k) := e
  unfold fX4_image
  rw [e, take_eq, bV_some]
  exact Both.mk ⟨rfl, q1, R.congr (fun j hj => cpy_at _ _ hj) (fun j hj => cpy_at _ _ hj) (fun j hj => cpy_at _ _ hj) q2⟩
theorem op_undo {ik : Int32} {sz2 li2 to2 : Int32} {ki2 co2 : Nat → Int32} {te2 : Nat → Int64} {ks : Nat → Int32} {n2 l2 : Nat} {kd2 cc2 : Nat → Nat} {Hh2 : Nat → Nat → Bool} (R : RA sz li to ki co te s n l kd cc Hh) (K : KV n kd Hh kn) (R2 : RA sz2 li2 to2 ki2 co2 te2 ks n2 l2 kd2 cc2 Hh2) (F : FS fi st) : Both (fX4_undo ik sz li to ki co te kn sz2 li2 to2 ki2 co2 te2 fi) (fX5_undo ik s ks st) (fun k1 k2 => (∃ n' l' kd' cc' Hh', RA k1.1 k1.2.1 k1.2.2.1 k1.2.2.2.1 k1.2.2.2.2.1 k1.2.2.2.2.2.1 k2.1 n' l' kd' cc' Hh' ∧ KV n' kd' Hh' k1.2.2.2.2.2.2.1) ∧ FS k1.2.2.2.2.2.2.2 k2.2) := by
  unfold fX4_undo fX5_undo
  by_cases c : ik = 0
  · rw [if_pos c, if_pos c, fnd_4, fns_4, bR_some, bR_some]
    exact Both.mk ⟨⟨n, l, kd, cc, Hh, R, K⟩, F.up (by decide)⟩
  · rw [if_neg c, if_neg c, take_eq, bV_some]
    obtain ⟨k, e, q1, q2⟩ := undo_loop (st := st) (ik := ik) (ks := ks) 1024 0 s (by omega) (by omega) (fun j hj => absurd hj (by omega))
    have e : ll3 (fX5_undo_16 ik ks) qF s st 0 = some (ks 0, k) := e
    rw [e]
    exact Both.mk' (R2.1.2.1.trans R2.2.1.2.1.symm) ⟨⟨n2, l2, kd2, cc2, Hh2, R2.congr (fun j hj => cpy_at _ _ hj) (fun j hj => cpy_at _ _ hj) (fun j hj => cpy_at _ _ hj) q1, KV_new kn⟩, by rw [q2]; exact F⟩
/-! the tape -/
def RT (tl : Int32) (by_ : Nat → Int32) (tp : Int32) (ta : Nat → Int32) (t : Nat) : Prop := t ≤ 60 ∧ tl = nI t ∧ tp = nI t ∧ ∀ j, j < t → ∃ b, b < 256 ∧ by_ j = nI b ∧ ta j = nI b
def bt (x : Int32) (i : Nat) : Bool := x.toBitVec.getLsbD i
theorem b_ext {x y : Int32} (h : ∀ i, i < 32 → bt x i = bt y i) : x = y := Int32.toBitVec_inj.mp (BitVec.eq_of_getLsbD_eq (fun i hi => h i hi))
theorem b_and (x y : Int32) (i : Nat) : bt (x &&& y) i = (bt x i && bt y i) := by unfold bt; rw [Int32.toBitVec_and, BitVec.getLsbD_and]
theorem b_255 : ∀ i, i < 32 → bt 255 i = decide (i < 8) := by decide +kernel
theorem s_l : ∀ n, n < 32 → ((nI n &&& 31).toBitVec.smod 32).toNat = n := by decide +kernel
theorem s_u : ∀ n, n < 32 → (((nI n).toUInt32 &&& Int32.toUInt32 31).toBitVec % 32).toNat = n := by decide +kernel
theorem b_ushr (n : Nat) (hn : n < 32) (x : Int32) (i : Nat) : bt ((x.toUInt32 >>> ((nI n).toUInt32 &&& Int32.toUInt32 31)).toInt32) i = bt x (n + i) := by
  show (x.toUInt32 >>> ((nI n).toUInt32 &&& Int32.toUInt32 31)).toBitVec.getLsbD i = x.toUInt32.toBitVec.getLsbD (n + i)
  rw [UInt32.toBitVec_shiftRight]
  show (x.toUInt32.toBitVec >>> (((nI n).toUInt32 &&& Int32.toUInt32 31).toBitVec % 32).toNat).getLsbD i = _
  rw [s_u n hn, BitVec.getLsbD_ushiftRight]
theorem b_sshr (n : Nat) (hn : n < 32) (x : Int32) {i : Nat} (hi : i < 32) : bt (x >>> (nI n &&& 31)) i = if n + i < 32 then bt x (n + i) else bt x 31 := by
  unfold bt
  rw [Int32.toBitVec_shiftRight]
  show (x.toBitVec.sshiftRight ((nI n &&& 31).toBitVec.smod 32).toNat).getLsbD i = _
  rw [s_l n hn, BitVec.getLsbD_sshiftRight, BitVec.msb_eq_getLsbD_last]
  simp [hi]
theorem byte_eq (x : Int32) {j : Nat} (hj : j < 4) : jushr x (8 * nI j) &&& 255 = jshr x (8 * nI j) &&& 255 := by
  have e : 8 * nI j = nI (8 * j) := by rw [fa_lit 8, nI_mulL]
  rw [e]
  apply b_ext
  intro i hi
  rw [b_and, b_and, b_255 i hi]
  by_cases c : i < 8
  · rw [b_ushr _ (by omega), b_sshr _ (by omega) _ hi, if_pos (by omega)]
  · rw [decide_eq_false c, Bool.and_false, Bool.and_false]
theorem byte_ex (x : Int32) : ∃ b, b < 256 ∧ x &&& 255 = nI b := pk_andE x 8 (by decide)
theorem feed_loop {x1 : Int32} (F : FS fi st) : ∀ (f k t : Nat) (by_ ta : Nat → Int32), k ≤ 4 → k < f → RT (nI t) by_ (nI t) ta t → t + k ≤ 60 → Both (ll4 fX2_append_4 f (nI t) by_ x1 (nI k - 1)) (ll5 fX5_feed_41 f (nI t) st ta x1 (nI k - 1)) (fun k1 k2 => (∃ t', RT k1.1 k1.2 k2.1 k2.2.2 t') ∧ k2.2.1 = st)
  | 0, k, t, _, _, _, h, _, _ => absurd h (by omega)
  | f + 1, k, t, by_, ta, hk, hf, hT, hle => by
    have ih := feed_loop (x1 := x1) F f (k - 1) (t + 1)
    show Both (fX2_append_4 (ll4 fX2_append_4 f) (nI t) by_ x1 (nI k - 1)) (fX5_feed_41 (ll5 fX5_feed_41 f) (nI t) st ta x1 (nI k - 1)) _
    generalize ll4 fX2_append_4 f = ag1 at ih ⊢
    generalize ll5 fX5_feed_41 f = ag2 at ih ⊢
    unfold fX2_append_4 fX5_feed_41
    by_cases c : k = 0
    · subst c
      rw [if_pos (by decide), if_pos (by decide)]
      exact Both.mk ⟨⟨t, hT⟩, rfl⟩
    · have e : nI k - 1 = nI (k - 1) := by rw [fa_lit 1, nI_sub1 (by omega)]
      have e3 : nI (k - 1) + (-1) = nI (k - 1) - 1 := by
        rw [Int32.sub_eq_add_neg]
      rw [e, if_neg (nI_neg (by omega)), if_neg (nI_neg (by omega)), gIn_nI (by omega) (by decide), gIn_nI (by omega) (by decide), nm_of, nm_of, nm_of, nm_of, nI_1, e3, nI_clamp (by omega), byte_eq x1 (by omega)]
      obtain ⟨b, hb, eb⟩ := byte_ex (jshr x1 (8 * nI (k - 1)))
      rw [eb]
      refine ih _ _ (by omega) (by omega) ⟨by omega, rfl, rfl, fun j hj => ?_⟩ (by omega)
      by_cases d : j = t
      · subst d; exact ⟨b, hb, pk_us, pk_us⟩
      · rw [pk_un d, pk_un d]; exact hT.2.2.2 j (by omega)
theorem op_feed {tl tp : Int32} {by_ ta : Nat → Int32} {t : Nat} (T : RT tl by_ tp ta t) (F : FS fi st) (x1 x2 : Int32) : Both (fX4_feed tl by_ fi x1 x2) (fX5_feed tp st ta x1 x2) (fun k1 k2 => (∃ t', RT k1.1 k1.2.1 k2.1 k2.2.2 t') ∧ FS k1.2.2 k2.2.1) := by
  have T0 := T
  obtain ⟨t1, rfl, rfl, t2⟩ := T
  unfold fX4_feed fX5_feed fX4_feed_10
  have e1 : (1 : Int32).toInt = 1 := by decide
  have e4 : (4 : Int32).toInt = 4 := by decide
  rw [in_32 x2 1 4 (by decide) (by decide), bR_some, ite_b2, fnd_1, fns_1, bR_some, bR_some]
  by_cases h : 1 ≤ x2.toInt ∧ x2.toInt ≤ 4
  · rw [if_pos h, if_neg (show ¬ x2 < 1 by rw [Int32.lt_iff_toInt_lt]; omega), if_pos (show x2 ≤ 4 by rw [Int32.le_iff_toInt_le]; omega)]
    obtain ⟨m, hm, rfl⟩ := i_ex (x := x2) (n := 5) (by decide) (by omega) (by omega)
    rw [fa_lit 60, nI_sub1 t1, ite_lt (by omega) (by omega), nI_add, ite_le (by omega) (by decide), fnd_2, fns_2, bR_some, bR_some, nm_of]
    by_cases c : t + m ≤ 60
    · rw [if_neg (by omega), if_pos c]
      unfold fX2_append
      rw [nm_of]
      obtain ⟨r, k1, k2, q1, q2, q3, q4⟩ := feed_loop (x1 := x1) F 1024 m t by_ ta (by omega) (by omega) T0 c
      have q1 : ll4 fX2_append_4 qF (nI t) by_ x1 (nI m - 1) = some (r, k1) := q1
      have q2 : ll5 fX5_feed_41 qF (nI t) st ta x1 (nI m - 1) = some (r, k2) := q2
      rw [q1, q2, bR_some]
      exact Both.mk ⟨q3, by rw [q4]; exact F⟩
    · rw [if_pos (by omega), if_neg c]
      exact Both.mk ⟨⟨t, T0⟩, F.up (by decide)⟩
  · rw [if_neg h]
    by_cases h1 : x2 < 1
    · rw [if_pos h1]; exact Both.mk ⟨⟨t, T0⟩, F.up (by decide)⟩
    · rw [if_neg h1, if_neg (show ¬ x2 ≤ 4 by rw [Int32.lt_iff_toInt_lt] at h1; rw [Int32.le_iff_toInt_le]; omega)]
      exact Both.mk ⟨⟨t, T0⟩, F.up (by decide)⟩
end OPS2
