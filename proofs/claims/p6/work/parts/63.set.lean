/-! what settles -/
def cnt (p : Nat → Bool) : Nat → Nat
  | 0 => 0
  | n + 1 => cnt p n + if p n then 1 else 0
theorem cnt_le (p : Nat → Bool) : ∀ n, cnt p n ≤ n
  | 0 => Nat.le_refl 0
  | n + 1 => by
    have ih := cnt_le p n
    show cnt p n + (if p n then 1 else 0) ≤ n + 1
    split <;> omega
theorem cnt_congr {p q : Nat → Bool} : ∀ {n : Nat}, (∀ i, i < n → p i = q i) → cnt p n = cnt q n
  | 0, _ => rfl
  | n + 1, h => by
    show cnt p n + _ = cnt q n + _
    rw [cnt_congr (fun i hi => h i (by omega)), h n (by omega)]
theorem cnt_less {p q : Nat → Bool} {x : Nat} : ∀ {n : Nat}, x < n → p x = true → q x = false → (∀ i, i < n → ¬ i = x → q i = p i) → cnt p n = cnt q n + 1
  | 0, h, _, _, _ => absurd h (by omega)
  | n + 1, h, h1, h2, h3 => by
    show cnt p n + (if p n then 1 else 0) = cnt q n + (if q n then 1 else 0) + 1
    by_cases c : x = n
    · subst c
      rw [h1, h2, cnt_congr (fun i hi => (h3 i (by omega) (by omega)).symm)]
      simp
    · rw [cnt_less (x := x) (by omega) h1 h2 (fun i hi => h3 i (by omega)), h3 n (by omega) (fun q => c q.symm)]
      omega
theorem cnt_all (n : Nat) : cnt (fun _ => true) n = n := by
  induction n with
  | zero => rfl
  | succ n ih => show cnt (fun _ => true) n + 1 = n + 1; rw [ih]
theorem cnt_pos {p : Nat → Bool} : ∀ {n i : Nat}, i < n → p i = true → 0 < cnt p n
  | 0, i, h, _ => absurd h (by omega)
  | n + 1, i, h, hp => by
    show 0 < cnt p n + (if p n then 1 else 0)
    by_cases c : i = n
    · subst c; rw [if_pos hp]; omega
    · have := cnt_pos (p := p) (n := n) (i := i) (by omega) hp; omega
section SETT
variable {sz li to : Int32} {ki co : Nat → Int32} {te : Nat → Int64} {s kn fi st pile wish mark : Nat → Int32} {n l : Nat} {kd cc : Nat → Nat} {Hh : Nat → Nat → Bool}
theorem when_loop (P : PC n kd Hh sz ki te) {w p : Nat → Int32} (V : WV n kd Hh w) (F : FS fi st) : ∀ (d i a f1 f2 : Nat) (kn : Nat → Int32), i + d = 256 → d + 2 ≤ f1 → d + 1 ≤ f2 → a < 2 ^ n → KV n kd Hh kn → Both (ll4 (fX4_when_10 sz li ki te) f1 kn fi (nI a) (nI i)) (ll5 (fX5_when_13 s) f2 st p w (nI a) (nI i)) (fun k1 k2 => KV n kd Hh k1.1 ∧ FS k1.2 k2.1) := by
  intro d
  have hN := two_le P.1
  induction d with
  | zero =>
    intro i a f1 f2 kn hi h1 h2 ha K
    have e : i = 256 := by omega
    subst e
    obtain ⟨g1, rfl⟩ : ∃ g, f1 = g + 1 + 1 := ⟨f1 - 2, by omega⟩
    obtain ⟨g2, rfl⟩ : ∃ g, f2 = g + 1 := ⟨f2 - 1, by omega⟩
    show Both (fX4_when_10 sz li ki te (ll4 (fX4_when_10 sz li ki te) (g1 + 1)) kn fi (nI a) (nI 256)) (fX5_when_13 s (ll5 (fX5_when_13 s) g2) st p w (nI a) (nI 256)) _
    have e1 : ∀ k x, ll4 (fX4_when_10 sz li ki te) (g1 + 1) k fi x (nI 257) = some (-1000000004, (k, upd fi 3 (fi 3 + 1))) := by
      intro k x
      show fX4_when_10 sz li ki te (ll4 (fX4_when_10 sz li ki te) g1) k fi x (nI 257) = _
      unfold fX4_when_10
      rw [if_pos (show (256 : Int32) < nI 257 by decide), fnd_4, bR_some]
    generalize ll4 (fX4_when_10 sz li ki te) (g1 + 1) = ag1 at e1 ⊢
    unfold fX4_when_10 fX5_when_13 fX5_when_43
    rw [if_neg (show ¬ (256 : Int32) < nI 256 by decide), if_pos (show (256 : Int32) ≤ nI 256 by decide), gIn_nI (by omega) (by decide), nI_clamp (by omega), V a ha, ite_eqN (by have := Wd_256 P.1 kd Hh a; omega) (by omega)]
    obtain ⟨k1, q1, K1⟩ := isSettled_r P K (l := a) (by omega)
    rw [q1, bR_some, ite_b2]
    by_cases c : Wd n kd Hh a = a
    · rw [if_pos c, if_pos c]
      exact Both.mk ⟨K1, F⟩
    · rw [if_neg c, if_neg c, fns_4, bR_some]
      obtain ⟨k2, q2, K2⟩ := comers_r P K1 (l := a) (by omega)
      rw [q2, bR_some, nm_of, nI_1, e1]
      exact Both.mk ⟨K2, F.up (by decide)⟩
  | succ d ih =>
    intro i a f1 f2 kn hi h1 h2 ha K
    obtain ⟨g1, rfl⟩ : ∃ g, f1 = g + 1 := ⟨f1 - 1, by omega⟩
    obtain ⟨g2, rfl⟩ : ∃ g, f2 = g + 1 := ⟨f2 - 1, by omega⟩
    have ih := ih (i + 1) (Wd n kd Hh a) g1 g2
    show Both (fX4_when_10 sz li ki te (ll4 (fX4_when_10 sz li ki te) g1) kn fi (nI a) (nI i)) (fX5_when_13 s (ll5 (fX5_when_13 s) g2) st p w (nI a) (nI i)) _
    generalize ll4 (fX4_when_10 sz li ki te) g1 = ag1 at ih ⊢
    generalize ll5 (fX5_when_13 s) g2 = ag2 at ih ⊢
    unfold fX4_when_10 fX5_when_13 fX5_when_43
    rw [fa_lit 256, ite_lt (by decide) (by omega), ite_le (by decide) (by omega), if_neg (by omega), if_neg (by omega), gIn_nI (by omega) (by decide), gIn_nI (by omega) (by decide), gIn_nI (by omega) (by decide), nI_clamp (by omega), V a ha, ite_eqN (by have := Wd_256 P.1 kd Hh a; omega) (by omega), nm_of, nm_of]
    obtain ⟨k1, q1, K1⟩ := isSettled_r P K (l := a) (by omega)
    rw [q1, bR_some, ite_b2]
    by_cases c : Wd n kd Hh a = a
    · rw [if_pos c, if_pos c, if_pos (by rw [c])]
      exact Both.mk ⟨K1, F⟩
    · rw [if_neg c, if_neg c]
      obtain ⟨k2, q2, K2⟩ := comers_r P K1 (l := a) (by omega)
      rw [q2, bR_some, nm_of, nI_1]
      exact ih k2 (by omega) (by omega) (by omega) (Wd_lt n kd Hh a) K2
theorem op_when (R : RA sz li to ki co te s n l kd cc Hh) (K : KV n kd Hh kn) (F : FS fi st) : Both (fX4_when sz li ki te kn fi) (fX5_when s st pile wish) (fun k1 k2 => KV n kd Hh k1.1 ∧ FS k1.2 k2.1) := by
  obtain ⟨P, M, hL, hC, hT, -⟩ := R
  unfold fX4_when fX5_when
  obtain ⟨k, e, V⟩ := looksAll_r M pile wish
  rw [e, bV_some, nm_of, hL.2.1, hL.2.2]
  exact when_loop P V F 256 0 l 1024 1024 kn (by omega) (by omega) (by omega) hL.1 K
/-! how many -/
def ss (n : Nat) (kd : Nat → Nat) (Hh : Nat → Nat → Bool) (l : Nat) : Bool := decide (Wd n kd Hh l = l)
theorem cnt_s (p : Nat → Bool) (i : Nat) : nI (cnt p i) + b2 (p i = true) = nI (cnt p (i + 1)) := by
  show _ = nI (cnt p i + if p i then 1 else 0)
  cases h : p i with
  | false => rw [b2_f (by simp), if_neg (by simp), fa_lit 0, nI_add]
  | true => rw [b2_t rfl, if_pos rfl, nI_1]
theorem settled_loop (P : PC n kd Hh sz ki te) : ∀ (f i : Nat) (kn : Nat → Int32), i ≤ 2 ^ n → 2 ^ n - i < f → KV n kd Hh kn → Ret (ll3 (fX4_settled_4 sz ki te) f kn (nI (cnt (ss n kd Hh) i)) (nI i)) (nI (cnt (ss n kd Hh) (2 ^ n))) (KV n kd Hh)
  | 0, i, _, _, h, _ => absurd h (by omega)
  | f + 1, i, kn, hi, hf, K => by
    have ih := settled_loop P f (i + 1)
    have hN := two_le P.1
    show Ret (fX4_settled_4 sz ki te (ll3 (fX4_settled_4 sz ki te) f) kn (nI (cnt (ss n kd Hh) i)) (nI i)) _ _
    generalize ll3 (fX4_settled_4 sz ki te) f = ag at ih ⊢
    unfold fX4_settled_4
    have hsz := P.2.1
    rw [show fX0_lists sz = some (nI (2 ^ n), ()) from by rw [hsz]; exact lists_c P.1, bR_some, ite_le (by omega) (by omega)]
    by_cases c : 2 ^ n ≤ i
    · have e : i = 2 ^ n := by omega
      rw [if_pos c, e]
      exact Ret.mk K
    · rw [if_neg c]
      refine Ret.b1 (isSettled_r P K (by omega)) (fun k hk => ?_)
      rw [oneIf_b2, bR_some, nm_of, nm_of, nI_1, b2_congr (show Wd n kd Hh i = i ↔ ss n kd Hh i = true from by unfold ss; exact decide_eq_true_iff.symm), cnt_s]
      exact ih k (by omega) (by omega) hk
theorem settledM_loop (M : PM n kd Hh s) {w : Nat → Int32} (V : WV n kd Hh w) : ∀ (f i : Nat) (p : Nat → Int32), i ≤ 2 ^ n → 2 ^ n - i < f → Ret (ll4 (fX5_manySettled_8 s) f p w (nI (cnt (ss n kd Hh) i)) (nI i)) (nI (cnt (ss n kd Hh) (2 ^ n))) (fun k => WV n kd Hh k.2)
  | 0, i, _, _, h => absurd h (by omega)
  | f + 1, i, p, hi, hf => by
    have ih := settledM_loop M V f (i + 1)
    have hN := two_le M.1
    show Ret (fX5_manySettled_8 s (ll4 (fX5_manySettled_8 s) f) p w (nI (cnt (ss n kd Hh) i)) (nI i)) _ _
    generalize ll4 (fX5_manySettled_8 s) f = ag at ih ⊢
    unfold fX5_manySettled_8
    rw [lists_m M, bR_some, ite_le (by omega) (by omega)]
    by_cases c : 2 ^ n ≤ i
    · have e : i = 2 ^ n := by omega
      rw [if_pos c, e]
      exact Ret.mk V
    · rw [if_neg c, gIn_nI (by omega) (by decide), nI_clamp (by omega), V i (by omega), ite_eqN (by have := Wd_256 M.1 kd Hh i; omega) (by omega)]
      unfold fX5_manySettled_32
      have h := cnt_s (ss n kd Hh) i
      by_cases d : Wd n kd Hh i = i
      · rw [if_pos d, nm_of, nm_of, nI_1 i]
        rw [b2_t (show ss n kd Hh i = true from decide_eq_true d)] at h
        rw [h]
        exact ih p (by omega) (by omega)
      · rw [if_neg d, nm_of, nm_of, nI_1]
        rw [b2_f (show ¬ ss n kd Hh i = true from by unfold ss; rw [decide_eq_false d]; simp)] at h
        rw [h]
        exact ih p (by omega) (by omega)
theorem manySettled_r (M : PM n kd Hh s) : Ret (fX5_manySettled s pile wish) (nI (cnt (ss n kd Hh) (2 ^ n))) (fun k => WV n kd Hh k.2) := by
  unfold fX5_manySettled
  refine RetV.b1 (looksAll_r M pile wish) (fun k V => ?_)
  exact settledM_loop M V 1024 0 k.1 (Nat.zero_le _) (by have := two_le M.1; omega)
theorem op_settled (R : RA sz li to ki co te s n l kd cc Hh) (K : KV n kd Hh kn) : Both (fX4_settled sz ki te kn) (fX5_settled s pile wish) (fun k1 _ => KV n kd Hh k1) := by
  obtain ⟨P, M, -⟩ := R
  unfold fX4_settled fX5_settled
  exact Both.of (settled_loop P 1024 0 kn (Nat.zero_le _) (by have := two_le P.1; omega) K) (Q2 := fun _ => True) (Ret.b1 (manySettled_r M) (fun k _ => Ret.mk trivial)) (fun k1 k2 q1 _ => q1)
theorem ith_loop (P : PC n kd Hh sz ki te) (M : PM n kd Hh s) {w p : Nat → Int32} (V : WV n kd Hh w) (F : FS fi st) {v : Nat} (hv : v < 2 ^ 31) : ∀ (f i b : Nat) (kn : Nat → Int32), i ≤ 2 ^ n → 2 ^ n - i < f → b ≤ v → KV n kd Hh kn → Both (ll5 (fX4_ith_15 sz ki te) f kn fi (nI v) (nI b) (nI i)) (ll5 (fX5_ith_19 s) f st p w (nI (v - b)) (nI i)) (fun k1 k2 => KV n kd Hh k1.1 ∧ FS k1.2 k2.1)
  | 0, i, _, _, _, h, _, _ => absurd h (by omega)
  | f + 1, i, b, kn, hi, hf, hb, K => by
    have ih := ith_loop P M (p := p) V F hv f (i + 1)
    have hN := two_le P.1
    show Both (fX4_ith_15 sz ki te (ll5 (fX4_ith_15 sz ki te) f) kn fi (nI v) (nI b) (nI i)) (fX5_ith_19 s (ll5 (fX5_ith_19 s) f) st p w (nI (v - b)) (nI i)) _
    generalize ll5 (fX4_ith_15 sz ki te) f = ag1 at ih ⊢
    generalize ll5 (fX5_ith_19 s) f = ag2 at ih ⊢
    unfold fX4_ith_15 fX5_ith_19 fX4_ith_47 fX5_ith_46
    have hsz := P.2.1
    rw [show fX0_lists sz = some (nI (2 ^ n), ()) from by rw [hsz]; exact lists_c P.1, lists_m M, bR_some, bR_some, ite_le (by omega) (by omega), ite_le (by omega) (by omega)]
    by_cases c : 2 ^ n ≤ i
    · rw [if_pos c, if_pos c, fnd_4, fns_4, bR_some, bR_some]
      exact Both.mk ⟨K, F.up (by decide)⟩
    · obtain ⟨k1, q1, K1⟩ := isSettled_r P K (l := i) (by omega)
      rw [if_neg c, if_neg c, gIn_nI (by omega) (by decide), nI_clamp (by omega), V i (by omega), ite_eqN (by have := Wd_256 P.1 kd Hh i; omega) (by omega), q1, bR_some, ite_b2, nm_of, nm_of, nm_of, nm_of, nm_of, nm_of, nI_1, nI_1, ite_eqN (by omega) (by omega)]
      by_cases d : Wd n kd Hh i = i
      · rw [if_pos d, if_pos d]
        by_cases e : b = v
        · rw [if_pos e, if_pos (show nI (v - b) = 0 from by rw [e, Nat.sub_self]; rfl)]
          exact Both.mk ⟨K1, F⟩
        · have e2 : ¬ nI (v - b) = 0 := fun q => e (by have := (nI_eq (b := 0) (by omega) (by decide)).mp q; omega)
          have e3 : nI (v - b) + (-1) = nI (v - (b + 1)) := by
            have : nI (v - b) = nI (v - (b + 1)) + 1 := by rw [nI_1]; congr 1; omega
            rw [this, Int32.add_assoc]
            show nI (v - (b + 1)) + 0 = _
            simp
          rw [if_neg e, if_neg e2, e3]
          exact ih (b + 1) k1 (by omega) (by omega) (by omega) K1
      · rw [if_neg d, if_neg d]
        exact ih b k1 (by omega) (by omega) hb K1
theorem op_ith (R : RA sz li to ki co te s n l kd cc Hh) (K : KV n kd Hh kn) (F : FS fi st) (x1 : Int32) : Both (fX4_ith sz ki te kn fi x1) (fX5_ith s st pile wish x1) (fun k1 k2 => KV n kd Hh k1.1 ∧ FS k1.2 k2.1) := by
  obtain ⟨P, M, -⟩ := R
  unfold fX4_ith fX5_ith
  by_cases h : 0 ≤ x1
  · rw [if_pos h, if_pos h]
    obtain ⟨v, hv, rfl⟩ := nI_of (x := x1) (fun q => by
      rw [Int32.lt_iff_toInt_lt] at q; rw [Int32.le_iff_toInt_le] at h; omega)
    obtain ⟨k, e, V⟩ := looksAll_r M pile wish
    rw [e, bV_some]
    have := ith_loop P M (p := k.1) V F hv 1024 0 0 kn (Nat.zero_le _) (by have := two_le P.1; omega) (Nat.zero_le _) K
    rw [Nat.sub_zero] at this
    exact this
  · rw [if_neg h, if_neg h, fnd_1, fns_1, bR_some, bR_some]
    exact Both.mk ⟨K, F.up (by decide)⟩
/-! of all that are settled -/
def fold (p : Nat → Bool) (f : Nat → Nat → Nat) (a : Nat) : Nat → Nat
  | 0 => a
  | i + 1 => if p i then f (fold p f a i) i else fold p f a i
theorem fold_t {p : Nat → Bool} {f : Nat → Nat → Nat} {a i : Nat} (h : p i = true) : fold p f a (i + 1) = f (fold p f a i) i := if_pos h
theorem fold_f {p : Nat → Bool} {f : Nat → Nat → Nat} {a i : Nat} (h : ¬ p i = true) : fold p f a (i + 1) = fold p f a i := if_neg h
theorem fold_lt {p : Nat → Bool} {f : Nat → Nat → Nat} {a M : Nat} (ha : a < M) (hf : ∀ x i, x < M → i < M → f x i < M) : ∀ i, i ≤ M → fold p f a i < M
  | 0, _ => ha
  | i + 1, h => by
    have ih := fold_lt (p := p) ha hf i (by omega)
    by_cases c : p i = true
    · rw [fold_t c]; exact hf _ _ ih (by omega)
    · rw [fold_f c]; exact ih
def mx (a i : Nat) : Nat := if a < pop i then pop i else a
def mn (a i : Nat) : Nat := if pop i < a then pop i else a
theorem mx_d (a i : Nat) : mx a i = if a < pop i then pop i else a := rfl
theorem mn_d (a i : Nat) : mn a i = if pop i < a then pop i else a := rfl
theorem fold_mx {p : Nat → Bool} : ∀ i, fold p mx 0 i ≤ 8
  | 0 => by show (0 : Nat) ≤ 8; omega
  | i + 1 => by
    have ih := fold_mx (p := p) i
    have := pop_le i
    by_cases c : p i = true
    · rw [fold_t c, mx_d]; split <;> omega
    · rw [fold_f c]; exact ih
theorem fold_mn {p : Nat → Bool} : ∀ i, fold p mn 8 i ≤ 8
  | 0 => by show (8 : Nat) ≤ 8; omega
  | i + 1 => by
    have ih := fold_mn (p := p) i
    have := pop_le i
    by_cases c : p i = true
    · rw [fold_t c, mn_d]; split <;> omega
    · rw [fold_f c]; exact ih
/-- what sure answers -/
def sureR (p : Nat → Bool) (N x : Nat) : Nat := if x = 0 then fold p (fun a i => a &&& i) (N - 1) N else if x = 1 then fold p (fun a i => a ||| i) 0 N else if x = 2 then fold p mx 0 N else fold p mn 8 N
/-- the greatest as the class counts it: -1 while there is none -/
def mC (p : Nat → Bool) (i : Nat) : Int32 := if cnt p i = 0 then -1 else nI (fold p mx 0 i)
theorem mC_t {p : Nat → Bool} {i : Nat} (h : p i = true) : mC p (i + 1) = jmax (mC p i) (nI (pop i)) := by
  have h8 := fold_mx (p := p) i
  have hp := pop_le i
  have e : cnt p (i + 1) = cnt p i + 1 := by show cnt p i + (if p i then 1 else 0) = _; rw [if_pos h]
  unfold mC
  rw [e, if_neg (by omega), fold_t h]
  by_cases c : cnt p i = 0
  · rw [if_pos c]
    have z : ∀ (q : Nat → Bool) (j : Nat), cnt q j = 0 → fold q mx 0 j = 0 := by
      intro q j
      induction j with
      | zero => intro _; rfl
      | succ j ih =>
        intro hc
        have hc : cnt q j + (if q j then 1 else 0) = 0 := hc
        by_cases d : q j = true
        · rw [if_pos d] at hc; omega
        · rw [fold_f d]; exact ih (by omega)
    rw [z p i c]
    exact (by decide +kernel : ∀ o, o < 9 → nI (if 0 < o then o else 0) = jmax (-1) (nI o)) (pop i) (by omega)
  · rw [if_neg c]
    show nI (if _ < _ then _ else _) = if _ < _ then _ else _
    rw [ite_lt (by omega) (by omega)]
    split <;> rfl
theorem mC_f {p : Nat → Bool} {i : Nat} (h : ¬ p i = true) : mC p (i + 1) = mC p i := by
  have e : cnt p (i + 1) = cnt p i := by show cnt p i + (if p i then 1 else 0) = _; rw [if_neg h]; rfl
  unfold mC
  rw [e, fold_f h]
theorem and_or_lt (hn : n ≤ 8) : (∀ x i, x < 256 → i < 256 → (fun a i => a &&& i) x i < 256) ∧ (∀ x i, x < 256 → i < 256 → (fun a i => a ||| i) x i < 256) := ⟨fun _ _ h _ => and_256 _ h, fun _ _ h1 h2 => or_256 h1 h2⟩
theorem sure_end {x : Nat} (hx : x < 4) {N : Nat} (p : Nat → Bool) (hc : ¬ cnt p N = 0) {κ : Type} (k : κ) : (if (nI x).toInt < 0 ∨ 2 < (nI x).toInt then some (nI (fold p mn 8 N), k) else (if nI x = 0 then some (nI (fold p (fun a i => a &&& i) (N - 1) N), k) else (if nI x = 1 then some (nI (fold p (fun a i => a ||| i) 0 N), k) else (if nI x = 2 then some (mC p N, k) else none)))) = some (nI (sureR p N x), k) := by
  unfold sureR mC
  rw [if_neg hc]
  match x, hx with
  | 0, _ => rfl
  | 1, _ => rfl
  | 2, _ => rfl
  | 3, _ => rfl
  | x + 4, h => exact absurd h (by omega)
theorem sure_loop (P : PC n kd Hh sz ki te) {x : Nat} (hx : x < 4) : ∀ (f i : Nat) (kn : Nat → Int32), i ≤ 2 ^ n → 2 ^ n - i < f → KV n kd Hh kn → Ret (ll8 (fX4_sure_36 sz ki te) f kn fi (nI x) (nI (fold (ss n kd Hh) (fun a i => a &&& i) (2 ^ n - 1) i)) (nI (fold (ss n kd Hh) (fun a i => a ||| i) 0 i)) (mC (ss n kd Hh) i) (nI (fold (ss n kd Hh) mn 8 i)) (nI i)) (if cnt (ss n kd Hh) (2 ^ n) = 0 then -1000000004 else nI (sureR (ss n kd Hh) (2 ^ n) x)) (fun k => KV n kd Hh k.1 ∧ k.2 = if cnt (ss n kd Hh) (2 ^ n) = 0 then upd fi 3 (fi 3 + 1) else fi)
  | 0, i, _, _, h, _ => absurd h (by omega)
  | f + 1, i, kn, hi, hf, K => by
    have ih := sure_loop P hx f (i + 1)
    have hN := two_le P.1
    show Ret (fX4_sure_36 sz ki te (ll8 (fX4_sure_36 sz ki te) f) kn fi (nI x) (nI (fold (ss n kd Hh) (fun a i => a &&& i) (2 ^ n - 1) i)) (nI (fold (ss n kd Hh) (fun a i => a ||| i) 0 i)) (mC (ss n kd Hh) i) (nI (fold (ss n kd Hh) mn 8 i)) (nI i)) _ _
    generalize ll8 (fX4_sure_36 sz ki te) f = ag at ih ⊢
    unfold fX4_sure_36 fX4_sure_94
    have hsz := P.2.1
    rw [show fX0_lists sz = some (nI (2 ^ n), ()) from by rw [hsz]; exact lists_c P.1, bR_some, ite_le (by omega) (by omega)]
    by_cases c : 2 ^ n ≤ i
    · have e : i = 2 ^ n := by omega
      subst e
      rw [if_pos c]
      by_cases z : cnt (ss n kd Hh) (2 ^ n) = 0
      · rw [if_pos z, if_pos z, if_neg (show ¬ (0 : Int32) ≤ mC (ss n kd Hh) (2 ^ n) from by unfold mC; rw [if_pos z]; decide), fnd_4, bR_some]
        exact Ret.mk ⟨K, rfl⟩
      · rw [if_neg z, if_neg z, if_pos (show (0 : Int32) ≤ mC (ss n kd Hh) (2 ^ n) from by unfold mC; rw [if_neg z]; exact nI_0le (by have := fold_mx (p := ss n kd Hh) (2 ^ n); omega)), sure_end hx _ z]
        exact Ret.mk ⟨K, rfl⟩
    · rw [if_neg c]
      refine Ret.b1 (isSettled_r P K (by omega)) (fun k hk => ?_)
      have ih := ih k (by omega) (by omega) hk
      rw [ite_b2]
      by_cases d : Wd n kd Hh i = i
      · have d2 : ss n kd Hh i = true := decide_eq_true d
        have h8 := fold_mn (p := ss n kd Hh) i
        have hp := pop_le i
        rw [fold_t d2, fold_t d2, fold_t d2, mC_t d2] at ih
        rw [if_pos d, pop_i i (by omega)]
        simp only [bR_some, nm_of, nI_1, fa_and, fa_or]
        have e : jmin (nI (fold (ss n kd Hh) mn 8 i)) (nI (pop i)) = nI (mn (fold (ss n kd Hh) mn 8 i) i) := by
          show (if _ < _ then _ else _) = nI (if _ < _ then _ else _)
          rw [ite_lt (by omega) (by omega)]
          split <;> rfl
        rw [e]
        exact ih
      · have d2 : ¬ ss n kd Hh i = true := by unfold ss; rw [decide_eq_false d]; simp
        rw [fold_f d2, fold_f d2, fold_f d2, mC_f d2] at ih
        rw [if_neg d, nm_of, nI_1]
        exact ih
theorem sureM_loop (M : PM n kd Hh s) {w p : Nat → Int32} (V : WV n kd Hh w) {x : Nat} (hx : x < 4) : ∀ (f i : Nat), i ≤ 2 ^ n → 2 ^ n - i < f → Ret (ll9 (fX5_sure_52 s) f st p w (nI x) (nI (fold (ss n kd Hh) (fun a i => a &&& i) (2 ^ n - 1) i)) (nI (fold (ss n kd Hh) (fun a i => a ||| i) 0 i)) (nI (fold (ss n kd Hh) mx 0 i)) (nI (fold (ss n kd Hh) mn 8 i)) (nI i)) (nI (sureR (ss n kd Hh) (2 ^ n) x)) (fun k => k.1 = st)
  | 0, i, _, h => absurd h (by omega)
  | f + 1, i, hi, hf => by
    have ih := sureM_loop M V hx (p := p) f (i + 1)
    have hN := two_le M.1
    show Ret (fX5_sure_52 s (ll9 (fX5_sure_52 s) f) st p w (nI x) (nI (fold (ss n kd Hh) (fun a i => a &&& i) (2 ^ n - 1) i)) (nI (fold (ss n kd Hh) (fun a i => a ||| i) 0 i)) (nI (fold (ss n kd Hh) mx 0 i)) (nI (fold (ss n kd Hh) mn 8 i)) (nI i)) _ _
    generalize ll9 (fX5_sure_52 s) f = ag at ih ⊢
    unfold fX5_sure_52 fX5_sure_103 fX5_sure_125 fX5_sure_127
    rw [lists_m M, bR_some, ite_le (by omega) (by omega)]
    by_cases c : 2 ^ n ≤ i
    · have e : i = 2 ^ n := by omega
      subst e
      rw [if_pos c]
      unfold sureR
      match x, hx with
      | 0, _ => exact Ret.mk rfl
      | 1, _ => exact Ret.mk rfl
      | 2, _ => exact Ret.mk rfl
      | 3, _ => exact Ret.mk rfl
      | x + 4, h => exact absurd h (by omega)
    · have ih := ih (by omega) (by omega)
      rw [if_neg c, gIn_nI (by omega) (by decide), nI_clamp (by omega), V i (by omega), ite_eqN (by have := Wd_256 M.1 kd Hh i; omega) (by omega)]
      by_cases d : Wd n kd Hh i = i
      · have d2 : ss n kd Hh i = true := decide_eq_true d
        have h8 := fold_mn (p := ss n kd Hh) i
        have h9 := fold_mx (p := ss n kd Hh) i
        have hp := pop_le i
        rw [fold_t d2, fold_t d2, fold_t d2, fold_t d2] at ih
        rw [if_pos d, nm_of, nm_of, ones_i i (by omega)]
        simp only [bR_some, nm_of, nI_1, fa_and, fa_or]
        rw [ite_le (by omega) (by omega), ite_le (by omega) (by omega)]
        rw [mx_d, mn_d] at ih
        by_cases c1 : pop i ≤ fold (ss n kd Hh) mx 0 i
        · rw [if_pos c1]
          rw [if_neg (show ¬ fold (ss n kd Hh) mx 0 i < pop i by omega)] at ih
          by_cases c2 : fold (ss n kd Hh) mn 8 i ≤ pop i
          · rw [if_pos c2]
            rw [if_neg (show ¬ pop i < fold (ss n kd Hh) mn 8 i by omega)] at ih
            exact ih
          · rw [if_neg c2]
            rw [if_pos (show pop i < fold (ss n kd Hh) mn 8 i by omega)] at ih
            exact ih
        · rw [if_neg c1, ite_le (by omega) (by omega)]
          rw [if_pos (show fold (ss n kd Hh) mx 0 i < pop i by omega)] at ih
          by_cases c2 : fold (ss n kd Hh) mn 8 i ≤ pop i
          · rw [if_pos c2]
            rw [if_neg (show ¬ pop i < fold (ss n kd Hh) mn 8 i by omega)] at ih
            exact ih
          · rw [if_neg c2]
            rw [if_pos (show pop i < fold (ss n kd Hh) mn 8 i by omega)] at ih
            exact ih
      · have d2 : ¬ ss n kd Hh i = true := by unfold ss; rw [decide_eq_false d]; simp
        rw [fold_f d2, fold_f d2, fold_f d2, fold_f d2] at ih
        rw [if_neg d, nm_of, nI_1]
        exact ih
theorem op_sure (R : RA sz li to ki co te s n l kd cc Hh) (K : KV n kd Hh kn) (F : FS fi st) (x1 : Int32) : Both (fX4_sure sz ki te kn fi x1) (fX5_sure s st pile wish x1) (fun k1 k2 => KV n kd Hh k1.1 ∧ FS k1.2 k2.1) := by
  obtain ⟨P, M, -⟩ := R
  have hn := P.1
  have hsz := P.2.1
  have hN := two_le hn
  unfold fX4_sure fX5_sure fX4_sure_9
  have e0 : (0 : Int32).toInt = 0 := by decide
  have e3 : (3 : Int32).toInt = 3 := by decide
  rw [in_32 x1 0 3 (by decide) (by decide), bR_some, ite_b2, fnd_1, fns_1, bR_some, bR_some]
  by_cases h : 0 ≤ x1.toInt ∧ x1.toInt ≤ 3
  · rw [if_pos h, if_neg (show ¬ x1 < 0 by rw [Int32.lt_iff_toInt_lt]; omega), if_pos (show x1 ≤ 3 by rw [Int32.le_iff_toInt_le]; omega)]
    obtain ⟨x, hx, rfl⟩ := i_ex (x := x1) (n := 4) (by decide) h.1 (by omega)
    rw [show fX0_everyone sz = some (nI (2 ^ n - 1), ()) from by rw [hsz]; exact everyone_c hn, bR_some]
    obtain ⟨k1, q1, q2, q3⟩ := sure_loop (fi := fi) P hx 1024 0 kn (Nat.zero_le _) (by omega) K
    have q1 : ll8 (fX4_sure_36 sz ki te) qF kn fi (nI x) (nI (2 ^ n - 1)) 0 (-1) 8 0 = some (_, k1) := q1
    obtain ⟨k2, p1, p2⟩ := manySettled_r (pile := pile) (wish := wish) M
    have hc := cnt_le (ss n kd Hh) (2 ^ n)
    rw [q1, p1, bR_some, lists_m M, bR_some, nm_of, fa_lit 1, nI_sub1 Nat.one_le_two_pow, fns_4, bR_some]
    by_cases z : cnt (ss n kd Hh) (2 ^ n) = 0
    · rw [if_pos z] at q3 ⊢
      rw [z, if_pos (show nI 0 = 0 from rfl)]
      exact Both.mk ⟨q2, by rw [q3]; exact F.up (by decide)⟩
    · rw [if_neg z] at q3 ⊢
      rw [if_neg (show ¬ nI (cnt (ss n kd Hh) (2 ^ n)) = 0 from fun q => z ((nI_eq (b := 0) (by omega) (by decide)).mp q))]
      obtain ⟨k3, p3, p4⟩ := sureM_loop (st := st) (p := k2.1) M p2 hx 1024 0 (Nat.zero_le _) (by omega)
      have p3 : ll9 (fX5_sure_52 s) qF st k2.1 k2.2 (nI x) (nI (2 ^ n - 1)) 0 0 8 0 = some (_, k3) := p3
      rw [p3]
      exact Both.mk ⟨q2, by rw [q3, p4]; exact F⟩
  · rw [if_neg h]
    by_cases h1 : x1 < 0
    · rw [if_pos h1]; exact Both.mk ⟨K, F.up (by decide)⟩
    · rw [if_neg h1, if_neg (show ¬ x1 ≤ 3 by rw [Int32.lt_iff_toInt_lt] at h1; rw [Int32.le_iff_toInt_le]; omega)]
      exact Both.mk ⟨K, F.up (by decide)⟩
end SETT
