/-! the class's party: who would come, by its rows -/
def tb (te : Nat → Int64) (g l : Nat) : Bool := (te (4 * g + l / 64)).toBitVec.getLsbD (l % 64)
theorem div_i : ∀ l, l < 256 → (nI l &&& 255) / 64 = nI (l / 64) := by decide +kernel
theorem rem_i : ∀ l, l < 256 → jrem (nI l) 64 = nI (l % 64) := by decide +kernel
theorem sh_i : ∀ k, k < 64 → ((nI k).toInt64.toUInt64 &&& Int64.toUInt64 63).toNat = k := by decide +kernel
theorem termHolds_eq (te : Nat → Int64) {g l : Nat} (hg : g < 8) (hl : l < 256) : fX0_termHolds te (nI g) (nI l) = some (b2 (tb te g l = true), ()) := by
  have e : nI g * 4 + nI (l / 64) = nI (4 * g + l / 64) := by rw [fa_lit 4, nI_mulL, nI_add, Nat.mul_comm]
  unfold fX0_termHolds
  rw [nm_of, div_i l hl, e, gIn_nI (by omega) (by decide), nI_clamp (by omega), rem_i l hl]
  have k := ts_bit (w := te (4 * g + l / 64)) (Nat.mod_lt l (by decide : 64 > 0)) (sh_i (l % 64) (Nat.mod_lt l (by decide)))
  by_cases h : tb te g l = true
  · rw [b2_t h, if_neg]
    rw [lg_cmp_0]
    intro q
    have := k.mp q
    unfold tb at h
    rw [h] at this
    cases this
  · rw [b2_f h, if_pos]
    rw [lg_cmp_0]
    apply k.mpr
    unfold tb at h
    exact Bool.eq_false_iff.mpr h
theorem wca_key : ∀ k, k < 6 → ∀ o, o < 9 → ∀ h : Fin 2, (if (nI k).toInt < 0 ∨ 5 < (nI k).toInt then (some (0, ())) else (if nI k = 0 then (gB (b2 (h = 1)) (some (b2 (h = 1), ()))) else (if nI k = 1 then ((if b2 (h = 1) = 0 then ((if nI o < 4 then (some (0, ())) else (some (1, ())))) else (some (1, ())))) else (if nI k = 2 then ((if b2 (h = 1) = 0 then (some (0, ())) else ((if (4 : Int32) < nI o then (some (0, ())) else (some (1, ())))))) else (if nI k = 3 then (some (0, ())) else (if nI k = 4 then ((if b2 (h = 1) = 0 then ((if (4 : Int32) ≤ nI o then (some (1, ())) else ((if nI o = 0 then (some (1, ())) else (some (0, ())))))) else (some (1, ())))) else (if nI k = 5 then ((if b2 (h = 1) = 0 then (some (1, ())) else ((if nI o ≤ 4 then (some (0, ())) else (some (1, ())))))) else none))))))) = some (b2 (cm k (decide (h = 1)) o = true), ()) := by decide +kernel
theorem b2_congr {p q : Prop} [Decidable p] [Decidable q] (h : p ↔ q) : b2 p = b2 q := by
  by_cases c : p
  · rw [b2_t c, b2_t (h.mp c)]
  · rw [b2_f c, b2_f (fun r => c (h.mpr r))]
theorem wca_eq (te : Nat → Int64) {k g l : Nat} (hk : k < 6) (hg : g < 8) (hl : l < 256) : fX0_wouldComeAs te (nI k) (nI g) (nI l) = some (b2 (cm k (tb te g l) (pop (clr l g)) = true), ()) := by
  unfold fX0_wouldComeAs
  rw [termHolds_eq te hg hl, oth_c hl hg, bR_some, bR_some]
  have ho : pop (clr l g) < 9 := by have := pop_le (clr l g); omega
  generalize pop (clr l g) = o at ho ⊢
  generalize tb te g l = h
  cases h with
  | false =>
    have := wca_key k hk o ho 0
    rw [b2_congr (p := (0 : Fin 2) = 1) (q := false = true) (by decide)] at this
    exact this
  | true =>
    have := wca_key k hk o ho 1
    rw [b2_congr (p := (1 : Fin 2) = 1) (q := true = true) (by decide)] at this
    exact this
def PC (n : Nat) (kd : Nat → Nat) (Hh : Nat → Nat → Bool) (sz : Int32) (ki : Nat → Int32) (te : Nat → Int64) : Prop :=
  n ≤ 8 ∧ sz = nI n ∧ (∀ g, g < n → kd g < 6 ∧ ki g = nI (kd g)) ∧ ∀ g, g < n → ∀ l, l < 256 → Hh g l = tb te g l
/-- what is known of who would come is so -/
def KV (n : Nat) (kd : Nat → Nat) (Hh : Nat → Nat → Bool) (kn : Nat → Int32) : Prop := ∀ l, l < 256 → kn l = -1 ∨ kn l = nI (Wd n kd Hh l)
theorem KV_new {n : Nat} {kd : Nat → Nat} {Hh : Nat → Nat → Bool} (kn : Nat → Int32) : KV n kd Hh (fillF 256 (-1) kn) := fun l hl => Or.inl (if_pos hl)
theorem Wd_256 {n : Nat} (hn : n ≤ 8) (kd : Nat → Nat) (Hh : Nat → Nat → Bool) (l : Nat) : Wd n kd Hh l < 256 := Nat.lt_of_lt_of_le (Wd_lt n kd Hh l) (two_le hn)
section CLS
variable {n : Nat} {kd : Nat → Nat} {Hh : Nat → Nat → Bool} {sz : Int32} {ki : Nat → Int32} {te : Nat → Int64}
theorem comers_loop (P : PC n kd Hh sz ki te) {kn : Nat → Int32} (K : KV n kd Hh kn) {l : Nat} (hl : l < 256) : ∀ (f i : Nat), i ≤ n → n - i < f → Ret (ll4 (fX0_comers_21 sz ki te) f kn (nI l) (nI (wdn (fun g => cm (kd g) (Hh g l) (pop (clr l g))) i)) (nI i)) (nI (Wd n kd Hh l)) (KV n kd Hh)
  | 0, i, _, h => absurd h (by omega)
  | f + 1, i, hi, hf => by
    have ih := comers_loop P K hl f (i + 1)
    obtain ⟨hn, rfl, hk, hH⟩ := P
    show Ret (fX0_comers_21 (nI n) ki te (ll4 (fX0_comers_21 (nI n) ki te) f) kn (nI l) (nI (wdn (fun g => cm (kd g) (Hh g l) (pop (clr l g))) i)) (nI i)) _ _
    generalize ll4 (fX0_comers_21 (nI n) ki te) f = ag at ih ⊢
    unfold fX0_comers_21
    rw [ite_le (by omega) (by omega)]
    by_cases c : n ≤ i
    · have e : i = n := by omega
      subst e
      rw [if_pos c]
      unfold fX0_comers_71
      rw [gIn_nI hl (by decide), gIn_nI hl (by decide), nI_clamp (by omega), pk_us]
      refine Ret.mk' rfl (fun q hq => ?_)
      by_cases d : q = l
      · subst d; rw [pk_us]; exact Or.inr rfl
      · rw [pk_un d]; exact K q hq
    · have hi2 : i < n := by omega
      rw [if_neg c, gIn_nI (by omega) (by decide), nI_clamp (by omega), (hk i hi2).2, wca_eq te (hk i hi2).1 (by omega) hl, bR_some, ite_b2, ← hH i hi2 l hl]
      have ih := ih (by omega) (by omega)
      unfold fX0_comers_56
      by_cases d : cm (kd i) (Hh i l) (pop (clr l i)) = true
      · rw [if_pos d, nm_of, nm_of, bit_i i (by omega), fa_or, nI_1]
        have e : wdn (fun g => cm (kd g) (Hh g l) (pop (clr l g))) (i + 1) = wdn (fun g => cm (kd g) (Hh g l) (pop (clr l g))) i ||| 2 ^ i := by
          show _ ||| (if _ then _ else _) = _
          rw [if_pos d]
        rw [e] at ih
        exact ih
      · rw [if_neg d, nm_of, nm_of, fa_lit 0, fa_or, nI_1]
        have e : wdn (fun g => cm (kd g) (Hh g l) (pop (clr l g))) (i + 1) = wdn (fun g => cm (kd g) (Hh g l) (pop (clr l g))) i ||| 0 := by
          show _ ||| (if _ then _ else _) = _
          rw [if_neg d]
        rw [e] at ih
        exact ih
theorem comers_r (P : PC n kd Hh sz ki te) {kn : Nat → Int32} (K : KV n kd Hh kn) {l : Nat} (hl : l < 256) : Ret (fX0_comers sz ki te kn (nI l)) (nI (Wd n kd Hh l)) (KV n kd Hh) := by
  have h := comers_loop P K hl 1024 0 (by omega) (by have := P.1; omega)
  unfold fX0_comers
  rw [nm_of, and255i hl, gIn_nI hl (by decide), nI_clamp (by omega)]
  by_cases c : kn l = -1
  · rw [if_pos c]
    exact h
  · rw [if_neg c]
    unfold fX0_comers_71
    rw [gIn_nI hl (by decide), nI_clamp (by omega)]
    exact Ret.mk' ((K l hl).resolve_left c) K
theorem isSettled_r (P : PC n kd Hh sz ki te) {kn : Nat → Int32} (K : KV n kd Hh kn) {l : Nat} (hl : l < 256) : Ret (fX0_isSettled sz ki te kn (nI l)) (b2 (Wd n kd Hh l = l)) (KV n kd Hh) := by
  unfold fX0_isSettled
  refine Ret.b1 (comers_r P K hl) (fun k hk => ?_)
  have hw := Wd_256 P.1 kd Hh l
  rw [ite_eqN (by omega) (by omega)]
  by_cases c : Wd n kd Hh l = l
  · rw [if_pos c, b2_t c]; exact Ret.mk hk
  · rw [if_neg c, b2_f c]; exact Ret.mk hk
/-- a list behind a call of one -/
def cal (n : Nat) (kd : Nat → Nat) (Hh : Nat → Nat → Bool) (l g : Nat) : Nat := clr l g ||| (Wd n kd Hh l &&& 2 ^ g)
theorem or_256 {a b : Nat} (ha : a < 256) (hb : b < 256) : a ||| b < 256 := Nat.or_lt_two_pow (n := 8) ha hb
theorem and_256 {a : Nat} (b : Nat) (ha : a < 256) : a &&& b < 256 := Nat.lt_of_le_of_lt Nat.and_le_left ha
theorem cal_256 (hn : n ≤ 8) {l g : Nat} (hl : l < 256) : cal n kd Hh l g < 256 := or_256 (clr_lt hl) (and_256 _ (Wd_256 hn kd Hh l))
theorem cal_lt {l g : Nat} (hl : l < 2 ^ n) : cal n kd Hh l g < 2 ^ n := Nat.or_lt_two_pow (Nat.lt_of_le_of_lt clr_le hl) (Nat.lt_of_le_of_lt Nat.and_le_left (Wd_lt n kd Hh l))
theorem called_r (P : PC n kd Hh sz ki te) {kn : Nat → Int32} (K : KV n kd Hh kn) {l g : Nat} (hl : l < 256) (hg : g < 8) : Ret (fX0_called sz ki te kn (nI g) (nI l)) (nI (cal n kd Hh l g)) (KV n kd Hh) := by
  unfold fX0_called
  refine Ret.b1 (comers_r P K hl) (fun k hk => ?_)
  rw [clr_i hl hg, bit_i g (by omega), fa_and, fa_or]
  exact Ret.mk hk
theorem oneIf_b2 (p : Prop) [Decidable p] : fX4_oneIf (b2 p) = some (b2 p, ()) := by
  unfold fX4_oneIf
  by_cases c : p
  · rw [b2_t c]; rfl
  · rw [b2_f c]; rfl
theorem oneIf_0 : fX4_oneIf 0 = some (0, ()) := rfl
theorem oneIf_1 : fX4_oneIf 1 = some (1, ()) := rfl
theorem ringUp_r (P : PC n kd Hh sz ki te) {kn : Nat → Int32} (K : KV n kd Hh kn) {l g : Nat} (hl : l < 256) (hg : g < 8) : Ret (fX0_ringUp sz (nI l) ki te kn (nI g)) (b2 (¬ cal n kd Hh l g = l)) (fun k => k.1 = nI (cal n kd Hh l g) ∧ KV n kd Hh k.2) := by
  unfold fX0_ringUp
  refine Ret.b1 (called_r P K hl hg) (fun k hk => ?_)
  have hw := cal_256 (kd := kd) (Hh := Hh) (g := g) P.1 hl
  unfold fX0_ringUp_28
  rw [ite_eqN (by omega) (by omega)]
  by_cases c : cal n kd Hh l g = l
  · rw [if_pos c, b2_f (fun q => q c), oneIf_0, bR_some]
    exact Ret.mk ⟨rfl, hk⟩
  · rw [if_neg c, b2_t c, oneIf_1, bR_some]
    exact Ret.mk ⟨rfl, hk⟩
/-- a step done again and again -/
def it (f : Nat → Nat) : Nat → Nat → Nat
  | 0, l => l
  | k + 1, l => it f k (f l)
theorem it_s (f : Nat → Nat) : ∀ k l, it f (k + 1) l = f (it f k l)
  | 0, _ => rfl
  | k + 1, l => it_s f k (f l)
theorem it_add (f : Nat → Nat) : ∀ a b l, it f (a + b) l = it f a (it f b l)
  | a, 0, _ => rfl
  | a, b + 1, l => it_add f a b (f l)
theorem it_fix {f : Nat → Nat} {l : Nat} (h : f l = l) : ∀ k, it f k l = l
  | 0 => rfl
  | k + 1 => by show it f k (f l) = l; rw [h]; exact it_fix h k
theorem it_lt {f : Nat → Nat} {M : Nat} (hf : ∀ l, f l < M) {l : Nat} (hl : l < M) : ∀ k, it f k l < M
  | 0 => hl
  | k + 1 => by rw [it_s]; exact hf _
theorem it_256 (hn : n ≤ 8) {l : Nat} (hl : l < 256) (k : Nat) : it (Wd n kd Hh) k l < 256 := it_lt (fun l => Wd_256 hn kd Hh l) hl k
theorem behind_loop (P : PC n kd Hh sz ki te) {m : Nat} (hm : m ≤ 256) : ∀ (f i at_ : Nat) (kn : Nat → Int32), i ≤ m → m - i < f → at_ < 256 → KV n kd Hh kn → Ret (ll4 (fX0_behind_5 sz ki te) f kn (nI m) (nI at_) (nI i)) (nI (it (Wd n kd Hh) (m - i) at_)) (KV n kd Hh)
  | 0, i, a, kn, _, h, _, _ => absurd h (by omega)
  | f + 1, i, a, kn, hi, hf, ha, K => by
    have ih := behind_loop P hm f (i + 1)
    show Ret (fX0_behind_5 sz ki te (ll4 (fX0_behind_5 sz ki te) f) kn (nI m) (nI a) (nI i)) _ _
    generalize ll4 (fX0_behind_5 sz ki te) f = ag at ih ⊢
    unfold fX0_behind_5
    rw [ite_le (by omega) (by omega)]
    by_cases c : m ≤ i
    · rw [if_pos c, show m - i = 0 by omega]
      exact Ret.mk K
    · rw [if_neg c]
      refine Ret.b1 (isSettled_r P K ha) (fun k hk => ?_)
      rw [ite_b2]
      by_cases d : Wd n kd Hh a = a
      · rw [if_pos d, it_fix d]
        exact Ret.mk hk
      · rw [if_neg d]
        refine Ret.b1 (comers_r P hk ha) (fun k2 hk2 => ?_)
        rw [nm_of, nI_1]
        have := ih (Wd n kd Hh a) k2 (by omega) (by omega) (Wd_256 P.1 kd Hh a) hk2
        rw [show m - i = (m - (i + 1)) + 1 by omega]
        exact this
theorem behind_r (P : PC n kd Hh sz ki te) {kn : Nat → Int32} (K : KV n kd Hh kn) {l m : Nat} (hl : l < 256) (hm : m ≤ 256) : Ret (fX0_behind sz ki te kn (nI l) (nI m)) (nI (it (Wd n kd Hh) m l)) (KV n kd Hh) := behind_loop P hm 1024 0 l kn (by omega) (by omega) hl K
/-- costs of those of a set together -/
def csum (co : Nat → Nat) (l : Nat) : Nat → Nat
  | 0 => 0
  | g + 1 => csum co l g + (if l.testBit g then co g else 0)
theorem csum_le {co : Nat → Nat} {l : Nat} : ∀ {n : Nat}, (∀ g, g < n → co g < 100) → csum co l n ≤ 99 * n
  | 0, _ => Nat.le_refl 0
  | g + 1, h => by
    have ih := csum_le (co := co) (l := l) (n := g) (fun i hi => h i (by omega))
    have := h g (by omega)
    show csum co l g + (if l.testBit g then co g else 0) ≤ _
    split <;> omega
theorem csum_congr {co : Nat → Nat} {l l' : Nat} : ∀ {n : Nat}, (∀ g, g < n → l.testBit g = l'.testBit g) → csum co l n = csum co l' n
  | 0, _ => rfl
  | g + 1, h => by
    show csum co l g + _ = csum co l' g + _
    rw [csum_congr (fun i hi => h i (by omega)), h g (by omega)]
theorem costsOf_loop {co : Nat → Nat} {cs : Nat → Int32} (hn : n ≤ 8) (hc : ∀ g, g < n → co g < 100 ∧ cs g = nI (co g)) {l : Nat} (hl : l < 256) : ∀ (f i : Nat), i ≤ n → n - i < f → ll3 (fX0_costsOf_4 (nI n) cs) f (nI l) (nI (csum co l i)) (nI i) = some (nI (csum co l n), ())
  | 0, i, _, h => absurd h (by omega)
  | f + 1, i, hi, hf => by
    have ih := costsOf_loop hn hc hl f (i + 1)
    show fX0_costsOf_4 (nI n) cs (ll3 (fX0_costsOf_4 (nI n) cs) f) (nI l) (nI (csum co l i)) (nI i) = _
    generalize ll3 (fX0_costsOf_4 (nI n) cs) f = ag at ih ⊢
    unfold fX0_costsOf_4 fX0_costsOf_31
    rw [ite_le (by omega) (by omega)]
    by_cases c : n ≤ i
    · have e : i = n := by omega
      rw [if_pos c, e]
    · rw [if_neg c, isOn_i hl (by omega), bR_some, ite_b2, nI_clamp (by omega), (hc i (by omega)).2]
      have ih := ih (by omega) (by omega)
      by_cases d : l.testBit i = true
      · rw [if_pos d, gIn_nI (by omega) (by decide), nm_of, nm_of, nI_add, nI_1]
        have e : csum co l (i + 1) = csum co l i + co i := by show _ + (if _ then _ else _) = _; rw [if_pos d]
        rw [e] at ih
        exact ih
      · rw [if_neg d, nm_of, nm_of, fa_lit 0, nI_add, nI_1]
        have e : csum co l (i + 1) = csum co l i + 0 := by show _ + (if _ then _ else _) = _; rw [if_neg d]
        rw [e] at ih
        exact ih
theorem costsOf_eq {co : Nat → Nat} {cs : Nat → Int32} (hn : n ≤ 8) (hc : ∀ g, g < n → co g < 100 ∧ cs g = nI (co g)) {l : Nat} (hl : l < 256) : fX0_costsOf (nI n) cs (nI l) = some (nI (csum co l n), ()) := costsOf_loop hn hc hl 1024 0 (by omega) (by omega)
end CLS
