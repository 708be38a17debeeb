section
/-! how far a settled list lies, by calls -/
def Dl (n : Nat) (kd : Nat → Nat) (Hh : Nat → Nat → Bool) : Nat → Nat → Prop
  | 0, l => Wd n kd Hh l = l
  | k + 1, l => Dl n kd Hh k l ∨ ∃ g, g < n ∧ Dl n kd Hh k (cal n kd Hh l g)
def Di (n : Nat) (kd : Nat → Nat) (Hh : Nat → Nat → Bool) (d l : Nat) : Prop := Dl n kd Hh d l ∧ ∀ e, e < d → ¬ Dl n kd Hh e l
section FAR
variable {sz li to : Int32} {ki co : Nat → Int32} {te : Nat → Int64} {s kn fi st pile wish mark : Nat → Int32} {n l : Nat} {kd cc : Nat → Nat} {Hh : Nat → Nat → Bool}
theorem Dl_le {a b : Nat} (h : a ≤ b) (q : Dl n kd Hh a l) : Dl n kd Hh b l := by
  induction h with
  | refl => exact q
  | step _ ih => exact Or.inl ih
theorem Dl_c {k g : Nat} (hg : g < n) (q : Dl n kd Hh k (cal n kd Hh l g)) : Dl n kd Hh (k + 1) l := Or.inr ⟨g, hg, q⟩
theorem Di_u {d e : Nat} (h1 : Di n kd Hh d l) (h2 : Di n kd Hh e l) : d = e := by
  rcases Nat.lt_trichotomy d e with h | h | h
  · exact absurd h1.1 (h2.2 d h)
  · exact h
  · exact absurd h2.1 (h1.2 e h)
theorem Di_s {e : Nat} (h1 : ¬ Dl n kd Hh e l) (h2 : Dl n kd Hh (e + 1) l) : Di n kd Hh (e + 1) l := ⟨h2, fun _ hk q => h1 (Dl_le (by omega) q)⟩
theorem Di_ex : ∀ {k : Nat}, Dl n kd Hh k l → ∃ d, d ≤ k ∧ Di n kd Hh d l
  | 0, h => ⟨0, Nat.le_refl 0, h, fun _ hk => absurd hk (by omega)⟩
  | k + 1, h => by
    by_cases c : Dl n kd Hh k l
    · obtain ⟨d, h1, h2⟩ := Di_ex c
      exact ⟨d, by omega, h2⟩
    · exact ⟨k + 1, Nat.le_refl _, Di_s c h⟩
/-- a mark that speaks of distances up to e -/
def FM (n : Nat) (kd : Nat → Nat) (Hh : Nat → Nat → Bool) (e : Nat) (mk : Nat → Int32) (l : Nat) : Prop := (mk l = -1 ∧ ¬ Dl n kd Hh e l) ∨ ∃ d, d ≤ e ∧ mk l = nI d ∧ Di n kd Hh d l
theorem FM_eq {e e' : Nat} {mk : Nat → Int32} (h : FM n kd Hh e' mk l) (hl : e ≤ e') (he : e' < 1000) : mk l = nI e ↔ Di n kd Hh e l := by
  rcases h with ⟨h1, h2⟩ | ⟨d, h1, h2, h3⟩
  · rw [h1]
    exact ⟨fun q => absurd q.symm (nI_m1 (by omega)), fun q => absurd (Dl_le hl q.1) h2⟩
  · rw [h2, nI_eq (by omega) (by omega)]
    exact ⟨fun q => by rw [← q]; exact h3, fun q => Di_u h3 q⟩
theorem FM_up {e : Nat} {mk : Nat → Int32} (h : FM n kd Hh e mk l) (hq : ¬ Di n kd Hh (e + 1) l) : FM n kd Hh (e + 1) mk l := by
  rcases h with ⟨h1, h2⟩ | ⟨d, h1, h2, h3⟩
  · exact Or.inl ⟨h1, fun q => hq (Di_s h2 q)⟩
  · exact Or.inr ⟨d, by omega, h2, h3⟩
/-- level e + 1, before list i -/
def LVL (n : Nat) (kd : Nat → Nat) (Hh : Nat → Nat → Bool) (e i : Nat) (mk : Nat → Int32) (y : Int32) : Prop :=
  (∀ q, q < 2 ^ n → FM n kd Hh (if q < i then e + 1 else e) mk q) ∧ ((y = 0 ∧ ∀ q, q < i → ¬ Di n kd Hh (e + 1) q) ∨ (y = 1 ∧ ∃ q, q < i ∧ Di n kd Hh (e + 1) q))
theorem LVL_next {e i : Nat} {mk : Nat → Int32} {y : Int32} (h : LVL n kd Hh e i mk y) (hq : ¬ Di n kd Hh (e + 1) i) : LVL n kd Hh e (i + 1) mk y := by
  refine ⟨fun q hq2 => ?_, ?_⟩
  · have := h.1 q hq2
    by_cases c : q = i
    · subst c
      rw [if_neg (by omega)] at this
      rw [if_pos (by omega)]
      exact FM_up this hq
    · by_cases d : q < i
      · rw [if_pos d] at this; rw [if_pos (by omega)]; exact this
      · rw [if_neg d] at this; rw [if_neg (by omega)]; exact this
  · rcases h.2 with ⟨h1, h2⟩ | ⟨h1, q, h2, h3⟩
    · refine Or.inl ⟨h1, fun q hq2 => ?_⟩
      by_cases c : q = i
      · subst c; exact hq
      · exact h2 q (by omega)
    · exact Or.inr ⟨h1, q, by omega, h3⟩
theorem far59 (M : PM n kd Hh s) {ag40 : (Nat → Int32) → (Nat → Int32) → Int32 → Int32 → Option ((Nat → Int32) × (Nat → Int32))} {ag48 : (Nat → Int32) → (Nat → Int32) → Int32 → Int32 → Int32 → Option ((Nat → Int32) × (Nat → Int32))} {Q : (Nat → Int32) × (Nat → Int32) → Prop} {e i : Nat} (he : e ≤ 300) (hi : i < 2 ^ n) (hag : ∀ p mk y, LVL n kd Hh e (i + 1) mk y → RetV (ag48 p mk y (nI (e + 1)) (nI (i + 1))) Q) : ∀ (f g : Nat) (p mk : Nat → Int32) (y : Int32), g ≤ n → n - g < f → ((LVL n kd Hh e i mk y ∧ ∀ j, j < g → ¬ Dl n kd Hh e (cal n kd Hh i j)) ∨ (LVL n kd Hh e (i + 1) mk y ∧ mk i = nI (e + 1))) → RetV (ll6 (fX5_looksFar_59 s ag40 ag48) f p mk y (nI (e + 1)) (nI i) (nI g)) Q := by
  intro f
  induction f with
  | zero => intro g p mk y _ h; exact absurd h (by omega)
  | succ f ih =>
    intro g p mk y hg hf H
    have hn := M.1
    have hN := two_le hn
    have ih := ih (g + 1)
    show RetV (fX5_looksFar_59 s ag40 ag48 (ll6 (fX5_looksFar_59 s ag40 ag48) f) p mk y (nI (e + 1)) (nI i) (nI g)) _
    generalize ll6 (fX5_looksFar_59 s ag40 ag48) f = ag at ih ⊢
    unfold fX5_looksFar_59 fX5_looksFar_112 fX5_looksFar_106
    rw [nm_of, nI_1, M.2.1, ite_le (by omega) (by omega)]
    rcases H with ⟨H, hj⟩ | ⟨H, hm⟩
    · have hF := H.1 i hi
      rw [if_neg (by omega)] at hF
      by_cases c : n ≤ g
      · rw [if_pos c]
        refine hag p mk y (LVL_next H (fun q => ?_))
        rcases hF with ⟨h1, h2⟩ | ⟨d, h1, h2, h3⟩
        · rcases q.1 with w | ⟨j, w1, w2⟩
          · exact h2 w
          · exact hj j (by omega) w2
        · have := Di_u h3 q
          omega
      · rw [if_neg c, gIn_nI (by omega) (by decide), nI_clamp (by omega)]
        rcases hF with ⟨h1, h2⟩ | ⟨d, h1, h2, h3⟩
        · rw [if_neg (show ¬ (0 : Int32) ≤ mk i from by rw [h1]; decide)]
          refine Ret.b1V (calledM_r M (show g < n by omega) (show i < 256 by omega) p) (fun k _ => ?_)
          have hc : cal n kd Hh i g < 2 ^ n := cal_lt hi
          rw [gIn_nI (by omega) (by decide), nI_clamp (by omega), show nI (e + 1) - 1 = nI e from by rw [fa_lit 1, nI_sub1 (by omega)]; rfl, gIn_nI (by omega) (by decide), nm_of, nm_of, nI_1]
          have hE : mk (cal n kd Hh i g) = nI e ↔ Di n kd Hh e (cal n kd Hh i g) := by
            have := H.1 _ hc
            by_cases d : cal n kd Hh i g < i
            · rw [if_pos d] at this; exact FM_eq this (by omega) (by omega)
            · rw [if_neg d] at this; exact FM_eq this (by omega) (by omega)
          by_cases d : mk (cal n kd Hh i g) = nI e
          · rw [if_pos d]
            have hD : Di n kd Hh (e + 1) i := Di_s h2 (Dl_c (by omega) (hE.mp d).1)
            refine ih k _ 1 (by omega) (by omega) (Or.inr ⟨⟨fun q hq => ?_, Or.inr ⟨rfl, i, by omega, hD⟩⟩, pk_us⟩)
            by_cases w : q = i
            · subst w
              rw [if_pos (by omega)]
              exact Or.inr ⟨e + 1, Nat.le_refl _, pk_us, hD⟩
            · have := H.1 q hq
              have e2 : (if q < i + 1 then e + 1 else e) = if q < i then e + 1 else e := by
                by_cases v : q < i
                · rw [if_pos v, if_pos (by omega)]
                · rw [if_neg v, if_neg (by omega)]
              rw [e2]
              unfold FM at this ⊢
              rw [pk_un w]
              exact this
          · rw [if_neg d]
            refine ih k mk y (by omega) (by omega) (Or.inl ⟨H, fun j h => ?_⟩)
            by_cases w : j = g
            · subst w
              intro q
              obtain ⟨a, a1, a2⟩ := Di_ex q
              by_cases v : a = e
              · subst v; exact d (hE.mpr a2)
              · exact h2 (Dl_le (show a + 1 ≤ e by omega) (Dl_c (by omega) a2.1))
            · exact hj j (by omega)
        · rw [if_pos (show (0 : Int32) ≤ mk i from by rw [h2]; exact nI_0le (by omega))]
          refine hag p mk y (LVL_next H (fun q => ?_))
          have := Di_u h3 q
          omega
    · by_cases c : n ≤ g
      · rw [if_pos c]
        exact hag p mk y H
      · rw [if_neg c, gIn_nI (by omega) (by decide), nI_clamp (by omega), if_pos (show (0 : Int32) ≤ mk i from by rw [hm]; exact nI_0le (by omega))]
        exact hag p mk y H
theorem far48 (M : PM n kd Hh s) {ag40 : (Nat → Int32) → (Nat → Int32) → Int32 → Int32 → Option ((Nat → Int32) × (Nat → Int32))} {Q : (Nat → Int32) × (Nat → Int32) → Prop} {e : Nat} (he : e ≤ 300) (hag : ∀ p mk y, LVL n kd Hh e (2 ^ n) mk y → RetV (ag40 p mk y (nI (e + 2))) Q) : ∀ (f i : Nat) (p mk : Nat → Int32) (y : Int32), i ≤ 2 ^ n → 2 ^ n - i < f → LVL n kd Hh e i mk y → RetV (ll5 (fX5_looksFar_48 s ag40) f p mk y (nI (e + 1)) (nI i)) Q := by
  intro f
  induction f with
  | zero => intro i p mk y _ h; exact absurd h (by omega)
  | succ f ih =>
    intro i p mk y hi hf H
    have hn := M.1
    have hN := two_le hn
    have ih := ih (i + 1)
    show RetV (fX5_looksFar_48 s ag40 (ll5 (fX5_looksFar_48 s ag40) f) p mk y (nI (e + 1)) (nI i)) _
    generalize ll5 (fX5_looksFar_48 s ag40) f = ag at ih ⊢
    unfold fX5_looksFar_48
    rw [lists_m M, bR_some, nm_of, nI_1, ite_le (by omega) (by omega)]
    by_cases c : 2 ^ n ≤ i
    · have e1 : i = 2 ^ n := by omega
      subst e1
      rw [if_pos c]
      exact hag p mk y H
    · rw [if_neg c]
      exact far59 M he (by omega) (fun p mk y h => ih p mk y (by omega) (by omega) h) 1024 0 p mk y (Nat.zero_le _) (by omega) (Or.inl ⟨H, fun j h => absurd h (by omega)⟩)
/-- all marked -/
def MF (n : Nat) (kd : Nat → Nat) (Hh : Nat → Nat → Bool) (mk : Nat → Int32) : Prop := ∀ q, q < 2 ^ n → (mk q = -1 ∧ ∀ k, ¬ Dl n kd Hh k q) ∨ ∃ d, d ≤ 300 ∧ mk q = nI d ∧ Di n kd Hh d q
theorem MF_of {e : Nat} {mk : Nat → Int32} (he : e < 300) (h : ∀ q, q < 2 ^ n → FM n kd Hh (e + 1) mk q) (h2 : ∀ q, q < 2 ^ n → ¬ Di n kd Hh (e + 1) q) : MF n kd Hh mk := by
  have hk : ∀ k q, q < 2 ^ n → Dl n kd Hh k q → Dl n kd Hh e q := by
    intro k
    induction k with
    | zero => intro q _ h; exact Dl_le (Nat.zero_le _) h
    | succ k ih =>
      intro q hq w
      rcases w with w | ⟨g, w1, w2⟩
      · exact ih q hq w
      · have := ih _ (cal_lt hq) w2
        by_cases c : Dl n kd Hh e q
        · exact c
        · exact absurd (Di_s c (Dl_c w1 this)) (h2 q hq)
  intro q hq
  rcases h q hq with ⟨a, b⟩ | ⟨d, a, b, c⟩
  · exact Or.inl ⟨a, fun k w => b (Dl_le (by omega) (hk k q hq w))⟩
  · exact Or.inr ⟨d, by omega, b, c⟩
theorem cnt_mono {p q : Nat → Bool} : ∀ {n : Nat}, (∀ i, i < n → p i = true → q i = true) → cnt p n ≤ cnt q n
  | 0, _ => Nat.le_refl 0
  | n + 1, h => by
    have ih := cnt_mono (p := p) (q := q) (n := n) (fun i hi => h i (by omega))
    have := h n (by omega)
    show cnt p n + (if p n then 1 else 0) ≤ cnt q n + if q n then 1 else 0
    cases hp : p n with
    | false => rw [if_neg (by simp)]; omega
    | true => rw [if_pos rfl, if_pos (this hp)]; omega
theorem cnt_mono1 {p q : Nat → Bool} {x : Nat} : ∀ {n : Nat}, x < n → p x = false → q x = true → (∀ i, i < n → p i = true → q i = true) → cnt p n < cnt q n
  | 0, hx, _, _, _ => absurd hx (by omega)
  | n + 1, hx, h1, h2, h => by
    show cnt p n + (if p n then 1 else 0) < cnt q n + if q n then 1 else 0
    by_cases c : x = n
    · subst c
      have ih := cnt_mono (p := p) (q := q) (n := x) (fun i hi => h i (by omega))
      rw [h1, h2, if_neg (by simp), if_pos rfl]
      omega
    · have ih := cnt_mono1 (p := p) (q := q) (n := n) (by omega) h1 h2 (fun i hi => h i (by omega))
      have := h n (by omega)
      cases hp : p n with
      | false => rw [if_neg (by simp)]; omega
      | true => rw [if_pos rfl, if_pos (this hp)]; omega
def um (n : Nat) (mk : Nat → Int32) : Nat := cnt (fun q => decide (mk q = -1)) (2 ^ n)
theorem far40 (M : PM n kd Hh s) : ∀ (f e : Nat) (p mk : Nat → Int32) (y : Int32), (∀ q, q < 2 ^ n → FM n kd Hh e mk q) → ((y = 0 ∧ 1 ≤ e ∧ e ≤ 260 ∧ 1 ≤ f ∧ ∀ q, q < 2 ^ n → ¬ Di n kd Hh e q) ∨ (y = 1 ∧ e + um n mk ≤ 2 ^ n ∧ um n mk + 2 ≤ f)) → RetV (ll4 (fX5_looksFar_40 s) f p mk y (nI (e + 1))) (fun k => MF n kd Hh k.2) := by
  intro f
  induction f with
  | zero => intro e p mk y _ h; exact absurd h (by omega)
  | succ f ih =>
    intro e p mk y H h
    have hn := M.1
    have hN := two_le hn
    have ih := ih (e + 1)
    show RetV (fX5_looksFar_40 s (ll4 (fX5_looksFar_40 s) f) p mk y (nI (e + 1))) _
    generalize ll4 (fX5_looksFar_40 s) f = ag at ih ⊢
    unfold fX5_looksFar_40
    rcases h with ⟨rfl, h1, h2, h3, h4⟩ | ⟨rfl, h1, h2⟩
    · rw [if_pos rfl]
      obtain ⟨e', rfl⟩ : ∃ e', e = e' + 1 := ⟨e - 1, by omega⟩
      exact RetV.mk (MF_of (by omega) H h4)
    · rw [if_neg (by decide)]
      refine far48 M (show e ≤ 300 by omega) (fun p2 mk2 y2 L => ?_) 1024 0 p mk 0 (Nat.zero_le _) (by omega) ⟨fun q hq => by rw [if_neg (by omega)]; exact H q hq, Or.inl ⟨rfl, fun q hq => absurd hq (by omega)⟩⟩
      have L1 : ∀ q, q < 2 ^ n → FM n kd Hh (e + 1) mk2 q := fun q hq => by
        have := L.1 q hq
        rw [if_pos hq] at this
        exact this
      have mono : ∀ q, q < 2 ^ n → decide (mk2 q = -1) = true → decide (mk q = -1) = true := fun q hq w => by
        have w := of_decide_eq_true w
        refine decide_eq_true ?_
        rcases L1 q hq with ⟨a, b⟩ | ⟨d, a, b, c⟩
        · rcases H q hq with ⟨a', b'⟩ | ⟨d', a', b', c'⟩
          · exact a'
          · exact absurd (Dl_le (by omega) c'.1) b
        · rw [b] at w
          exact absurd w (nI_m1 (by omega))
      refine ih p2 mk2 y2 L1 ?_
      rcases L.2 with ⟨a, b⟩ | ⟨a, q, b, c⟩
      · exact Or.inl ⟨a, by omega, by omega, by omega, b⟩
      · have : um n mk2 < um n mk := cnt_mono1 (x := q) b (decide_eq_false (fun w => by
          rcases L1 q b with ⟨a', b'⟩ | ⟨d', a', b', c'⟩
          · exact b' c.1
          · rw [b'] at w
            exact absurd w (nI_m1 (by omega)))) (decide_eq_true (by
          rcases H q b with ⟨a', b'⟩ | ⟨d', a', b', c'⟩
          · exact a'
          · have := Di_u c c'
            omega)) mono
        exact Or.inr ⟨a, by omega, by omega⟩
theorem far2 (M : PM n kd Hh s) : ∀ (f i : Nat) (p mk : Nat → Int32), i ≤ 2 ^ n → 2 ^ n - i < f → (∀ q, q < i → FM n kd Hh 0 mk q) → RetV (ll3 (fX5_looksFar_2 s) f p mk (nI i)) (fun k => MF n kd Hh k.2) := by
  intro f
  induction f with
  | zero => intro i p mk _ h; exact absurd h (by omega)
  | succ f ih =>
    intro i p mk hi hf H
    have hn := M.1
    have hN := two_le hn
    have ih := ih (i + 1)
    show RetV (fX5_looksFar_2 s (ll3 (fX5_looksFar_2 s) f) p mk (nI i)) _
    generalize ll3 (fX5_looksFar_2 s) f = ag at ih ⊢
    unfold fX5_looksFar_2
    rw [lists_m M, bR_some, ite_le (by omega) (by omega)]
    by_cases c : 2 ^ n ≤ i
    · have e1 : i = 2 ^ n := by omega
      subst e1
      rw [if_pos c]
      have : um n mk ≤ 2 ^ n := cnt_le _ _
      exact far40 M 1024 0 p mk 1 H (Or.inr ⟨rfl, by omega, by omega⟩)
    · rw [if_neg c]
      refine Ret.b1V (would_r M (show i < 256 by omega) p) (fun k _ => ?_)
      unfold fX5_looksFar_29
      have hw := Wd_256 hn kd Hh i
      rw [nm_of, nm_of, nI_1, gIn_nI (by omega) (by decide), gIn_nI (by omega) (by decide), nI_clamp (by omega), ite_eqN (by omega) (by omega)]
      by_cases d : Wd n kd Hh i = i
      · rw [if_pos d]
        refine ih k _ (by omega) (by omega) (fun q hq => ?_)
        by_cases w : q = i
        · subst w
          exact Or.inr ⟨0, Nat.le_refl _, pk_us, d, fun _ h => absurd h (by omega)⟩
        · have := H q (by omega)
          unfold FM at this ⊢
          rw [pk_un w]
          exact this
      · rw [if_neg d]
        refine ih k _ (by omega) (by omega) (fun q hq => ?_)
        by_cases w : q = i
        · subst w
          exact Or.inl ⟨pk_us, d⟩
        · have := H q (by omega)
          unfold FM at this ⊢
          rw [pk_un w]
          exact this
theorem looksFar_r (M : PM n kd Hh s) (p mk : Nat → Int32) : RetV (fX5_looksFar s p mk) (fun k => MF n kd Hh k.2) := far2 M 1024 0 p mk (Nat.zero_le _) (by have := two_le M.1; omega) (fun q h => absurd h (by omega))
end FAR
end
section
/-! the class's search by calls -/
section NEAR
variable {sz li to : Int32} {ki co : Nat → Int32} {te : Nat → Int64} {s kn fi st pile wish mark : Nat → Int32} {n l : Nat} {kd cc : Nat → Nat} {Hh : Nat → Nat → Bool}
/-- the rows of the search hold the queue Q with calls K and first calls B -/
def QS (n l m : Nat) (Q K B : Nat → Nat) (qu ct fc : Nat → Int32) : Prop :=
  0 < m ∧ Q 0 = l ∧ K 0 = 0 ∧ (∀ i, i < m → Q i < 2 ^ n ∧ qu i = nI (Q i) ∧ ct (Q i) = nI (K i) ∧ K i ≤ i ∧ (0 < i → fc (Q i) = nI (B i))) ∧ fc l = -1 ∧ (∀ q, q < 2 ^ n → ct q = -1 ∨ ∃ i, i < m ∧ Q i = q) ∧ m = cnt (fun q => decide (¬ ct q = -1)) (2 ^ n)
/-- what the queue says -/
def QA (n : Nat) (kd : Nat → Nat) (Hh : Nat → Nat → Bool) (l m : Nat) (Q K B : Nat → Nat) : Prop :=
  (∀ i, 0 < i → i < m → 1 ≤ K i ∧ B i < n ∧ ∀ j, Dl n kd Hh j (Q i) → Dl n kd Hh (j + (K i - 1)) (cal n kd Hh l (B i))) ∧ (∀ i j, 0 < i → i ≤ j → j < m → K i < K j ∨ (K i = K j ∧ B i ≤ B j))
/-- nothing in the queue comes behind what head h calls by g -/
def QT (m h g : Nat) (K B : Nat → Nat) : Prop := ∀ i, 0 < i → i < m → K i < K h + 1 ∨ (K i = K h + 1 ∧ B i ≤ if h = 0 then g else B h)
/-- a best way by d calls that starts with g -/
def Op (n : Nat) (kd : Nat → Nat) (Hh : Nat → Nat → Bool) (l d g : Nat) : Prop := 1 ≤ d ∧ ¬ Dl n kd Hh (d - 1) l ∧ g < n ∧ Dl n kd Hh (d - 1) (cal n kd Hh l g)
/-- a witness behind place h -/
def QW (n : Nat) (kd : Nat → Nat) (Hh : Nat → Nat → Bool) (m h d g : Nat) (Q K B : Nat → Nat) : Prop := ∃ i, h ≤ i ∧ 0 < i ∧ i < m ∧ K i ≤ d ∧ Dl n kd Hh (d - K i) (Q i) ∧ B i ≤ g
/-- a witness that head h will call by some guest from g on -/
def QP (n : Nat) (kd : Nat → Nat) (Hh : Nat → Nat → Bool) (h g d b : Nat) (Q K B : Nat → Nat) : Prop := ∃ j, g ≤ j ∧ j < n ∧ K h + 1 ≤ d ∧ Dl n kd Hh (d - (K h + 1)) (cal n kd Hh (Q h) j) ∧ (if h = 0 then j else B h) ≤ b
theorem Op_min {d b k : Nat} (h : Op n kd Hh l d b) (hk : Dl n kd Hh k l) : d ≤ k := by
  by_cases c : d ≤ k
  · exact c
  · exact absurd (Dl_le (by omega) hk) h.2.1
theorem QA_root {m i : Nat} {Q K B : Nat → Nat} (A : QA n kd Hh l m Q K B) (h0 : 0 < i) (hi : i < m) {j : Nat} (h : Dl n kd Hh j (Q i)) : Dl n kd Hh (j + K i) l := by
  obtain ⟨a, b, c⟩ := A.1 i h0 hi
  have := Dl_c b (c j h)
  rw [show j + (K i - 1) + 1 = j + K i by omega] at this
  exact this
/-- one more in the queue -/
theorem QS_push {m h g b : Nat} {Q K B : Nat → Nat} {qu ct fc : Nat → Int32} (H : QS n l m Q K B qu ct fc) (hn : n ≤ 8) (hh : h < m) {q : Nat} (hq : q < 2 ^ n) (hc : ct q = -1) : QS n l (m + 1) (un Q m q) (un K m (K h + 1)) (un B m b) (upd qu m (nI q)) (upd ct q (nI (K h + 1))) (upd fc q (nI b)) := by
  obtain ⟨h1, h2, h3, h4, h5, h6, h7⟩ := H
  have hN := two_le hn
  have hm : m ≤ 2 ^ n := by rw [h7]; exact cnt_le _ _
  have hne : ∀ i, i < m → ¬ Q i = q := fun i hi w => by
    have := (h4 i hi).2.2.1
    rw [w, hc] at this
    exact nI_m1 (a := K i) (by have := (h4 i hi).2.2.2.1; omega) this.symm
  refine ⟨by omega, by rw [un_n (by omega)]; exact h2, by rw [un_n (by omega)]; exact h3, fun i hi => ?_, ?_, fun x hx => ?_, ?_⟩
  · by_cases c : i = m
    · subst c
      rw [un_s, un_s, un_s, pk_us, pk_us, pk_us]
      have := (h4 h hh).2.2.2.1
      exact ⟨hq, rfl, rfl, by omega, fun _ => rfl⟩
    · rw [un_n c, un_n c, un_n c, pk_un c, pk_un (hne i (by omega)), pk_un (hne i (by omega))]
      exact h4 i (by omega)
  · rw [pk_un (by rw [← h2]; exact hne 0 h1)]
    exact h5
  · by_cases c : x = q
    · exact Or.inr ⟨m, by omega, by rw [un_s, c]⟩
    · rw [pk_un c]
      rcases h6 x hx with w | ⟨i, w1, w2⟩
      · exact Or.inl w
      · exact Or.inr ⟨i, by omega, by rw [un_n (by omega)]; exact w2⟩
  · have := (h4 h hh).2.2.2.1
    have e := cnt_less (p := fun x => decide (¬ upd ct q (nI (K h + 1)) x = -1)) (q := fun x => decide (¬ ct x = -1)) (x := q) (n := 2 ^ n) hq (decide_eq_true (by rw [pk_us]; exact nI_m1 (by omega))) (decide_eq_false (fun w => w hc)) (fun i _ hi => by rw [pk_un hi])
    omega
theorem QA_push {m h g : Nat} {Q K B : Nat → Nat} (A : QA n kd Hh l m Q K B) (T : QT m h g K B) (hQ : Q 0 = l) (hK : K 0 = 0) (hh : h < m) (hg : g < n) : QA n kd Hh l (m + 1) (un Q m (cal n kd Hh (Q h) g)) (un K m (K h + 1)) (un B m (if h = 0 then g else B h)) := by
  refine ⟨fun i h0 hi => ?_, fun i j h0 hi hj => ?_⟩
  · by_cases c : i = m
    · subst c
      rw [un_s, un_s, un_s]
      refine ⟨by omega, ?_, fun j hj => ?_⟩
      · by_cases d : h = 0
        · rw [if_pos d]; exact hg
        · rw [if_neg d]; exact (A.1 h (by omega) hh).2.1
      · by_cases d : h = 0
        · subst d
          rw [if_pos rfl, hK]
          rw [hQ] at hj
          exact hj
        · rw [if_neg d]
          have a := (A.1 h (by omega) hh)
          have := a.2.2 (j + 1) (Dl_c hg hj)
          rw [show j + (K h + 1 - 1) = j + 1 + (K h - 1) by omega]
          exact this
    · rw [un_n c, un_n c, un_n c]
      exact A.1 i h0 (by omega)
  · by_cases c : j = m
    · subst c
      rw [un_s, un_s]
      by_cases d : i = j
      · subst d
        rw [un_s, un_s]
        exact Or.inr ⟨rfl, Nat.le_refl _⟩
      · rw [un_n d, un_n d]
        exact T i h0 (by omega)
    · rw [un_n c, un_n c, un_n (by omega), un_n (by omega)]
      exact A.2 i j h0 hi (by omega)
theorem QT_push {m h g : Nat} {K B : Nat → Nat} (T : QT m h g K B) (hh : h < m) : QT (m + 1) h (g + 1) (un K m (K h + 1)) (un B m (if h = 0 then g else B h)) := by
  intro i h0 hi
  rw [un_n (show ¬ h = m by omega), un_n (show ¬ h = m by omega)]
  by_cases c : i = m
  · subst c
    rw [un_s, un_s]
    refine Or.inr ⟨rfl, ?_⟩
    by_cases d : h = 0
    · rw [if_pos d, if_pos d]; omega
    · rw [if_neg d, if_neg d]; exact Nat.le_refl _
  · rw [un_n c, un_n c]
    rcases T i h0 (by omega) with w | ⟨w1, w2⟩
    · exact Or.inl w
    · refine Or.inr ⟨w1, ?_⟩
      by_cases d : h = 0
      · rw [if_pos d] at w2 ⊢; omega
      · rw [if_neg d] at w2 ⊢; exact w2
theorem QT_skip {m h g : Nat} {K B : Nat → Nat} (T : QT m h g K B) : QT m h (g + 1) K B := by
  intro i h0 hi
  rcases T i h0 hi with w | ⟨w1, w2⟩
  · exact Or.inl w
  · refine Or.inr ⟨w1, ?_⟩
    by_cases d : h = 0
    · rw [if_pos d] at w2 ⊢; omega
    · rw [if_neg d] at w2 ⊢; exact w2
/-- the frontier while head h calls -/
def QF (n : Nat) (kd : Nat → Nat) (Hh : Nat → Nat → Bool) (l m h g : Nat) (Q K B : Nat → Nat) : Prop := ∀ d b, Op n kd Hh l d b → QW n kd Hh m (h + 1) d b Q K B ∨ QP n kd Hh h g d b Q K B
theorem QF_push {m h g : Nat} {Q K B : Nat → Nat} (F : QF n kd Hh l m h g Q K B) (hh : h < m) : QF n kd Hh l (m + 1) h (g + 1) (un Q m (cal n kd Hh (Q h) g)) (un K m (K h + 1)) (un B m (if h = 0 then g else B h)) := by
  intro d b O
  rcases F d b O with ⟨i, w1, w2, w3, w4, w5, w6⟩ | ⟨j, w1, w2, w3, w4, w5⟩
  · refine Or.inl ⟨i, w1, w2, by omega, ?_, ?_, ?_⟩
    · rw [un_n (by omega)]; exact w4
    · rw [un_n (by omega), un_n (by omega)]; exact w5
    · rw [un_n (by omega)]; exact w6
  · by_cases c : j = g
    · subst c
      refine Or.inl ⟨m, by omega, by omega, by omega, ?_, ?_, ?_⟩
      · rw [un_s]; exact w3
      · rw [un_s, un_s]; exact w4
      · rw [un_s]; exact w5
    · refine Or.inr ⟨j, by omega, w2, ?_, ?_, ?_⟩
      · rw [un_n (by omega)]; exact w3
      · rw [un_n (by omega), un_n (by omega)]; exact w4
      · rw [un_n (by omega)]; exact w5
theorem QF_skip {m h g : Nat} {Q K B : Nat → Nat} (F : QF n kd Hh l m h g Q K B) (A : QA n kd Hh l m Q K B) (T : QT m h g K B) (hQ : Q 0 = l) (hK : K 0 = 0) (hh : h < m) (hg : g < n) {i : Nat} (hi : i < m) (hq : Q i = cal n kd Hh (Q h) g) : QF n kd Hh l m h (g + 1) Q K B := by
  intro d b O
  rcases F d b O with w | ⟨j, w1, w2, w3, w4, w5⟩
  · exact Or.inl w
  · by_cases c : j = g
    · subst c
      rw [← hq] at w4
      by_cases z : i = 0
      · subst z
        rw [hQ] at w4
        have := Op_min O w4
        omega
      · have r := Op_min O (QA_root A (by omega) hi w4)
        have t := T i (by omega) hi
        have t2 : K i = K h + 1 ∧ B i ≤ if h = 0 then j else B h := by
          rcases t with t | t
          · omega
          · exact t
        have ih : h < i := by
          rcases Nat.lt_or_ge h i with v | v
          · exact v
          · have := A.2 i h (by omega) v hh
            omega
        refine Or.inl ⟨i, by omega, by omega, hi, by omega, ?_, Nat.le_trans t2.2 w5⟩
        rw [t2.1]
        exact w4
    · exact Or.inr ⟨j, by omega, w2, w3, w4, w5⟩
theorem callAll_loop (P : PC n kd Hh sz ki te) {h : Nat} : ∀ (f g m : Nat) (Q K B : Nat → Nat) (qu ct fc kn : Nat → Int32), g ≤ n → n - g < f → h < m → QS n l m Q K B qu ct fc → QA n kd Hh l m Q K B → QT m h g K B → QF n kd Hh l m h g Q K B → KV n kd Hh kn → ∃ (m' : Nat) (Q' K' B' : Nat → Nat) (k : (Nat → Int32) × (Nat → Int32) × (Nat → Int32) × (Nat → Int32)), ll7 (fX3_callAll_6 sz ki te) f qu ct fc kn (nI (Q h)) (nI m) (nI g) = some (nI m', k) ∧ h < m' ∧ QS n l m' Q' K' B' k.1 k.2.1 k.2.2.1 ∧ QA n kd Hh l m' Q' K' B' ∧ QT m' h n K' B' ∧ QF n kd Hh l m' h n Q' K' B' ∧ KV n kd Hh k.2.2.2 := by
  intro f
  induction f with
  | zero => intro g m Q K B qu ct fc kn _ h; exact absurd h (by omega)
  | succ f ih =>
    intro g m Q K B qu ct fc kn hg hf hh H A T F Kv
    have hn := P.1
    have hN := two_le hn
    have ih := ih (g + 1)
    show ∃ m' Q' K' B' k, fX3_callAll_6 sz ki te (ll7 (fX3_callAll_6 sz ki te) f) qu ct fc kn (nI (Q h)) (nI m) (nI g) = _ ∧ _
    generalize ll7 (fX3_callAll_6 sz ki te) f = ag at ih ⊢
    unfold fX3_callAll_6
    rw [P.2.1, ite_le (by omega) (by omega)]
    by_cases c : n ≤ g
    · have e : g = n := by omega
      subst e
      rw [if_pos c]
      exact ⟨m, Q, K, B, _, rfl, hh, H, A, T, F, Kv⟩
    · obtain ⟨h1, h2, h3, h4, h5, h6, h7⟩ := id H
      have hQh := h4 h hh
      have hm : m ≤ 2 ^ n := by rw [h7]; exact cnt_le _ _
      have hcl : cal n kd Hh (Q h) g < 2 ^ n := cal_lt hQh.1
      obtain ⟨k6, e6, K6⟩ := called_r P Kv (show Q h < 256 by omega) (show g < 8 by omega)
      rw [if_neg c, show fX0_called (nI n) ki te kn (nI g) (nI (Q h)) = some (nI (cal n kd Hh (Q h) g), k6) from by rw [← P.2.1]; exact e6, bR_some, nm_of, and255i (by omega), gIn_nI (by omega) (by decide), nI_clamp (by omega)]
      unfold fX3_callAll_88 fX3_callAll_101
      rw [nm_of, nI_1]
      by_cases d : ct (cal n kd Hh (Q h) g) = -1
      · have hmlt : m < 2 ^ n := by
          have := cnt_mono1 (p := fun q => decide (¬ ct q = -1)) (q := fun _ => true) (x := cal n kd Hh (Q h) g) (n := 2 ^ n) hcl (decide_eq_false (fun w => w d)) rfl (fun _ _ _ => rfl)
          rw [cnt_all] at this
          omega
        have hne : ¬ Q h = cal n kd Hh (Q h) g := fun w => by
          have := hQh.2.2.1
          rw [w, d] at this
          exact nI_m1 (a := K h) (by have := hQh.2.2.2.1; omega) this.symm
        have hK : K h < 1000 := by have := hQh.2.2.2.1; omega
        rw [if_pos d, fa_lit 256, ite_le (by decide) (by omega), if_neg (show ¬ 256 ≤ m by omega), gIn_nI (show Q h < 256 by omega) (by decide), gIn_nI (show cal n kd Hh (Q h) g < 256 by omega) (by decide), gIn_nI (show Q h < 256 by omega) (by decide), nI_clamp (show Q h < 2 ^ 31 by omega), pk_un hne, hQh.2.2.1, nI_1]
        have key := ih (m + 1) (un Q m (cal n kd Hh (Q h) g)) (un K m (K h + 1)) (un B m (if h = 0 then g else B h)) (upd qu m (nI (cal n kd Hh (Q h) g))) (upd ct (cal n kd Hh (Q h) g) (nI (K h + 1))) (upd fc (cal n kd Hh (Q h) g) (nI (if h = 0 then g else B h))) k6 (by omega) (by omega) (by omega) (QS_push (g := g) H hn hh hcl d) (QA_push A T h2 h3 hh (by omega)) (QT_push T hh) (QF_push F hh) K6
        rw [un_n (show ¬ h = m by omega)] at key
        by_cases z : h = 0
        · rw [if_pos (show nI (K h) = 0 from by rw [z, h3]; rfl), gIn_nI (by omega) (by decide), gIn_nI (by omega) (by decide), nm_of, nm_of, nI_1, nI_clamp (by omega), nI_clamp (by omega)]
          rw [if_pos z] at key
          exact key
        · have hz : ¬ nI (K h) = 0 := fun w => by
            have := (nI_eq (b := 0) (by omega) (by decide)).mp w
            have := (A.1 h (by omega) hh).1
            omega
          rw [if_neg hz, gIn_nI (by omega) (by decide), gIn_nI (by omega) (by decide), gIn_nI (by omega) (by decide), nm_of, nm_of, nI_1, nI_clamp (by omega), nI_clamp (by omega), hQh.2.2.2.2 (by omega)]
          rw [if_neg z] at key
          exact key
      · rw [if_neg d]
        obtain ⟨i, hi, hqi⟩ := (h6 _ hcl).resolve_left d
        exact ih m Q K B qu ct fc k6 (by omega) (by omega) hh H A (QT_skip T) (QF_skip F A T h2 h3 hh (by omega) hi hqi) K6
/-- how the search ends -/
def NE (n : Nat) (kd : Nat → Nat) (Hh : Nat → Nat → Bool) (l : Nat) (r : Int32) (ct fc : Nat → Int32) : Prop :=
  (Wd n kd Hh l = l ∧ r = nI l ∧ ct l = 0 ∧ fc l = -1) ∨ ((∀ k, ¬ Dl n kd Hh k l) ∧ r = -1) ∨ ∃ q d b, q < 2 ^ n ∧ r = nI q ∧ ct q = nI d ∧ fc q = nI b ∧ d ≤ 256 ∧ b < n ∧ Op n kd Hh l d b ∧ ∀ g, Op n kd Hh l d g → b ≤ g
theorem Op_ex {k : Nat} (h : Dl n kd Hh k l) (h0 : ¬ Wd n kd Hh l = l) : ∃ d g, Op n kd Hh l d g := by
  obtain ⟨d, -, h1, h2⟩ := Di_ex h
  cases d with
  | zero => exact absurd h1 h0
  | succ d =>
    have h3 := h2 d (by omega)
    rcases h1 with w | ⟨g, w1, w2⟩
    · exact absurd w h3
    · exact ⟨d + 1, g, by omega, h3, w1, w2⟩
theorem near_loop (P : PC n kd Hh sz ki te) : ∀ (f h m : Nat) (Q K B : Nat → Nat) (qu ct fc kn : Nat → Int32), h ≤ m → 300 - h < f → QS n l m Q K B qu ct fc → QA n kd Hh l m Q K B → (h < m → QT m h 0 K B) → (h = 0 ∨ (¬ Wd n kd Hh l = l ∧ ∀ d b, Op n kd Hh l d b → QW n kd Hh m h d b Q K B)) → KV n kd Hh kn → ∃ (r : Int32) (k : (Nat → Int32) × (Nat → Int32) × (Nat → Int32) × (Nat → Int32)), ll6 (fX3_nearestSettled_43 sz li ki te) f qu ct fc kn (nI m) (nI h) = some (r, k) ∧ KV n kd Hh k.2.2.2 ∧ NE n kd Hh l r k.2.1 k.2.2.1 := by
  intro f
  induction f with
  | zero => intro h m Q K B qu ct fc kn _ h; exact absurd h (by omega)
  | succ f ih =>
    intro h m Q K B qu ct fc kn hm hf H A T F Kv
    have hn := P.1
    have hN := two_le hn
    have ih := ih (h + 1)
    show ∃ r k, fX3_nearestSettled_43 sz li ki te (ll6 (fX3_nearestSettled_43 sz li ki te) f) qu ct fc kn (nI m) (nI h) = _ ∧ _
    generalize ll6 (fX3_nearestSettled_43 sz li ki te) f = ag at ih ⊢
    obtain ⟨h1, h2, h3, h4, h5, h6, h7⟩ := id H
    have hm2 : m ≤ 2 ^ n := by rw [h7]; exact cnt_le _ _
    unfold fX3_nearestSettled_43
    rw [ite_le (by omega) (by omega)]
    by_cases c : m ≤ h
    · rw [if_pos c]
      refine ⟨_, _, rfl, Kv, Or.inr (Or.inl ⟨fun k hk => ?_, rfl⟩)⟩
      rcases F with F | ⟨F0, F⟩
      · omega
      · obtain ⟨d, g, O⟩ := Op_ex hk F0
        obtain ⟨i, w1, w2, w3, -⟩ := F d g O
        omega
    · have hh : h < m := by omega
      have hQh := h4 h hh
      have T := T hh
      obtain ⟨k4, e4, K4⟩ := isSettled_r P Kv (l := Q h) (by omega)
      rw [if_neg c, fa_lit 256, ite_le (by decide) (by omega), if_neg (show ¬ 256 ≤ h by omega), gIn_nI (by omega) (by decide), nI_clamp (by omega), hQh.2.1, e4, bR_some, ite_b2]
      by_cases z : Wd n kd Hh (Q h) = Q h
      · rw [if_pos z, gIn_nI (by omega) (by decide)]
        refine ⟨_, _, rfl, K4, ?_⟩
        by_cases y : h = 0
        · subst y
          rw [h2] at z ⊢
          have := hQh.2.2.1
          rw [h2, h3] at this
          exact Or.inl ⟨z, rfl, this, h5⟩
        · obtain ⟨F0, F⟩ := F.resolve_left y
          have a := A.1 h (by omega) hh
          have r0 : Dl n kd Hh (K h) l := by
            have := QA_root A (by omega) hh (j := 0) z
            rw [Nat.zero_add] at this
            exact this
          have r1 : Dl n kd Hh (K h - 1) (cal n kd Hh l (B h)) := by
            have := a.2.2 0 z
            rw [Nat.zero_add] at this
            exact this
          obtain ⟨d, g, O⟩ := Op_ex r0 F0
          have hd := Op_min O r0
          have hle : ∀ g', Op n kd Hh l d g' → K h = d ∧ B h ≤ g' := fun g' O' => by
            obtain ⟨i, w1, w2, w3, w4, w5, w6⟩ := F d g' O'
            rcases A.2 h i (by omega) w1 w3 with v | ⟨v1, v2⟩
            · omega
            · exact ⟨by omega, by omega⟩
          have hK := (hle g O).1
          subst hK
          refine Or.inr (Or.inr ⟨Q h, K h, B h, hQh.1, rfl, hQh.2.2.1, hQh.2.2.2.2 (by omega), by have := hQh.2.2.2.1; omega, a.2.1, ⟨O.1, O.2.1, a.2.1, r1⟩, fun g' O' => (hle g' O').2⟩)
      · rw [if_neg z, gIn_nI (by omega) (by decide)]
        have F1 : QF n kd Hh l m h 0 Q K B := by
          intro d b O
          by_cases y : h = 0
          · subst y
            refine Or.inr ⟨b, by omega, O.2.2.1, ?_, ?_, ?_⟩
            · rw [h3]; exact O.1
            · rw [h3, h2]; exact O.2.2.2
            · rw [if_pos rfl]; exact Nat.le_refl _
          · obtain ⟨F0, F⟩ := F.resolve_left y
            obtain ⟨i, w1, w2, w3, w4, w5, w6⟩ := F d b O
            by_cases x : i = h
            · subst x
              cases hj : d - K i with
              | zero =>
                rw [hj] at w5
                exact absurd w5 z
              | succ j =>
                rw [hj] at w5
                rcases w5 with v | ⟨g, v1, v2⟩
                · have := Op_min O (QA_root A w2 hh v)
                  omega
                · refine Or.inr ⟨g, by omega, v1, by omega, ?_, ?_⟩
                  · rw [show d - (K i + 1) = j by omega]; exact v2
                  · rw [if_neg y]; exact w6
            · exact Or.inl ⟨i, by omega, w2, w3, w4, w5, w6⟩
        obtain ⟨m', Q', K', B', k7, e7, u1, u2, u3, u4, u5, u6⟩ := callAll_loop P (h := h) 1024 0 m Q K B qu ct fc k4 (by omega) (by omega) hh H A T F1 K4
        have e7 : fX3_callAll qu ct fc sz ki te k4 (nI (Q h)) (nI m) = some (nI m', k7) := e7
        rw [e7, bR_some, nm_of, nI_1]
        have F0 : ¬ Wd n kd Hh l = l := by
          rcases F with F | F
          · subst F; rw [h2] at z; exact z
          · exact F.1
        refine ih m' Q' K' B' _ _ _ _ (by omega) (by omega) u2 u3 (fun hlt i i0 im => ?_) (Or.inr ⟨F0, fun d b O => ?_⟩) u6
        · rw [if_neg (by omega)]
          have t := u4 i i0 im
          by_cases y : h = 0
          · subst y
            have a := (u3.1 1 (by omega) hlt).1
            have k0 : K' 0 = 0 := u2.2.2.1
            rw [k0] at t
            exact Or.inl (by rw [Nat.zero_add]; omega)
          · rw [if_neg y] at t
            have s1 := u3.2 h (h + 1) (by omega) (by omega) hlt
            omega
        · rcases u5 d b O with v | ⟨j, v1, v2, -⟩
          · exact v
          · omega
theorem near_r (P : PC n kd Hh sz ki te) (K : KV n kd Hh kn) (hl : l < 2 ^ n) (qu ct fc : Nat → Int32) : ∃ (r : Int32) (k : (Nat → Int32) × (Nat → Int32) × (Nat → Int32) × (Nat → Int32)), fX3_nearestSettled qu ct fc sz (nI l) ki te kn = some (r, k) ∧ KV n kd Hh k.2.2.2 ∧ NE n kd Hh l r k.2.1 k.2.2.1 := by
  have hn := P.1
  have hN := two_le hn
  unfold fX3_nearestSettled
  rw [fillI 256 (by decide), bV_some, nm_of, and255i (by omega), gIn_nI (by omega) (by decide), gIn_nI (by omega) (by decide), nI_clamp (by omega)]
  refine near_loop P 1024 0 1 (fun _ => l) (fun _ => 0) (fun _ => 0) _ _ _ kn (by omega) (by omega) ⟨by omega, rfl, rfl, fun i hi => ?_, pk_us, fun q hq => ?_, ?_⟩ ⟨fun i h0 hi => absurd hi (by omega), fun i j h0 hi hj => absurd hi (by omega)⟩ (fun _ i h0 hi => absurd hi (by omega)) (Or.inl rfl) K
  · obtain rfl : i = 0 := by omega
    exact ⟨hl, pk_us, pk_us, Nat.le_refl _, fun h => absurd h (by omega)⟩
  · by_cases c : q = l
    · exact Or.inr ⟨0, by omega, c.symm⟩
    · rw [pk_un c]
      exact Or.inl (if_pos (by omega))
  · have e := cnt_less (p := fun x => decide (¬ upd (fillF 256 (-1) ct) l 0 x = -1)) (q := fun _ => false) (x := l) (n := 2 ^ n) hl (decide_eq_true (by rw [pk_us]; decide)) rfl (fun i hi hi2 => by
      rw [pk_un hi2]
      exact (decide_eq_false (fun w => w (if_pos (by omega)))).symm)
    have z : ∀ N, cnt (fun _ => false) N = 0 := by
      intro N
      induction N with
      | zero => rfl
      | succ N ih => show cnt _ N + _ = 0; rw [ih, if_neg (by simp)]
    rw [e, z]
end NEAR
end
section
/-! fewest, first -/
section FIRST
variable {sz li to : Int32} {ki co : Nat → Int32} {te : Nat → Int64} {s kn fi st pile wish mark qu ct fc : Nat → Int32} {n l : Nat} {kd cc : Nat → Nat} {Hh : Nat → Nat → Bool}
theorem Op_Di {d b : Nat} (O : Op n kd Hh l d b) : Di n kd Hh d l := by
  have := Dl_c O.2.2.1 O.2.2.2
  rw [show d - 1 + 1 = d by have := O.1; omega] at this
  exact ⟨this, fun e he q => O.2.1 (Dl_le (by omega) q)⟩
theorem op_fewest (R : RA sz li to ki co te s n l kd cc Hh) (K : KV n kd Hh kn) (F : FS fi st) : Both (fX4_fewest sz li ki te kn qu ct fc fi) (fX5_fewest s st pile mark) (fun k1 k2 => KV n kd Hh k1.1 ∧ FS k1.2.2.2.2 k2.1) := by
  obtain ⟨P, M, hL, -⟩ := R
  have hN := two_le P.1
  have hl := hL.1
  unfold fX4_fewest fX5_fewest
  obtain ⟨k8, e8, V⟩ := looksFar_r M pile mark
  obtain ⟨r, k, e, Kv, N⟩ := near_r P K hl qu ct fc
  rw [hL.2.1, e, e8, bV_some, bR_some, hL.2.2, gIn_nI (by omega) (by decide), nI_clamp (by omega), fnd_4, bR_some]
  unfold fX3_callsTo
  rcases V l hl with ⟨v1, v2⟩ | ⟨d, v1, v2, v3⟩
  · rw [v1, orNone_neg, bR_some]
    rcases N with ⟨w1, -⟩ | ⟨-, w2⟩ | ⟨q, d, b, w1, w2, w3, w4, w5, w6, w7, w8⟩
    · exact absurd w1 (v2 0)
    · rw [w2, if_neg (by decide)]
      exact Both.mk ⟨Kv, F.up (by decide)⟩
    · exact absurd (Op_Di w7).1 (v2 d)
  · rw [v2, orNone_nI (by omega), bR_some]
    rcases N with ⟨w1, w2, w3, w4⟩ | ⟨w1, -⟩ | ⟨q, d', b, w1, w2, w3, w4, w5, w6, w7, w8⟩
    · have : d = 0 := Di_u v3 ⟨w1, fun _ h => absurd h (by omega)⟩
      subst this
      rw [w2, if_pos (nI_0le (by omega)), and255i (by omega), gIn_nI (by omega) (by decide), bR_some, nI_clamp (by omega)]
      exact Both.mk' w3 ⟨Kv, F⟩
    · exact absurd v3.1 (w1 d)
    · have : d = d' := Di_u v3 (Op_Di w7)
      subst this
      rw [w2, if_pos (nI_0le (by omega)), and255i (by omega), gIn_nI (by omega) (by decide), bR_some, nI_clamp (by omega)]
      exact Both.mk' w3 ⟨Kv, F⟩
theorem pred_i : ∀ j, j < 9 → nI (j + 1) + -1 = nI j := by decide +kernel
theorem first_none (M : PM n kd Hh s) {y : Int32} (hy : y ≤ 0) {mk : Nat → Int32} : ∀ (f j : Nat) (p : Nat → Int32), j ≤ n → j < f → Ret (ll6 (fX5_first_27 s) f st p mk y (-1) (nI j + -1)) (-1000000004) (fun k => k.1 = upd st 3 (st 3 + 1)) := by
  intro f
  induction f with
  | zero => intro j p _ h; exact absurd h (by omega)
  | succ f ih =>
    intro j p hj hf
    have hn := M.1
    have ih := ih (j - 1) p
    rw [ll6_u]
    generalize ll6 (fX5_first_27 s) f = ag at ih ⊢
    unfold fX5_first_27 fX5_first_61 fX5_first_62
    cases j with
    | zero =>
      rw [if_pos (by decide), orNone_neg, bR_some]
      exact Ret.mk rfl
    | succ j =>
      rw [pred_i j (by omega), if_neg (nI_neg (by omega)), if_pos hy, nm_of]
      exact ih (by omega) (by omega)
theorem first_some (M : PM n kd Hh s) (hs : s 1 = nI l) (hl : l < 2 ^ n) {mk : Nat → Int32} (V : MF n kd Hh mk) {d b : Nat} (O : Op n kd Hh l d b) (hd : d ≤ 300) (hb : ∀ g, Op n kd Hh l d g → b ≤ g) : ∀ (f j : Nat) (v : Int32) (p : Nat → Int32), j ≤ n → j < f → (j ≤ b → v = nI b) → Ret (ll6 (fX5_first_27 s) f st p mk (nI d) v (nI j + -1)) (nI b) (fun k => k.1 = st) := by
  intro f
  induction f with
  | zero => intro j v p _ h; exact absurd h (by omega)
  | succ f ih =>
    intro j v p hj hf hv
    have hn := M.1
    have hN := two_le hn
    have hbn := O.2.2.1
    have hd1 := O.1
    have ih := ih (j - 1)
    rw [ll6_u]
    generalize ll6 (fX5_first_27 s) f = ag at ih ⊢
    unfold fX5_first_27 fX5_first_61 fX5_first_62
    cases j with
    | zero =>
      rw [if_pos (by decide), hv (by omega), orNone_nI (by omega), bR_some]
      exact Ret.mk rfl
    | succ j =>
      rw [pred_i j (by omega), if_neg (nI_neg (by omega)), fa_lit 0, ite_le (by omega) (by decide), if_neg (show ¬ d ≤ 0 by omega), hs]
      refine Ret.b1 (calledM_r M (show j < n by omega) (show l < 256 by omega) p) (fun k _ => ?_)
      have hc : cal n kd Hh l j < 2 ^ n := cal_lt hl
      rw [gIn_nI (by omega) (by decide), nI_clamp (by omega), show nI d - 1 = nI (d - 1) from by rw [fa_lit 1, nI_sub1 (by omega)], nm_of, nm_of]
      have hE : mk (cal n kd Hh l j) = nI (d - 1) ↔ Op n kd Hh l d j := by
        constructor
        · intro q
          refine ⟨O.1, O.2.1, by omega, ?_⟩
          rcases V _ hc with ⟨a1, a2⟩ | ⟨e, a1, a2, a3⟩
          · rw [a1] at q; exact absurd q.symm (nI_m1 (by omega))
          · rw [a2] at q
            have := (nI_eq (by omega) (by omega)).mp q
            subst this
            exact a3.1
        · intro q
          rcases V _ hc with ⟨a1, a2⟩ | ⟨e, a1, a2, a3⟩
          · exact absurd q.2.2.2 (a2 _)
          · rw [a2]
            congr 1
            refine Di_u a3 ⟨q.2.2.2, fun x hx w => ?_⟩
            exact O.2.1 (Dl_le (show x + 1 ≤ d - 1 by omega) (Dl_c q.2.2.1 w))
      by_cases c : mk (cal n kd Hh l j) = nI (d - 1)
      · rw [if_pos c]
        refine ih (nI j) k (by omega) (by omega) (fun h => ?_)
        have h : j ≤ b := h
        have := hb j (hE.mp c)
        congr 1
        omega
      · rw [if_neg c]
        refine ih v k (by omega) (by omega) (fun h => hv ?_)
        have h : j ≤ b := h
        have : ¬ j = b := fun e => c (hE.mpr (by rw [e]; exact O))
        omega
theorem op_first (R : RA sz li to ki co te s n l kd cc Hh) (K : KV n kd Hh kn) (F : FS fi st) : Both (fX4_first sz li ki te kn qu ct fc fi) (fX5_first s st pile mark) (fun k1 k2 => KV n kd Hh k1.1 ∧ FS k1.2.2.2.2 k2.1) := by
  obtain ⟨P, M, hL, -⟩ := R
  have hn := P.1
  have hN := two_le P.1
  have hl := hL.1
  unfold fX4_first fX5_first
  obtain ⟨k8, e8, V⟩ := looksFar_r M pile mark
  obtain ⟨r, k, e, Kv, N⟩ := near_r P K hl qu ct fc
  rw [hL.2.1, e, e8, bV_some, bR_some, hL.2.2, gIn_nI (by omega) (by decide), nI_clamp (by omega), nm_of, nm_of, M.2.1, show nI n - 1 = nI n + -1 from Int32.sub_eq_add_neg _ _]
  unfold fX3_firstCalledTo fX4_first_28
  rw [fnd_4, bR_some]
  have none : ∀ {y : Int32}, y ≤ 0 → Both (some (-1000000004, (k.2.2.2, k.1, k.2.1, k.2.2.1, upd fi 3 (fi 3 + 1)))) (ll6 (fX5_first_27 s) qF st k8.1 k8.2 y (-1) (nI n + -1)) (fun k1 k2 => KV n kd Hh k1.1 ∧ FS k1.2.2.2.2 k2.1) := fun hy => by
    obtain ⟨k9, e9, h9⟩ := first_none (st := st) M hy (mk := k8.2) 1024 n k8.1 (Nat.le_refl _) (by omega)
    refine ⟨_, _, k9, rfl, e9, Kv, ?_⟩
    rw [h9]
    exact F.up (by decide)
  rcases V l hl with ⟨v1, v2⟩ | ⟨d, v1, v2, v3⟩
  · rw [v1]
    rcases N with ⟨w1, -⟩ | ⟨-, w2⟩ | ⟨q, d, b, w1, w2, w3, w4, w5, w6, w7, w8⟩
    · exact absurd w1 (v2 0)
    · rw [w2, if_neg (by decide), if_neg (by decide)]
      exact none (by decide)
    · exact absurd (Op_Di w7).1 (v2 d)
  · rw [v2]
    rcases N with ⟨w1, w2, w3, w4⟩ | ⟨w1, -⟩ | ⟨q, d', b, w1, w2, w3, w4, w5, w6, w7, w8⟩
    · have : d = 0 := Di_u v3 ⟨w1, fun _ h => absurd h (by omega)⟩
      subst this
      rw [w2, if_pos (nI_0le (by omega)), and255i (by omega), gIn_nI (by omega) (by decide), bR_some, nI_clamp (by omega), w4, if_neg (by decide)]
      exact none (by decide)
    · exact absurd v3.1 (w1 d)
    · have : d = d' := Di_u v3 (Op_Di w7)
      subst this
      rw [w2, if_pos (nI_0le (by omega)), and255i (by omega), gIn_nI (by omega) (by decide), bR_some, nI_clamp (by omega), w4, if_pos (nI_0le (by omega))]
      obtain ⟨k9, e9, h9⟩ := first_some (st := st) M hL.2.2 hl V w7 v1 w8 1024 n (-1) k8.1 (Nat.le_refl _) (by omega) (fun h => absurd h (by omega))
      refine ⟨_, _, k9, rfl, e9, Kv, ?_⟩
      rw [h9]
      exact F
end FIRST
end
section
/-! the invariant and its steps -/
abbrev IVr : LT := fun v_p1_isKept v_p1_party_size v_p1_party_list v_p1_party_told v_p1_party_kinds v_p1_party_costs v_p1_party_terms v_p1_party_known v_p1_kept_size v_p1_kept_list v_p1_kept_told v_p1_kept_kinds v_p1_kept_costs v_p1_kept_terms _ v_p1_tape_length _ _ _ _ v_p1_tape_bytes _ _ _ v_p1_sheets0_bits v_p1_sheets0_size v_p1_sheets0_numbers v_p1_sheets1_bits v_p1_sheets1_size v_p1_sheets1_numbers v_p1_sheets2_bits v_p1_sheets2_size v_p1_sheets2_numbers v_p1_sheets3_bits v_p1_sheets3_size v_p1_sheets3_numbers v_p1_findings v_p2_isKept v_p2_taped _ _ _ _ v_p2_s v_p2_keptS v_p2_statuses _ v_p2_tape _ _ _ v_p2_bitsOf v_p2_sizeOf v_p2_number _ => (∃ (n l : Nat) (kd cc : Nat → Nat) (Hh : Nat → Nat → Bool), RA v_p1_party_size v_p1_party_list v_p1_party_told v_p1_party_kinds v_p1_party_costs v_p1_party_terms v_p2_s n l kd cc Hh ∧ KV n kd Hh v_p1_party_known) ∧ (∃ (n l : Nat) (kd cc : Nat → Nat) (Hh : Nat → Nat → Bool), RA v_p1_kept_size v_p1_kept_list v_p1_kept_told v_p1_kept_kinds v_p1_kept_costs v_p1_kept_terms v_p2_keptS n l kd cc Hh) ∧ v_p1_isKept = v_p2_isKept ∧ (∃ t, RT v_p1_tape_length v_p1_tape_bytes v_p2_taped v_p2_tape t) ∧ RS v_p1_sheets0_bits v_p1_sheets0_size v_p1_sheets0_numbers v_p1_sheets1_bits v_p1_sheets1_size v_p1_sheets1_numbers v_p1_sheets2_bits v_p1_sheets2_size v_p1_sheets2_numbers v_p1_sheets3_bits v_p1_sheets3_size v_p1_sheets3_numbers v_p2_bitsOf v_p2_sizeOf v_p2_number ∧ FS v_p1_findings v_p2_statuses
theorem Both.step {α κ1 κ2 : Type} {o1 : Option (α × κ1)} {o2 : Option (α × κ2)} {Q P : κ1 → κ2 → Prop} (h : Both o1 o2 Q) (hP : ∀ k1 k2, Q k1 k2 → P k1 k2) : ∃ r1 k1 r2 k2, o1 = some (r1, k1) ∧ o2 = some (r2, k2) ∧ r1 = r2 ∧ P k1 k2 := by
  obtain ⟨r, k1, k2, e1, e2, h⟩ := h
  exact ⟨r, k1, r, k2, e1, e2, rfl, hP k1 k2 h⟩
theorem ex4_step {α κ1 κ2 : Type} {o1 : Option (α × κ1)} {o2 : Option (α × κ2)} {Q P : κ1 → κ2 → Prop} (h : ∃ r1 k1 r2 k2, o1 = some (r1, k1) ∧ o2 = some (r2, k2) ∧ Q k1 k2) (hP : ∀ k1 k2, Q k1 k2 → P k1 k2) : ∃ r1 k1 r2 k2, o1 = some (r1, k1) ∧ o2 = some (r2, k2) ∧ P k1 k2 := by
  obtain ⟨r1, k1, r2, k2, e1, e2, h⟩ := h
  exact ⟨r1, k1, r2, k2, e1, e2, hP k1 k2 h⟩
theorem st_guest : S_guest IVr IVr := by
  intro v_p1_isKept v_p1_party_size v_p1_party_list v_p1_party_told v_p1_party_kinds v_p1_party_costs v_p1_party_terms v_p1_party_known v_p1_kept_size v_p1_kept_list v_p1_kept_told v_p1_kept_kinds v_p1_kept_costs v_p1_kept_terms v_p1_kept_known v_p1_tape_length v_p1_tape_place v_p1_tape_fault v_p1_tape_teller v_p1_tape_word v_p1_tape_bytes v_p1_telephone_queue v_p1_telephone_callsTo v_p1_telephone_firstCalled v_p1_sheets0_bits v_p1_sheets0_size v_p1_sheets0_numbers v_p1_sheets1_bits v_p1_sheets1_size v_p1_sheets1_numbers v_p1_sheets2_bits v_p1_sheets2_size v_p1_sheets2_numbers v_p1_sheets3_bits v_p1_sheets3_size v_p1_sheets3_numbers v_p1_findings v_p2_isKept v_p2_taped v_p2_at v_p2_fault v_p2_laid v_p2_open v_p2_s v_p2_keptS v_p2_statuses v_p2_pile v_p2_tape v_p2_steps v_p2_wish v_p2_mark v_p2_bitsOf v_p2_sizeOf v_p2_number v_p2_moved x1 x2 hI
  obtain ⟨⟨n, l, kd, cc, Hh, R, K⟩, R2, ik, T, H, F⟩ := hI
  refine Both.step (op_guest R K F x1 x2) (fun k1 k2 h => ?_)
  obtain ⟨⟨n, kd, cc, Hh, R, K⟩, F⟩ := h
  exact ⟨⟨n, l, kd, cc, Hh, R, K⟩, R2, ik, T, H, F⟩
theorem st_of : S_of IVr IVr := by
  intro v_p1_isKept v_p1_party_size v_p1_party_list v_p1_party_told v_p1_party_kinds v_p1_party_costs v_p1_party_terms v_p1_party_known v_p1_kept_size v_p1_kept_list v_p1_kept_told v_p1_kept_kinds v_p1_kept_costs v_p1_kept_terms v_p1_kept_known v_p1_tape_length v_p1_tape_place v_p1_tape_fault v_p1_tape_teller v_p1_tape_word v_p1_tape_bytes v_p1_telephone_queue v_p1_telephone_callsTo v_p1_telephone_firstCalled v_p1_sheets0_bits v_p1_sheets0_size v_p1_sheets0_numbers v_p1_sheets1_bits v_p1_sheets1_size v_p1_sheets1_numbers v_p1_sheets2_bits v_p1_sheets2_size v_p1_sheets2_numbers v_p1_sheets3_bits v_p1_sheets3_size v_p1_sheets3_numbers v_p1_findings v_p2_isKept v_p2_taped v_p2_at v_p2_fault v_p2_laid v_p2_open v_p2_s v_p2_keptS v_p2_statuses v_p2_pile v_p2_tape v_p2_steps v_p2_wish v_p2_mark v_p2_bitsOf v_p2_sizeOf v_p2_number v_p2_moved x1 x2 hI
  obtain ⟨⟨n, l, kd, cc, Hh, R, K⟩, R2, ik, T, H, F⟩ := hI
  refine Both.step (op_of R K F x1 x2) (fun k1 k2 h => ?_)
  obtain ⟨K, F⟩ := h
  exact ⟨⟨n, l, kd, cc, Hh, R, K⟩, R2, ik, T, H, F⟩
theorem st_cost : S_cost IVr IVr := by
  intro v_p1_isKept v_p1_party_size v_p1_party_list v_p1_party_told v_p1_party_kinds v_p1_party_costs v_p1_party_terms v_p1_party_known v_p1_kept_size v_p1_kept_list v_p1_kept_told v_p1_kept_kinds v_p1_kept_costs v_p1_kept_terms v_p1_kept_known v_p1_tape_length v_p1_tape_place v_p1_tape_fault v_p1_tape_teller v_p1_tape_word v_p1_tape_bytes v_p1_telephone_queue v_p1_telephone_callsTo v_p1_telephone_firstCalled v_p1_sheets0_bits v_p1_sheets0_size v_p1_sheets0_numbers v_p1_sheets1_bits v_p1_sheets1_size v_p1_sheets1_numbers v_p1_sheets2_bits v_p1_sheets2_size v_p1_sheets2_numbers v_p1_sheets3_bits v_p1_sheets3_size v_p1_sheets3_numbers v_p1_findings v_p2_isKept v_p2_taped v_p2_at v_p2_fault v_p2_laid v_p2_open v_p2_s v_p2_keptS v_p2_statuses v_p2_pile v_p2_tape v_p2_steps v_p2_wish v_p2_mark v_p2_bitsOf v_p2_sizeOf v_p2_number v_p2_moved x1 x2 hI
  obtain ⟨⟨n, l, kd, cc, Hh, R, K⟩, R2, ik, T, H, F⟩ := hI
  refine Both.step (op_cost R F x1 x2) (fun k1 k2 h => ?_)
  obtain ⟨⟨cc, R⟩, F⟩ := h
  exact ⟨⟨n, l, kd, cc, Hh, R, K⟩, R2, ik, T, H, F⟩
theorem st_turn : S_turn IVr IVr := by
  intro v_p1_isKept v_p1_party_size v_p1_party_list v_p1_party_told v_p1_party_kinds v_p1_party_costs v_p1_party_terms v_p1_party_known v_p1_kept_size v_p1_kept_list v_p1_kept_told v_p1_kept_kinds v_p1_kept_costs v_p1_kept_terms v_p1_kept_known v_p1_tape_length v_p1_tape_place v_p1_tape_fault v_p1_tape_teller v_p1_tape_word v_p1_tape_bytes v_p1_telephone_queue v_p1_telephone_callsTo v_p1_telephone_firstCalled v_p1_sheets0_bits v_p1_sheets0_size v_p1_sheets0_numbers v_p1_sheets1_bits v_p1_sheets1_size v_p1_sheets1_numbers v_p1_sheets2_bits v_p1_sheets2_size v_p1_sheets2_numbers v_p1_sheets3_bits v_p1_sheets3_size v_p1_sheets3_numbers v_p1_findings v_p2_isKept v_p2_taped v_p2_at v_p2_fault v_p2_laid v_p2_open v_p2_s v_p2_keptS v_p2_statuses v_p2_pile v_p2_tape v_p2_steps v_p2_wish v_p2_mark v_p2_bitsOf v_p2_sizeOf v_p2_number v_p2_moved x1 x2 hI
  obtain ⟨⟨n, l, kd, cc, Hh, R, K⟩, R2, ik, T, H, F⟩ := hI
  refine Both.step (op_turn R K F x1 x2) (fun k1 k2 h => ?_)
  obtain ⟨⟨kd, R, K⟩, F⟩ := h
  exact ⟨⟨n, l, kd, cc, Hh, R, K⟩, R2, ik, T, H, F⟩
theorem st_as : S_as IVr IVr := by
  intro v_p1_isKept v_p1_party_size v_p1_party_list v_p1_party_told v_p1_party_kinds v_p1_party_costs v_p1_party_terms v_p1_party_known v_p1_kept_size v_p1_kept_list v_p1_kept_told v_p1_kept_kinds v_p1_kept_costs v_p1_kept_terms v_p1_kept_known v_p1_tape_length v_p1_tape_place v_p1_tape_fault v_p1_tape_teller v_p1_tape_word v_p1_tape_bytes v_p1_telephone_queue v_p1_telephone_callsTo v_p1_telephone_firstCalled v_p1_sheets0_bits v_p1_sheets0_size v_p1_sheets0_numbers v_p1_sheets1_bits v_p1_sheets1_size v_p1_sheets1_numbers v_p1_sheets2_bits v_p1_sheets2_size v_p1_sheets2_numbers v_p1_sheets3_bits v_p1_sheets3_size v_p1_sheets3_numbers v_p1_findings v_p2_isKept v_p2_taped v_p2_at v_p2_fault v_p2_laid v_p2_open v_p2_s v_p2_keptS v_p2_statuses v_p2_pile v_p2_tape v_p2_steps v_p2_wish v_p2_mark v_p2_bitsOf v_p2_sizeOf v_p2_number v_p2_moved x1 x2 hI
  obtain ⟨⟨n, l, kd, cc, Hh, R, K⟩, R2, ik, T, H, F⟩ := hI
  refine Both.step (op_as R F x1 x2) (fun k1 k2 h => ?_)
  have F := h
  exact ⟨⟨n, l, kd, cc, Hh, R, K⟩, R2, ik, T, H, F⟩
theorem st_term : S_term IVr IVr := by
  intro v_p1_isKept v_p1_party_size v_p1_party_list v_p1_party_told v_p1_party_kinds v_p1_party_costs v_p1_party_terms v_p1_party_known v_p1_kept_size v_p1_kept_list v_p1_kept_told v_p1_kept_kinds v_p1_kept_costs v_p1_kept_terms v_p1_kept_known v_p1_tape_length v_p1_tape_place v_p1_tape_fault v_p1_tape_teller v_p1_tape_word v_p1_tape_bytes v_p1_telephone_queue v_p1_telephone_callsTo v_p1_telephone_firstCalled v_p1_sheets0_bits v_p1_sheets0_size v_p1_sheets0_numbers v_p1_sheets1_bits v_p1_sheets1_size v_p1_sheets1_numbers v_p1_sheets2_bits v_p1_sheets2_size v_p1_sheets2_numbers v_p1_sheets3_bits v_p1_sheets3_size v_p1_sheets3_numbers v_p1_findings v_p2_isKept v_p2_taped v_p2_at v_p2_fault v_p2_laid v_p2_open v_p2_s v_p2_keptS v_p2_statuses v_p2_pile v_p2_tape v_p2_steps v_p2_wish v_p2_mark v_p2_bitsOf v_p2_sizeOf v_p2_number v_p2_moved x1 hI
  obtain ⟨⟨n, l, kd, cc, Hh, R, K⟩, R2, ik, ⟨t, T⟩, H, F⟩ := hI
  refine Both.step (op_term R K T F x1) (fun k1 k2 h => ?_)
  obtain ⟨⟨Hh, R, K⟩, T, F⟩ := h
  exact ⟨⟨n, l, kd, cc, Hh, R, K⟩, R2, ik, T, H, F⟩
theorem st_feed : S_feed IVr IVr := by
  intro v_p1_isKept v_p1_party_size v_p1_party_list v_p1_party_told v_p1_party_kinds v_p1_party_costs v_p1_party_terms v_p1_party_known v_p1_kept_size v_p1_kept_list v_p1_kept_told v_p1_kept_kinds v_p1_kept_costs v_p1_kept_terms v_p1_kept_known v_p1_tape_length v_p1_tape_place v_p1_tape_fault v_p1_tape_teller v_p1_tape_word v_p1_tape_bytes v_p1_telephone_queue v_p1_telephone_callsTo v_p1_telephone_firstCalled v_p1_sheets0_bits v_p1_sheets0_size v_p1_sheets0_numbers v_p1_sheets1_bits v_p1_sheets1_size v_p1_sheets1_numbers v_p1_sheets2_bits v_p1_sheets2_size v_p1_sheets2_numbers v_p1_sheets3_bits v_p1_sheets3_size v_p1_sheets3_numbers v_p1_findings v_p2_isKept v_p2_taped v_p2_at v_p2_fault v_p2_laid v_p2_open v_p2_s v_p2_keptS v_p2_statuses v_p2_pile v_p2_tape v_p2_steps v_p2_wish v_p2_mark v_p2_bitsOf v_p2_sizeOf v_p2_number v_p2_moved x1 x2 hI
  obtain ⟨⟨n, l, kd, cc, Hh, R, K⟩, R2, ik, ⟨t, T⟩, H, F⟩ := hI
  refine Both.step (op_feed T F x1 x2) (fun k1 k2 h => ?_)
  obtain ⟨⟨t, T⟩, F⟩ := h
  exact ⟨⟨n, l, kd, cc, Hh, R, K⟩, R2, ik, ⟨t, T⟩, H, F⟩
theorem st_wipe : S_wipe IVr IVr := by
  intro v_p1_isKept v_p1_party_size v_p1_party_list v_p1_party_told v_p1_party_kinds v_p1_party_costs v_p1_party_terms v_p1_party_known v_p1_kept_size v_p1_kept_list v_p1_kept_told v_p1_kept_kinds v_p1_kept_costs v_p1_kept_terms v_p1_kept_known v_p1_tape_length v_p1_tape_place v_p1_tape_fault v_p1_tape_teller v_p1_tape_word v_p1_tape_bytes v_p1_telephone_queue v_p1_telephone_callsTo v_p1_telephone_firstCalled v_p1_sheets0_bits v_p1_sheets0_size v_p1_sheets0_numbers v_p1_sheets1_bits v_p1_sheets1_size v_p1_sheets1_numbers v_p1_sheets2_bits v_p1_sheets2_size v_p1_sheets2_numbers v_p1_sheets3_bits v_p1_sheets3_size v_p1_sheets3_numbers v_p1_findings v_p2_isKept v_p2_taped v_p2_at v_p2_fault v_p2_laid v_p2_open v_p2_s v_p2_keptS v_p2_statuses v_p2_pile v_p2_tape v_p2_steps v_p2_wish v_p2_mark v_p2_bitsOf v_p2_sizeOf v_p2_number v_p2_moved hI
  obtain ⟨⟨n, l, kd, cc, Hh, R, K⟩, R2, ik, T, H, F⟩ := hI
  obtain ⟨t, -, T1, T2, -⟩ := T
  exact ⟨_, _, _, _, rfl, rfl, T1.trans T2.symm, ⟨⟨n, l, kd, cc, Hh, R, K⟩, R2, ik, ⟨0, by omega, rfl, rfl, fun j hj => absurd hj (by omega)⟩, H, F⟩⟩
theorem st_list : S_list IVr IVr := by
  intro v_p1_isKept v_p1_party_size v_p1_party_list v_p1_party_told v_p1_party_kinds v_p1_party_costs v_p1_party_terms v_p1_party_known v_p1_kept_size v_p1_kept_list v_p1_kept_told v_p1_kept_kinds v_p1_kept_costs v_p1_kept_terms v_p1_kept_known v_p1_tape_length v_p1_tape_place v_p1_tape_fault v_p1_tape_teller v_p1_tape_word v_p1_tape_bytes v_p1_telephone_queue v_p1_telephone_callsTo v_p1_telephone_firstCalled v_p1_sheets0_bits v_p1_sheets0_size v_p1_sheets0_numbers v_p1_sheets1_bits v_p1_sheets1_size v_p1_sheets1_numbers v_p1_sheets2_bits v_p1_sheets2_size v_p1_sheets2_numbers v_p1_sheets3_bits v_p1_sheets3_size v_p1_sheets3_numbers v_p1_findings v_p2_isKept v_p2_taped v_p2_at v_p2_fault v_p2_laid v_p2_open v_p2_s v_p2_keptS v_p2_statuses v_p2_pile v_p2_tape v_p2_steps v_p2_wish v_p2_mark v_p2_bitsOf v_p2_sizeOf v_p2_number v_p2_moved x1 hI
  obtain ⟨⟨n, l, kd, cc, Hh, R, K⟩, R2, ik, T, H, F⟩ := hI
  refine Both.step (op_list R F x1) (fun k1 k2 h => ?_)
  obtain ⟨⟨l, R⟩, F⟩ := h
  exact ⟨⟨n, l, kd, cc, Hh, R, K⟩, R2, ik, T, H, F⟩
theorem st_now : S_now IVr IVr := by
  intro v_p1_isKept v_p1_party_size v_p1_party_list v_p1_party_told v_p1_party_kinds v_p1_party_costs v_p1_party_terms v_p1_party_known v_p1_kept_size v_p1_kept_list v_p1_kept_told v_p1_kept_kinds v_p1_kept_costs v_p1_kept_terms v_p1_kept_known v_p1_tape_length v_p1_tape_place v_p1_tape_fault v_p1_tape_teller v_p1_tape_word v_p1_tape_bytes v_p1_telephone_queue v_p1_telephone_callsTo v_p1_telephone_firstCalled v_p1_sheets0_bits v_p1_sheets0_size v_p1_sheets0_numbers v_p1_sheets1_bits v_p1_sheets1_size v_p1_sheets1_numbers v_p1_sheets2_bits v_p1_sheets2_size v_p1_sheets2_numbers v_p1_sheets3_bits v_p1_sheets3_size v_p1_sheets3_numbers v_p1_findings v_p2_isKept v_p2_taped v_p2_at v_p2_fault v_p2_laid v_p2_open v_p2_s v_p2_keptS v_p2_statuses v_p2_pile v_p2_tape v_p2_steps v_p2_wish v_p2_mark v_p2_bitsOf v_p2_sizeOf v_p2_number v_p2_moved x1 hI
  obtain ⟨⟨n, l, kd, cc, Hh, R, K⟩, R2, ik, T, H, F⟩ := hI
  refine Both.step (op_now R K F x1) (fun k1 k2 h => ?_)
  obtain ⟨K, F⟩ := h
  exact ⟨⟨n, l, kd, cc, Hh, R, K⟩, R2, ik, T, H, F⟩
theorem st_call : S_call IVr IVr := by
  intro v_p1_isKept v_p1_party_size v_p1_party_list v_p1_party_told v_p1_party_kinds v_p1_party_costs v_p1_party_terms v_p1_party_known v_p1_kept_size v_p1_kept_list v_p1_kept_told v_p1_kept_kinds v_p1_kept_costs v_p1_kept_terms v_p1_kept_known v_p1_tape_length v_p1_tape_place v_p1_tape_fault v_p1_tape_teller v_p1_tape_word v_p1_tape_bytes v_p1_telephone_queue v_p1_telephone_callsTo v_p1_telephone_firstCalled v_p1_sheets0_bits v_p1_sheets0_size v_p1_sheets0_numbers v_p1_sheets1_bits v_p1_sheets1_size v_p1_sheets1_numbers v_p1_sheets2_bits v_p1_sheets2_size v_p1_sheets2_numbers v_p1_sheets3_bits v_p1_sheets3_size v_p1_sheets3_numbers v_p1_findings v_p2_isKept v_p2_taped v_p2_at v_p2_fault v_p2_laid v_p2_open v_p2_s v_p2_keptS v_p2_statuses v_p2_pile v_p2_tape v_p2_steps v_p2_wish v_p2_mark v_p2_bitsOf v_p2_sizeOf v_p2_number v_p2_moved x1 hI
  obtain ⟨⟨n, l, kd, cc, Hh, R, K⟩, R2, ik, T, H, F⟩ := hI
  refine Both.step (op_call R K F x1) (fun k1 k2 h => ?_)
  obtain ⟨⟨l, R⟩, K, F⟩ := h
  exact ⟨⟨n, l, kd, cc, Hh, R, K⟩, R2, ik, T, H, F⟩
theorem st_calls : S_calls IVr IVr := by
  intro v_p1_isKept v_p1_party_size v_p1_party_list v_p1_party_told v_p1_party_kinds v_p1_party_costs v_p1_party_terms v_p1_party_known v_p1_kept_size v_p1_kept_list v_p1_kept_told v_p1_kept_kinds v_p1_kept_costs v_p1_kept_terms v_p1_kept_known v_p1_tape_length v_p1_tape_place v_p1_tape_fault v_p1_tape_teller v_p1_tape_word v_p1_tape_bytes v_p1_telephone_queue v_p1_telephone_callsTo v_p1_telephone_firstCalled v_p1_sheets0_bits v_p1_sheets0_size v_p1_sheets0_numbers v_p1_sheets1_bits v_p1_sheets1_size v_p1_sheets1_numbers v_p1_sheets2_bits v_p1_sheets2_size v_p1_sheets2_numbers v_p1_sheets3_bits v_p1_sheets3_size v_p1_sheets3_numbers v_p1_findings v_p2_isKept v_p2_taped v_p2_at v_p2_fault v_p2_laid v_p2_open v_p2_s v_p2_keptS v_p2_statuses v_p2_pile v_p2_tape v_p2_steps v_p2_wish v_p2_mark v_p2_bitsOf v_p2_sizeOf v_p2_number v_p2_moved x1 hI
  obtain ⟨⟨n, l, kd, cc, Hh, R, K⟩, R2, ik, T, H, F⟩ := hI
  refine Both.step (op_calls R K F x1) (fun k1 k2 h => ?_)
  obtain ⟨⟨l, R⟩, K, F⟩ := h
  exact ⟨⟨n, l, kd, cc, Hh, R, K⟩, R2, ik, T, H, F⟩
theorem st_rounds : S_rounds IVr IVr := by
  intro v_p1_isKept v_p1_party_size v_p1_party_list v_p1_party_told v_p1_party_kinds v_p1_party_costs v_p1_party_terms v_p1_party_known v_p1_kept_size v_p1_kept_list v_p1_kept_told v_p1_kept_kinds v_p1_kept_costs v_p1_kept_terms v_p1_kept_known v_p1_tape_length v_p1_tape_place v_p1_tape_fault v_p1_tape_teller v_p1_tape_word v_p1_tape_bytes v_p1_telephone_queue v_p1_telephone_callsTo v_p1_telephone_firstCalled v_p1_sheets0_bits v_p1_sheets0_size v_p1_sheets0_numbers v_p1_sheets1_bits v_p1_sheets1_size v_p1_sheets1_numbers v_p1_sheets2_bits v_p1_sheets2_size v_p1_sheets2_numbers v_p1_sheets3_bits v_p1_sheets3_size v_p1_sheets3_numbers v_p1_findings v_p2_isKept v_p2_taped v_p2_at v_p2_fault v_p2_laid v_p2_open v_p2_s v_p2_keptS v_p2_statuses v_p2_pile v_p2_tape v_p2_steps v_p2_wish v_p2_mark v_p2_bitsOf v_p2_sizeOf v_p2_number v_p2_moved x1 hI
  obtain ⟨⟨n, l, kd, cc, Hh, R, K⟩, R2, ik, T, H, F⟩ := hI
  refine Both.step (op_rounds R K F x1) (fun k1 k2 h => ?_)
  obtain ⟨⟨l, R⟩, K, F⟩ := h
  exact ⟨⟨n, l, kd, cc, Hh, R, K⟩, R2, ik, T, H, F⟩
theorem st_on : S_on IVr IVr := by
  intro v_p1_isKept v_p1_party_size v_p1_party_list v_p1_party_told v_p1_party_kinds v_p1_party_costs v_p1_party_terms v_p1_party_known v_p1_kept_size v_p1_kept_list v_p1_kept_told v_p1_kept_kinds v_p1_kept_costs v_p1_kept_terms v_p1_kept_known v_p1_tape_length v_p1_tape_place v_p1_tape_fault v_p1_tape_teller v_p1_tape_word v_p1_tape_bytes v_p1_telephone_queue v_p1_telephone_callsTo v_p1_telephone_firstCalled v_p1_sheets0_bits v_p1_sheets0_size v_p1_sheets0_numbers v_p1_sheets1_bits v_p1_sheets1_size v_p1_sheets1_numbers v_p1_sheets2_bits v_p1_sheets2_size v_p1_sheets2_numbers v_p1_sheets3_bits v_p1_sheets3_size v_p1_sheets3_numbers v_p1_findings v_p2_isKept v_p2_taped v_p2_at v_p2_fault v_p2_laid v_p2_open v_p2_s v_p2_keptS v_p2_statuses v_p2_pile v_p2_tape v_p2_steps v_p2_wish v_p2_mark v_p2_bitsOf v_p2_sizeOf v_p2_number v_p2_moved x1 hI
  obtain ⟨⟨n, l, kd, cc, Hh, R, K⟩, R2, ik, T, H, F⟩ := hI
  refine Both.step (op_on R K F x1) (fun k1 k2 h => ?_)
  obtain ⟨K, F⟩ := h
  exact ⟨⟨n, l, kd, cc, Hh, R, K⟩, R2, ik, T, H, F⟩
theorem st_when : S_when IVr IVr := by
  intro v_p1_isKept v_p1_party_size v_p1_party_list v_p1_party_told v_p1_party_kinds v_p1_party_costs v_p1_party_terms v_p1_party_known v_p1_kept_size v_p1_kept_list v_p1_kept_told v_p1_kept_kinds v_p1_kept_costs v_p1_kept_terms v_p1_kept_known v_p1_tape_length v_p1_tape_place v_p1_tape_fault v_p1_tape_teller v_p1_tape_word v_p1_tape_bytes v_p1_telephone_queue v_p1_telephone_callsTo v_p1_telephone_firstCalled v_p1_sheets0_bits v_p1_sheets0_size v_p1_sheets0_numbers v_p1_sheets1_bits v_p1_sheets1_size v_p1_sheets1_numbers v_p1_sheets2_bits v_p1_sheets2_size v_p1_sheets2_numbers v_p1_sheets3_bits v_p1_sheets3_size v_p1_sheets3_numbers v_p1_findings v_p2_isKept v_p2_taped v_p2_at v_p2_fault v_p2_laid v_p2_open v_p2_s v_p2_keptS v_p2_statuses v_p2_pile v_p2_tape v_p2_steps v_p2_wish v_p2_mark v_p2_bitsOf v_p2_sizeOf v_p2_number v_p2_moved hI
  obtain ⟨⟨n, l, kd, cc, Hh, R, K⟩, R2, ik, T, H, F⟩ := hI
  refine Both.step (op_when R K F) (fun k1 k2 h => ?_)
  obtain ⟨K, F⟩ := h
  exact ⟨⟨n, l, kd, cc, Hh, R, K⟩, R2, ik, T, H, F⟩
theorem st_ring : S_ring IVr IVr := by
  intro v_p1_isKept v_p1_party_size v_p1_party_list v_p1_party_told v_p1_party_kinds v_p1_party_costs v_p1_party_terms v_p1_party_known v_p1_kept_size v_p1_kept_list v_p1_kept_told v_p1_kept_kinds v_p1_kept_costs v_p1_kept_terms v_p1_kept_known v_p1_tape_length v_p1_tape_place v_p1_tape_fault v_p1_tape_teller v_p1_tape_word v_p1_tape_bytes v_p1_telephone_queue v_p1_telephone_callsTo v_p1_telephone_firstCalled v_p1_sheets0_bits v_p1_sheets0_size v_p1_sheets0_numbers v_p1_sheets1_bits v_p1_sheets1_size v_p1_sheets1_numbers v_p1_sheets2_bits v_p1_sheets2_size v_p1_sheets2_numbers v_p1_sheets3_bits v_p1_sheets3_size v_p1_sheets3_numbers v_p1_findings v_p2_isKept v_p2_taped v_p2_at v_p2_fault v_p2_laid v_p2_open v_p2_s v_p2_keptS v_p2_statuses v_p2_pile v_p2_tape v_p2_steps v_p2_wish v_p2_mark v_p2_bitsOf v_p2_sizeOf v_p2_number v_p2_moved x1 hI
  obtain ⟨⟨n, l, kd, cc, Hh, R, K⟩, R2, ik, T, H, F⟩ := hI
  refine Both.step (op_ring R K F x1) (fun k1 k2 h => ?_)
  obtain ⟨K, F⟩ := h
  exact ⟨⟨n, l, kd, cc, Hh, R, K⟩, R2, ik, T, H, F⟩
theorem st_fewest : S_fewest IVr IVr := by
  intro v_p1_isKept v_p1_party_size v_p1_party_list v_p1_party_told v_p1_party_kinds v_p1_party_costs v_p1_party_terms v_p1_party_known v_p1_kept_size v_p1_kept_list v_p1_kept_told v_p1_kept_kinds v_p1_kept_costs v_p1_kept_terms v_p1_kept_known v_p1_tape_length v_p1_tape_place v_p1_tape_fault v_p1_tape_teller v_p1_tape_word v_p1_tape_bytes v_p1_telephone_queue v_p1_telephone_callsTo v_p1_telephone_firstCalled v_p1_sheets0_bits v_p1_sheets0_size v_p1_sheets0_numbers v_p1_sheets1_bits v_p1_sheets1_size v_p1_sheets1_numbers v_p1_sheets2_bits v_p1_sheets2_size v_p1_sheets2_numbers v_p1_sheets3_bits v_p1_sheets3_size v_p1_sheets3_numbers v_p1_findings v_p2_isKept v_p2_taped v_p2_at v_p2_fault v_p2_laid v_p2_open v_p2_s v_p2_keptS v_p2_statuses v_p2_pile v_p2_tape v_p2_steps v_p2_wish v_p2_mark v_p2_bitsOf v_p2_sizeOf v_p2_number v_p2_moved hI
  obtain ⟨⟨n, l, kd, cc, Hh, R, K⟩, R2, ik, T, H, F⟩ := hI
  refine Both.step (op_fewest R K F) (fun k1 k2 h => ?_)
  obtain ⟨K, F⟩ := h
  exact ⟨⟨n, l, kd, cc, Hh, R, K⟩, R2, ik, T, H, F⟩
theorem st_first : S_first IVr IVr := by
  intro v_p1_isKept v_p1_party_size v_p1_party_list v_p1_party_told v_p1_party_kinds v_p1_party_costs v_p1_party_terms v_p1_party_known v_p1_kept_size v_p1_kept_list v_p1_kept_told v_p1_kept_kinds v_p1_kept_costs v_p1_kept_terms v_p1_kept_known v_p1_tape_length v_p1_tape_place v_p1_tape_fault v_p1_tape_teller v_p1_tape_word v_p1_tape_bytes v_p1_telephone_queue v_p1_telephone_callsTo v_p1_telephone_firstCalled v_p1_sheets0_bits v_p1_sheets0_size v_p1_sheets0_numbers v_p1_sheets1_bits v_p1_sheets1_size v_p1_sheets1_numbers v_p1_sheets2_bits v_p1_sheets2_size v_p1_sheets2_numbers v_p1_sheets3_bits v_p1_sheets3_size v_p1_sheets3_numbers v_p1_findings v_p2_isKept v_p2_taped v_p2_at v_p2_fault v_p2_laid v_p2_open v_p2_s v_p2_keptS v_p2_statuses v_p2_pile v_p2_tape v_p2_steps v_p2_wish v_p2_mark v_p2_bitsOf v_p2_sizeOf v_p2_number v_p2_moved hI
  obtain ⟨⟨n, l, kd, cc, Hh, R, K⟩, R2, ik, T, H, F⟩ := hI
  refine Both.step (op_first R K F) (fun k1 k2 h => ?_)
  obtain ⟨K, F⟩ := h
  exact ⟨⟨n, l, kd, cc, Hh, R, K⟩, R2, ik, T, H, F⟩
theorem st_settled : S_settled IVr IVr := by
  intro v_p1_isKept v_p1_party_size v_p1_party_list v_p1_party_told v_p1_party_kinds v_p1_party_costs v_p1_party_terms v_p1_party_known v_p1_kept_size v_p1_kept_list v_p1_kept_told v_p1_kept_kinds v_p1_kept_costs v_p1_kept_terms v_p1_kept_known v_p1_tape_length v_p1_tape_place v_p1_tape_fault v_p1_tape_teller v_p1_tape_word v_p1_tape_bytes v_p1_telephone_queue v_p1_telephone_callsTo v_p1_telephone_firstCalled v_p1_sheets0_bits v_p1_sheets0_size v_p1_sheets0_numbers v_p1_sheets1_bits v_p1_sheets1_size v_p1_sheets1_numbers v_p1_sheets2_bits v_p1_sheets2_size v_p1_sheets2_numbers v_p1_sheets3_bits v_p1_sheets3_size v_p1_sheets3_numbers v_p1_findings v_p2_isKept v_p2_taped v_p2_at v_p2_fault v_p2_laid v_p2_open v_p2_s v_p2_keptS v_p2_statuses v_p2_pile v_p2_tape v_p2_steps v_p2_wish v_p2_mark v_p2_bitsOf v_p2_sizeOf v_p2_number v_p2_moved hI
  obtain ⟨⟨n, l, kd, cc, Hh, R, K⟩, R2, ik, T, H, F⟩ := hI
  refine Both.step (op_settled R K) (fun k1 k2 h => ?_)
  have K := h
  exact ⟨⟨n, l, kd, cc, Hh, R, K⟩, R2, ik, T, H, F⟩
theorem st_ith : S_ith IVr IVr := by
  intro v_p1_isKept v_p1_party_size v_p1_party_list v_p1_party_told v_p1_party_kinds v_p1_party_costs v_p1_party_terms v_p1_party_known v_p1_kept_size v_p1_kept_list v_p1_kept_told v_p1_kept_kinds v_p1_kept_costs v_p1_kept_terms v_p1_kept_known v_p1_tape_length v_p1_tape_place v_p1_tape_fault v_p1_tape_teller v_p1_tape_word v_p1_tape_bytes v_p1_telephone_queue v_p1_telephone_callsTo v_p1_telephone_firstCalled v_p1_sheets0_bits v_p1_sheets0_size v_p1_sheets0_numbers v_p1_sheets1_bits v_p1_sheets1_size v_p1_sheets1_numbers v_p1_sheets2_bits v_p1_sheets2_size v_p1_sheets2_numbers v_p1_sheets3_bits v_p1_sheets3_size v_p1_sheets3_numbers v_p1_findings v_p2_isKept v_p2_taped v_p2_at v_p2_fault v_p2_laid v_p2_open v_p2_s v_p2_keptS v_p2_statuses v_p2_pile v_p2_tape v_p2_steps v_p2_wish v_p2_mark v_p2_bitsOf v_p2_sizeOf v_p2_number v_p2_moved x1 hI
  obtain ⟨⟨n, l, kd, cc, Hh, R, K⟩, R2, ik, T, H, F⟩ := hI
  refine Both.step (op_ith R K F x1) (fun k1 k2 h => ?_)
  obtain ⟨K, F⟩ := h
  exact ⟨⟨n, l, kd, cc, Hh, R, K⟩, R2, ik, T, H, F⟩
theorem st_sure : S_sure IVr IVr := by
  intro v_p1_isKept v_p1_party_size v_p1_party_list v_p1_party_told v_p1_party_kinds v_p1_party_costs v_p1_party_terms v_p1_party_known v_p1_kept_size v_p1_kept_list v_p1_kept_told v_p1_kept_kinds v_p1_kept_costs v_p1_kept_terms v_p1_kept_known v_p1_tape_length v_p1_tape_place v_p1_tape_fault v_p1_tape_teller v_p1_tape_word v_p1_tape_bytes v_p1_telephone_queue v_p1_telephone_callsTo v_p1_telephone_firstCalled v_p1_sheets0_bits v_p1_sheets0_size v_p1_sheets0_numbers v_p1_sheets1_bits v_p1_sheets1_size v_p1_sheets1_numbers v_p1_sheets2_bits v_p1_sheets2_size v_p1_sheets2_numbers v_p1_sheets3_bits v_p1_sheets3_size v_p1_sheets3_numbers v_p1_findings v_p2_isKept v_p2_taped v_p2_at v_p2_fault v_p2_laid v_p2_open v_p2_s v_p2_keptS v_p2_statuses v_p2_pile v_p2_tape v_p2_steps v_p2_wish v_p2_mark v_p2_bitsOf v_p2_sizeOf v_p2_number v_p2_moved x1 hI
  obtain ⟨⟨n, l, kd, cc, Hh, R, K⟩, R2, ik, T, H, F⟩ := hI
  refine Both.step (op_sure R K F x1) (fun k1 k2 h => ?_)
  obtain ⟨K, F⟩ := h
  exact ⟨⟨n, l, kd, cc, Hh, R, K⟩, R2, ik, T, H, F⟩
theorem st_basin : S_basin IVr IVr := by
  intro v_p1_isKept v_p1_party_size v_p1_party_list v_p1_party_told v_p1_party_kinds v_p1_party_costs v_p1_party_terms v_p1_party_known v_p1_kept_size v_p1_kept_list v_p1_kept_told v_p1_kept_kinds v_p1_kept_costs v_p1_kept_terms v_p1_kept_known v_p1_tape_length v_p1_tape_place v_p1_tape_fault v_p1_tape_teller v_p1_tape_word v_p1_tape_bytes v_p1_telephone_queue v_p1_telephone_callsTo v_p1_telephone_firstCalled v_p1_sheets0_bits v_p1_sheets0_size v_p1_sheets0_numbers v_p1_sheets1_bits v_p1_sheets1_size v_p1_sheets1_numbers v_p1_sheets2_bits v_p1_sheets2_size v_p1_sheets2_numbers v_p1_sheets3_bits v_p1_sheets3_size v_p1_sheets3_numbers v_p1_findings v_p2_isKept v_p2_taped v_p2_at v_p2_fault v_p2_laid v_p2_open v_p2_s v_p2_keptS v_p2_statuses v_p2_pile v_p2_tape v_p2_steps v_p2_wish v_p2_mark v_p2_bitsOf v_p2_sizeOf v_p2_number v_p2_moved hI
  obtain ⟨⟨n, l, kd, cc, Hh, R, K⟩, R2, ik, T, H, F⟩ := hI
  refine Both.step (op_basin R K) (fun k1 k2 h => ?_)
  have K := h
  exact ⟨⟨n, l, kd, cc, Hh, R, K⟩, R2, ik, T, H, F⟩
theorem st_odds : S_odds IVr IVr := by
  intro v_p1_isKept v_p1_party_size v_p1_party_list v_p1_party_told v_p1_party_kinds v_p1_party_costs v_p1_party_terms v_p1_party_known v_p1_kept_size v_p1_kept_list v_p1_kept_told v_p1_kept_kinds v_p1_kept_costs v_p1_kept_terms v_p1_kept_known v_p1_tape_length v_p1_tape_place v_p1_tape_fault v_p1_tape_teller v_p1_tape_word v_p1_tape_bytes v_p1_telephone_queue v_p1_telephone_callsTo v_p1_telephone_firstCalled v_p1_sheets0_bits v_p1_sheets0_size v_p1_sheets0_numbers v_p1_sheets1_bits v_p1_sheets1_size v_p1_sheets1_numbers v_p1_sheets2_bits v_p1_sheets2_size v_p1_sheets2_numbers v_p1_sheets3_bits v_p1_sheets3_size v_p1_sheets3_numbers v_p1_findings v_p2_isKept v_p2_taped v_p2_at v_p2_fault v_p2_laid v_p2_open v_p2_s v_p2_keptS v_p2_statuses v_p2_pile v_p2_tape v_p2_steps v_p2_wish v_p2_mark v_p2_bitsOf v_p2_sizeOf v_p2_number v_p2_moved x1 x2 hI
  obtain ⟨⟨n, l, kd, cc, Hh, R, K⟩, R2, ik, T, H, F⟩ := hI
  refine Both.step (op_odds R K F x1 x2) (fun k1 k2 h => ?_)
  obtain ⟨K, F⟩ := h
  exact ⟨⟨n, l, kd, cc, Hh, R, K⟩, R2, ik, T, H, F⟩
theorem st_last : S_last IVr IVr := by
  intro v_p1_isKept v_p1_party_size v_p1_party_list v_p1_party_told v_p1_party_kinds v_p1_party_costs v_p1_party_terms v_p1_party_known v_p1_kept_size v_p1_kept_list v_p1_kept_told v_p1_kept_kinds v_p1_kept_costs v_p1_kept_terms v_p1_kept_known v_p1_tape_length v_p1_tape_place v_p1_tape_fault v_p1_tape_teller v_p1_tape_word v_p1_tape_bytes v_p1_telephone_queue v_p1_telephone_callsTo v_p1_telephone_firstCalled v_p1_sheets0_bits v_p1_sheets0_size v_p1_sheets0_numbers v_p1_sheets1_bits v_p1_sheets1_size v_p1_sheets1_numbers v_p1_sheets2_bits v_p1_sheets2_size v_p1_sheets2_numbers v_p1_sheets3_bits v_p1_sheets3_size v_p1_sheets3_numbers v_p1_findings v_p2_isKept v_p2_taped v_p2_at v_p2_fault v_p2_laid v_p2_open v_p2_s v_p2_keptS v_p2_statuses v_p2_pile v_p2_tape v_p2_steps v_p2_wish v_p2_mark v_p2_bitsOf v_p2_sizeOf v_p2_number v_p2_moved x1 hI
  obtain ⟨⟨n, l, kd, cc, Hh, R, K⟩, R2, ik, T, H, F⟩ := hI
  refine Both.step (op_last R K F x1) (fun k1 k2 h => ?_)
  obtain ⟨K, F⟩ := h
  exact ⟨⟨n, l, kd, cc, Hh, R, K⟩, R2, ik, T, H, F⟩
theorem st_buys : S_buys IVr IVr := by
  intro v_p1_isKept v_p1_party_size v_p1_party_list v_p1_party_told v_p1_party_kinds v_p1_party_costs v_p1_party_terms v_p1_party_known v_p1_kept_size v_p1_kept_list v_p1_kept_told v_p1_kept_kinds v_p1_kept_costs v_p1_kept_terms v_p1_kept_known v_p1_tape_length v_p1_tape_place v_p1_tape_fault v_p1_tape_teller v_p1_tape_word v_p1_tape_bytes v_p1_telephone_queue v_p1_telephone_callsTo v_p1_telephone_firstCalled v_p1_sheets0_bits v_p1_sheets0_size v_p1_sheets0_numbers v_p1_sheets1_bits v_p1_sheets1_size v_p1_sheets1_numbers v_p1_sheets2_bits v_p1_sheets2_size v_p1_sheets2_numbers v_p1_sheets3_bits v_p1_sheets3_size v_p1_sheets3_numbers v_p1_findings v_p2_isKept v_p2_taped v_p2_at v_p2_fault v_p2_laid v_p2_open v_p2_s v_p2_keptS v_p2_statuses v_p2_pile v_p2_tape v_p2_steps v_p2_wish v_p2_mark v_p2_bitsOf v_p2_sizeOf v_p2_number v_p2_moved x1 hI
  obtain ⟨⟨n, l, kd, cc, Hh, R, K⟩, R2, ik, T, H, F⟩ := hI
  refine Both.step (op_buys R K F x1) (fun k1 k2 h => ?_)
  obtain ⟨K, F⟩ := h
  exact ⟨⟨n, l, kd, cc, Hh, R, K⟩, R2, ik, T, H, F⟩
theorem st_price : S_price IVr IVr := by
  intro v_p1_isKept v_p1_party_size v_p1_party_list v_p1_party_told v_p1_party_kinds v_p1_party_costs v_p1_party_terms v_p1_party_known v_p1_kept_size v_p1_kept_list v_p1_kept_told v_p1_kept_kinds v_p1_kept_costs v_p1_kept_terms v_p1_kept_known v_p1_tape_length v_p1_tape_place v_p1_tape_fault v_p1_tape_teller v_p1_tape_word v_p1_tape_bytes v_p1_telephone_queue v_p1_telephone_callsTo v_p1_telephone_firstCalled v_p1_sheets0_bits v_p1_sheets0_size v_p1_sheets0_numbers v_p1_sheets1_bits v_p1_sheets1_size v_p1_sheets1_numbers v_p1_sheets2_bits v_p1_sheets2_size v_p1_sheets2_numbers v_p1_sheets3_bits v_p1_sheets3_size v_p1_sheets3_numbers v_p1_findings v_p2_isKept v_p2_taped v_p2_at v_p2_fault v_p2_laid v_p2_open v_p2_s v_p2_keptS v_p2_statuses v_p2_pile v_p2_tape v_p2_steps v_p2_wish v_p2_mark v_p2_bitsOf v_p2_sizeOf v_p2_number v_p2_moved x1 hI
  obtain ⟨⟨n, l, kd, cc, Hh, R, K⟩, R2, ik, T, H, F⟩ := hI
  refine Both.step (op_price R K F x1) (fun k1 k2 h => ?_)
  obtain ⟨K, F⟩ := h
  exact ⟨⟨n, l, kd, cc, Hh, R, K⟩, R2, ik, T, H, F⟩
theorem st_spoils : S_spoils IVr IVr := by
  intro v_p1_isKept v_p1_party_size v_p1_party_list v_p1_party_told v_p1_party_kinds v_p1_party_costs v_p1_party_terms v_p1_party_known v_p1_kept_size v_p1_kept_list v_p1_kept_told v_p1_kept_kinds v_p1_kept_costs v_p1_kept_terms v_p1_kept_known v_p1_tape_length v_p1_tape_place v_p1_tape_fault v_p1_tape_teller v_p1_tape_word v_p1_tape_bytes v_p1_telephone_queue v_p1_telephone_callsTo v_p1_telephone_firstCalled v_p1_sheets0_bits v_p1_sheets0_size v_p1_sheets0_numbers v_p1_sheets1_bits v_p1_sheets1_size v_p1_sheets1_numbers v_p1_sheets2_bits v_p1_sheets2_size v_p1_sheets2_numbers v_p1_sheets3_bits v_p1_sheets3_size v_p1_sheets3_numbers v_p1_findings v_p2_isKept v_p2_taped v_p2_at v_p2_fault v_p2_laid v_p2_open v_p2_s v_p2_keptS v_p2_statuses v_p2_pile v_p2_tape v_p2_steps v_p2_wish v_p2_mark v_p2_bitsOf v_p2_sizeOf v_p2_number v_p2_moved hI
  obtain ⟨⟨n, l, kd, cc, Hh, R, K⟩, R2, ik, T, H, F⟩ := hI
  refine Both.step (op_spoils R K F) (fun k1 k2 h => ?_)
  obtain ⟨K, F⟩ := h
  exact ⟨⟨n, l, kd, cc, Hh, R, K⟩, R2, ik, T, H, F⟩
theorem st_invites : S_invites IVr IVr := by
  intro v_p1_isKept v_p1_party_size v_p1_party_list v_p1_party_told v_p1_party_kinds v_p1_party_costs v_p1_party_terms v_p1_party_known v_p1_kept_size v_p1_kept_list v_p1_kept_told v_p1_kept_kinds v_p1_kept_costs v_p1_kept_terms v_p1_kept_known v_p1_tape_length v_p1_tape_place v_p1_tape_fault v_p1_tape_teller v_p1_tape_word v_p1_tape_bytes v_p1_telephone_queue v_p1_telephone_callsTo v_p1_telephone_firstCalled v_p1_sheets0_bits v_p1_sheets0_size v_p1_sheets0_numbers v_p1_sheets1_bits v_p1_sheets1_size v_p1_sheets1_numbers v_p1_sheets2_bits v_p1_sheets2_size v_p1_sheets2_numbers v_p1_sheets3_bits v_p1_sheets3_size v_p1_sheets3_numbers v_p1_findings v_p2_isKept v_p2_taped v_p2_at v_p2_fault v_p2_laid v_p2_open v_p2_s v_p2_keptS v_p2_statuses v_p2_pile v_p2_tape v_p2_steps v_p2_wish v_p2_mark v_p2_bitsOf v_p2_sizeOf v_p2_number v_p2_moved x1 x2 hI
  obtain ⟨⟨n, l, kd, cc, Hh, R, K⟩, R2, ik, T, H, F⟩ := hI
  refine Both.step (op_invites R K F x1 x2) (fun k1 k2 h => ?_)
  obtain ⟨K, F⟩ := h
  exact ⟨⟨n, l, kd, cc, Hh, R, K⟩, R2, ik, T, H, F⟩
theorem st_against : S_against IVr IVr := by
  intro v_p1_isKept v_p1_party_size v_p1_party_list v_p1_party_told v_p1_party_kinds v_p1_party_costs v_p1_party_terms v_p1_party_known v_p1_kept_size v_p1_kept_list v_p1_kept_told v_p1_kept_kinds v_p1_kept_costs v_p1_kept_terms v_p1_kept_known v_p1_tape_length v_p1_tape_place v_p1_tape_fault v_p1_tape_teller v_p1_tape_word v_p1_tape_bytes v_p1_telephone_queue v_p1_telephone_callsTo v_p1_telephone_firstCalled v_p1_sheets0_bits v_p1_sheets0_size v_p1_sheets0_numbers v_p1_sheets1_bits v_p1_sheets1_size v_p1_sheets1_numbers v_p1_sheets2_bits v_p1_sheets2_size v_p1_sheets2_numbers v_p1_sheets3_bits v_p1_sheets3_size v_p1_sheets3_numbers v_p1_findings v_p2_isKept v_p2_taped v_p2_at v_p2_fault v_p2_laid v_p2_open v_p2_s v_p2_keptS v_p2_statuses v_p2_pile v_p2_tape v_p2_steps v_p2_wish v_p2_mark v_p2_bitsOf v_p2_sizeOf v_p2_number v_p2_moved x1 x2 hI
  obtain ⟨⟨n, l, kd, cc, Hh, R, K⟩, R2, ik, T, H, F⟩ := hI
  refine Both.step (op_against R K F x1 x2) (fun k1 k2 h => ?_)
  obtain ⟨K, F⟩ := h
  exact ⟨⟨n, l, kd, cc, Hh, R, K⟩, R2, ik, T, H, F⟩
theorem st_minds : S_minds IVr IVr := by
  intro v_p1_isKept v_p1_party_size v_p1_party_list v_p1_party_told v_p1_party_kinds v_p1_party_costs v_p1_party_terms v_p1_party_known v_p1_kept_size v_p1_kept_list v_p1_kept_told v_p1_kept_kinds v_p1_kept_costs v_p1_kept_terms v_p1_kept_known v_p1_tape_length v_p1_tape_place v_p1_tape_fault v_p1_tape_teller v_p1_tape_word v_p1_tape_bytes v_p1_telephone_queue v_p1_telephone_callsTo v_p1_telephone_firstCalled v_p1_sheets0_bits v_p1_sheets0_size v_p1_sheets0_numbers v_p1_sheets1_bits v_p1_sheets1_size v_p1_sheets1_numbers v_p1_sheets2_bits v_p1_sheets2_size v_p1_sheets2_numbers v_p1_sheets3_bits v_p1_sheets3_size v_p1_sheets3_numbers v_p1_findings v_p2_isKept v_p2_taped v_p2_at v_p2_fault v_p2_laid v_p2_open v_p2_s v_p2_keptS v_p2_statuses v_p2_pile v_p2_tape v_p2_steps v_p2_wish v_p2_mark v_p2_bitsOf v_p2_sizeOf v_p2_number v_p2_moved x1 hI
  obtain ⟨⟨n, l, kd, cc, Hh, R, K⟩, R2, ik, T, H, F⟩ := hI
  refine Both.step (op_minds R K F x1) (fun k1 k2 h => ?_)
  obtain ⟨K, F⟩ := h
  exact ⟨⟨n, l, kd, cc, Hh, R, K⟩, R2, ik, T, H, F⟩
theorem st_kind : S_kind IVr IVr := by
  intro v_p1_isKept v_p1_party_size v_p1_party_list v_p1_party_told v_p1_party_kinds v_p1_party_costs v_p1_party_terms v_p1_party_known v_p1_kept_size v_p1_kept_list v_p1_kept_told v_p1_kept_kinds v_p1_kept_costs v_p1_kept_terms v_p1_kept_known v_p1_tape_length v_p1_tape_place v_p1_tape_fault v_p1_tape_teller v_p1_tape_word v_p1_tape_bytes v_p1_telephone_queue v_p1_telephone_callsTo v_p1_telephone_firstCalled v_p1_sheets0_bits v_p1_sheets0_size v_p1_sheets0_numbers v_p1_sheets1_bits v_p1_sheets1_size v_p1_sheets1_numbers v_p1_sheets2_bits v_p1_sheets2_size v_p1_sheets2_numbers v_p1_sheets3_bits v_p1_sheets3_size v_p1_sheets3_numbers v_p1_findings v_p2_isKept v_p2_taped v_p2_at v_p2_fault v_p2_laid v_p2_open v_p2_s v_p2_keptS v_p2_statuses v_p2_pile v_p2_tape v_p2_steps v_p2_wish v_p2_mark v_p2_bitsOf v_p2_sizeOf v_p2_number v_p2_moved x1 hI
  obtain ⟨⟨n, l, kd, cc, Hh, R, K⟩, R2, ik, T, H, F⟩ := hI
  refine Both.step (op_kind R K F x1) (fun k1 k2 h => ?_)
  obtain ⟨K, e, F⟩ := h
  exact ⟨⟨n, l, kd, cc, Hh, by rw [e]; exact R, K⟩, R2, ik, T, H, F⟩
theorem st_sheet : S_sheet IVr IVr := by
  intro v_p1_isKept v_p1_party_size v_p1_party_list v_p1_party_told v_p1_party_kinds v_p1_party_costs v_p1_party_terms v_p1_party_known v_p1_kept_size v_p1_kept_list v_p1_kept_told v_p1_kept_kinds v_p1_kept_costs v_p1_kept_terms v_p1_kept_known v_p1_tape_length v_p1_tape_place v_p1_tape_fault v_p1_tape_teller v_p1_tape_word v_p1_tape_bytes v_p1_telephone_queue v_p1_telephone_callsTo v_p1_telephone_firstCalled v_p1_sheets0_bits v_p1_sheets0_size v_p1_sheets0_numbers v_p1_sheets1_bits v_p1_sheets1_size v_p1_sheets1_numbers v_p1_sheets2_bits v_p1_sheets2_size v_p1_sheets2_numbers v_p1_sheets3_bits v_p1_sheets3_size v_p1_sheets3_numbers v_p1_findings v_p2_isKept v_p2_taped v_p2_at v_p2_fault v_p2_laid v_p2_open v_p2_s v_p2_keptS v_p2_statuses v_p2_pile v_p2_tape v_p2_steps v_p2_wish v_p2_mark v_p2_bitsOf v_p2_sizeOf v_p2_number v_p2_moved x1 x2 x3 hI
  obtain ⟨⟨n, l, kd, cc, Hh, R, K⟩, R2, ik, T, H, F⟩ := hI
  refine Both.step (op_sheet H F x1 x2 x3) (fun k1 k2 h => ?_)
  obtain ⟨H, F⟩ := h
  exact ⟨⟨n, l, kd, cc, Hh, R, K⟩, R2, ik, T, H, F⟩
theorem st_write : S_write IVr IVr := by
  intro v_p1_isKept v_p1_party_size v_p1_party_list v_p1_party_told v_p1_party_kinds v_p1_party_costs v_p1_party_terms v_p1_party_known v_p1_kept_size v_p1_kept_list v_p1_kept_told v_p1_kept_kinds v_p1_kept_costs v_p1_kept_terms v_p1_kept_known v_p1_tape_length v_p1_tape_place v_p1_tape_fault v_p1_tape_teller v_p1_tape_word v_p1_tape_bytes v_p1_telephone_queue v_p1_telephone_callsTo v_p1_telephone_firstCalled v_p1_sheets0_bits v_p1_sheets0_size v_p1_sheets0_numbers v_p1_sheets1_bits v_p1_sheets1_size v_p1_sheets1_numbers v_p1_sheets2_bits v_p1_sheets2_size v_p1_sheets2_numbers v_p1_sheets3_bits v_p1_sheets3_size v_p1_sheets3_numbers v_p1_findings v_p2_isKept v_p2_taped v_p2_at v_p2_fault v_p2_laid v_p2_open v_p2_s v_p2_keptS v_p2_statuses v_p2_pile v_p2_tape v_p2_steps v_p2_wish v_p2_mark v_p2_bitsOf v_p2_sizeOf v_p2_number v_p2_moved x1 x2 x3 hI
  obtain ⟨⟨n, l, kd, cc, Hh, R, K⟩, R2, ik, T, H, F⟩ := hI
  refine Both.step (op_write H F x1 x2 x3) (fun k1 k2 h => ?_)
  obtain ⟨H, F⟩ := h
  exact ⟨⟨n, l, kd, cc, Hh, R, K⟩, R2, ik, T, H, F⟩
theorem st_copy : S_copy IVr IVr := by
  intro v_p1_isKept v_p1_party_size v_p1_party_list v_p1_party_told v_p1_party_kinds v_p1_party_costs v_p1_party_terms v_p1_party_known v_p1_kept_size v_p1_kept_list v_p1_kept_told v_p1_kept_kinds v_p1_kept_costs v_p1_kept_terms v_p1_kept_known v_p1_tape_length v_p1_tape_place v_p1_tape_fault v_p1_tape_teller v_p1_tape_word v_p1_tape_bytes v_p1_telephone_queue v_p1_telephone_callsTo v_p1_telephone_firstCalled v_p1_sheets0_bits v_p1_sheets0_size v_p1_sheets0_numbers v_p1_sheets1_bits v_p1_sheets1_size v_p1_sheets1_numbers v_p1_sheets2_bits v_p1_sheets2_size v_p1_sheets2_numbers v_p1_sheets3_bits v_p1_sheets3_size v_p1_sheets3_numbers v_p1_findings v_p2_isKept v_p2_taped v_p2_at v_p2_fault v_p2_laid v_p2_open v_p2_s v_p2_keptS v_p2_statuses v_p2_pile v_p2_tape v_p2_steps v_p2_wish v_p2_mark v_p2_bitsOf v_p2_sizeOf v_p2_number v_p2_moved x1 x2 x3 x4 x5 hI
  obtain ⟨⟨n, l, kd, cc, Hh, R, K⟩, R2, ik, T, H, F⟩ := hI
  refine Both.step (op_copy H F x1 x2 x3 x4 x5) (fun k1 k2 h => ?_)
  obtain ⟨H, F⟩ := h
  exact ⟨⟨n, l, kd, cc, Hh, R, K⟩, R2, ik, T, H, F⟩
theorem st_lays : S_lays IVr IVr := by
  intro v_p1_isKept v_p1_party_size v_p1_party_list v_p1_party_told v_p1_party_kinds v_p1_party_costs v_p1_party_terms v_p1_party_known v_p1_kept_size v_p1_kept_list v_p1_kept_told v_p1_kept_kinds v_p1_kept_costs v_p1_kept_terms v_p1_kept_known v_p1_tape_length v_p1_tape_place v_p1_tape_fault v_p1_tape_teller v_p1_tape_word v_p1_tape_bytes v_p1_telephone_queue v_p1_telephone_callsTo v_p1_telephone_firstCalled v_p1_sheets0_bits v_p1_sheets0_size v_p1_sheets0_numbers v_p1_sheets1_bits v_p1_sheets1_size v_p1_sheets1_numbers v_p1_sheets2_bits v_p1_sheets2_size v_p1_sheets2_numbers v_p1_sheets3_bits v_p1_sheets3_size v_p1_sheets3_numbers v_p1_findings v_p2_isKept v_p2_taped v_p2_at v_p2_fault v_p2_laid v_p2_open v_p2_s v_p2_keptS v_p2_statuses v_p2_pile v_p2_tape v_p2_steps v_p2_wish v_p2_mark v_p2_bitsOf v_p2_sizeOf v_p2_number v_p2_moved x1 hI
  obtain ⟨⟨n, l, kd, cc, Hh, R, K⟩, R2, ik, T, H, F⟩ := hI
  refine Both.step (op_lays R H F x1) (fun k1 k2 h => ?_)
  obtain ⟨⟨l, R⟩, F⟩ := h
  exact ⟨⟨n, l, kd, cc, Hh, R, K⟩, R2, ik, T, H, F⟩
theorem st_book : S_book IVr IVr := by
  intro v_p1_isKept v_p1_party_size v_p1_party_list v_p1_party_told v_p1_party_kinds v_p1_party_costs v_p1_party_terms v_p1_party_known v_p1_kept_size v_p1_kept_list v_p1_kept_told v_p1_kept_kinds v_p1_kept_costs v_p1_kept_terms v_p1_kept_known v_p1_tape_length v_p1_tape_place v_p1_tape_fault v_p1_tape_teller v_p1_tape_word v_p1_tape_bytes v_p1_telephone_queue v_p1_telephone_callsTo v_p1_telephone_firstCalled v_p1_sheets0_bits v_p1_sheets0_size v_p1_sheets0_numbers v_p1_sheets1_bits v_p1_sheets1_size v_p1_sheets1_numbers v_p1_sheets2_bits v_p1_sheets2_size v_p1_sheets2_numbers v_p1_sheets3_bits v_p1_sheets3_size v_p1_sheets3_numbers v_p1_findings v_p2_isKept v_p2_taped v_p2_at v_p2_fault v_p2_laid v_p2_open v_p2_s v_p2_keptS v_p2_statuses v_p2_pile v_p2_tape v_p2_steps v_p2_wish v_p2_mark v_p2_bitsOf v_p2_sizeOf v_p2_number v_p2_moved x1 hI
  obtain ⟨⟨n, l, kd, cc, Hh, R, K⟩, R2, ik, T, H, F⟩ := hI
  refine Both.step (op_book R K H F x1) (fun k1 k2 h => ?_)
  obtain ⟨H, K, F⟩ := h
  exact ⟨⟨n, l, kd, cc, Hh, R, K⟩, R2, ik, T, H, F⟩
theorem st0_read : S0_read IVr IVr := by
  intro v_p1_isKept v_p1_party_size v_p1_party_list v_p1_party_told v_p1_party_kinds v_p1_party_costs v_p1_party_terms v_p1_party_known v_p1_kept_size v_p1_kept_list v_p1_kept_told v_p1_kept_kinds v_p1_kept_costs v_p1_kept_terms v_p1_kept_known v_p1_tape_length v_p1_tape_place v_p1_tape_fault v_p1_tape_teller v_p1_tape_word v_p1_tape_bytes v_p1_telephone_queue v_p1_telephone_callsTo v_p1_telephone_firstCalled v_p1_sheets0_bits v_p1_sheets0_size v_p1_sheets0_numbers v_p1_sheets1_bits v_p1_sheets1_size v_p1_sheets1_numbers v_p1_sheets2_bits v_p1_sheets2_size v_p1_sheets2_numbers v_p1_sheets3_bits v_p1_sheets3_size v_p1_sheets3_numbers v_p1_findings v_p2_isKept v_p2_taped v_p2_at v_p2_fault v_p2_laid v_p2_open v_p2_s v_p2_keptS v_p2_statuses v_p2_pile v_p2_tape v_p2_steps v_p2_wish v_p2_mark v_p2_bitsOf v_p2_sizeOf v_p2_number v_p2_moved x1 hI
  obtain ⟨⟨n, l, kd, cc, Hh, R, K⟩, R2, ik, T, H, F⟩ := hI
  refine ex4_step (op_read R K H F x1) (fun k1 k2 h => ?_)
  obtain ⟨K, e, F⟩ := h
  exact ⟨⟨n, l, kd, cc, Hh, by rw [e]; exact R, K⟩, R2, ik, T, H, F⟩
theorem st_image : S_image IVr IVr := by
  intro v_p1_isKept v_p1_party_size v_p1_party_list v_p1_party_told v_p1_party_kinds v_p1_party_costs v_p1_party_terms v_p1_party_known v_p1_kept_size v_p1_kept_list v_p1_kept_told v_p1_kept_kinds v_p1_kept_costs v_p1_kept_terms v_p1_kept_known v_p1_tape_length v_p1_tape_place v_p1_tape_fault v_p1_tape_teller v_p1_tape_word v_p1_tape_bytes v_p1_telephone_queue v_p1_telephone_callsTo v_p1_telephone_firstCalled v_p1_sheets0_bits v_p1_sheets0_size v_p1_sheets0_numbers v_p1_sheets1_bits v_p1_sheets1_size v_p1_sheets1_numbers v_p1_sheets2_bits v_p1_sheets2_size v_p1_sheets2_numbers v_p1_sheets3_bits v_p1_sheets3_size v_p1_sheets3_numbers v_p1_findings v_p2_isKept v_p2_taped v_p2_at v_p2_fault v_p2_laid v_p2_open v_p2_s v_p2_keptS v_p2_statuses v_p2_pile v_p2_tape v_p2_steps v_p2_wish v_p2_mark v_p2_bitsOf v_p2_sizeOf v_p2_number v_p2_moved hI
  obtain ⟨⟨n, l, kd, cc, Hh, R, K⟩, R2, ik, T, H, F⟩ := hI
  refine Both.step (op_image R) (fun k1 k2 h => ?_)
  exact ⟨⟨n, l, kd, cc, Hh, R, K⟩, ⟨n, l, kd, cc, Hh, h.2.2⟩, h.1.trans h.2.1.symm, T, H, F⟩
theorem st_undo : S_undo IVr IVr := by
  intro v_p1_isKept v_p1_party_size v_p1_party_list v_p1_party_told v_p1_party_kinds v_p1_party_costs v_p1_party_terms v_p1_party_known v_p1_kept_size v_p1_kept_list v_p1_kept_told v_p1_kept_kinds v_p1_kept_costs v_p1_kept_terms v_p1_kept_known v_p1_tape_length v_p1_tape_place v_p1_tape_fault v_p1_tape_teller v_p1_tape_word v_p1_tape_bytes v_p1_telephone_queue v_p1_telephone_callsTo v_p1_telephone_firstCalled v_p1_sheets0_bits v_p1_sheets0_size v_p1_sheets0_numbers v_p1_sheets1_bits v_p1_sheets1_size v_p1_sheets1_numbers v_p1_sheets2_bits v_p1_sheets2_size v_p1_sheets2_numbers v_p1_sheets3_bits v_p1_sheets3_size v_p1_sheets3_numbers v_p1_findings v_p2_isKept v_p2_taped v_p2_at v_p2_fault v_p2_laid v_p2_open v_p2_s v_p2_keptS v_p2_statuses v_p2_pile v_p2_tape v_p2_steps v_p2_wish v_p2_mark v_p2_bitsOf v_p2_sizeOf v_p2_number v_p2_moved hI
  obtain ⟨⟨n, l, kd, cc, Hh, R, K⟩, ⟨_, _, _, _, _, R2⟩, ik, T, H, F⟩ := hI
  subst ik
  refine Both.step (op_undo R K R2 F) (fun k1 k2 h => ?_)
  obtain ⟨⟨n, l, kd, cc, Hh, R, K⟩, F⟩ := h
  exact ⟨⟨n, l, kd, cc, Hh, R, K⟩, ⟨_, _, _, _, _, R2⟩, rfl, T, H, F⟩
theorem st_tear : S_tear IVr IVr := by
  intro v_p1_isKept v_p1_party_size v_p1_party_list v_p1_party_told v_p1_party_kinds v_p1_party_costs v_p1_party_terms v_p1_party_known v_p1_kept_size v_p1_kept_list v_p1_kept_told v_p1_kept_kinds v_p1_kept_costs v_p1_kept_terms v_p1_kept_known v_p1_tape_length v_p1_tape_place v_p1_tape_fault v_p1_tape_teller v_p1_tape_word v_p1_tape_bytes v_p1_telephone_queue v_p1_telephone_callsTo v_p1_telephone_firstCalled v_p1_sheets0_bits v_p1_sheets0_size v_p1_sheets0_numbers v_p1_sheets1_bits v_p1_sheets1_size v_p1_sheets1_numbers v_p1_sheets2_bits v_p1_sheets2_size v_p1_sheets2_numbers v_p1_sheets3_bits v_p1_sheets3_size v_p1_sheets3_numbers v_p1_findings v_p2_isKept v_p2_taped v_p2_at v_p2_fault v_p2_laid v_p2_open v_p2_s v_p2_keptS v_p2_statuses v_p2_pile v_p2_tape v_p2_steps v_p2_wish v_p2_mark v_p2_bitsOf v_p2_sizeOf v_p2_number v_p2_moved hI
  obtain ⟨⟨n, l, kd, cc, Hh, R, K⟩, R2, ik, T, H, F⟩ := hI
  subst ik
  refine Both.step (op_tear _) (fun k1 k2 h => ?_)
  exact ⟨⟨n, l, kd, cc, Hh, R, K⟩, R2, h.1.trans h.2.symm, T, H, F⟩
theorem st_count : S_count IVr IVr := by
  intro v_p1_isKept v_p1_party_size v_p1_party_list v_p1_party_told v_p1_party_kinds v_p1_party_costs v_p1_party_terms v_p1_party_known v_p1_kept_size v_p1_kept_list v_p1_kept_told v_p1_kept_kinds v_p1_kept_costs v_p1_kept_terms v_p1_kept_known v_p1_tape_length v_p1_tape_place v_p1_tape_fault v_p1_tape_teller v_p1_tape_word v_p1_tape_bytes v_p1_telephone_queue v_p1_telephone_callsTo v_p1_telephone_firstCalled v_p1_sheets0_bits v_p1_sheets0_size v_p1_sheets0_numbers v_p1_sheets1_bits v_p1_sheets1_size v_p1_sheets1_numbers v_p1_sheets2_bits v_p1_sheets2_size v_p1_sheets2_numbers v_p1_sheets3_bits v_p1_sheets3_size v_p1_sheets3_numbers v_p1_findings v_p2_isKept v_p2_taped v_p2_at v_p2_fault v_p2_laid v_p2_open v_p2_s v_p2_keptS v_p2_statuses v_p2_pile v_p2_tape v_p2_steps v_p2_wish v_p2_mark v_p2_bitsOf v_p2_sizeOf v_p2_number v_p2_moved x1 hI
  obtain ⟨⟨n, l, kd, cc, Hh, R, K⟩, R2, ik, ⟨t, T⟩, H, F⟩ := hI
  refine Both.step (op_count R F (T.2.1.trans T.2.2.1.symm) x1) (fun k1 k2 h => ?_)
  have F := h
  exact ⟨⟨n, l, kd, cc, Hh, R, K⟩, R2, ik, ⟨t, T⟩, H, F⟩
theorem st_status : S_status IVr IVr := by
  intro v_p1_isKept v_p1_party_size v_p1_party_list v_p1_party_told v_p1_party_kinds v_p1_party_costs v_p1_party_terms v_p1_party_known v_p1_kept_size v_p1_kept_list v_p1_kept_told v_p1_kept_kinds v_p1_kept_costs v_p1_kept_terms v_p1_kept_known v_p1_tape_length v_p1_tape_place v_p1_tape_fault v_p1_tape_teller v_p1_tape_word v_p1_tape_bytes v_p1_telephone_queue v_p1_telephone_callsTo v_p1_telephone_firstCalled v_p1_sheets0_bits v_p1_sheets0_size v_p1_sheets0_numbers v_p1_sheets1_bits v_p1_sheets1_size v_p1_sheets1_numbers v_p1_sheets2_bits v_p1_sheets2_size v_p1_sheets2_numbers v_p1_sheets3_bits v_p1_sheets3_size v_p1_sheets3_numbers v_p1_findings v_p2_isKept v_p2_taped v_p2_at v_p2_fault v_p2_laid v_p2_open v_p2_s v_p2_keptS v_p2_statuses v_p2_pile v_p2_tape v_p2_steps v_p2_wish v_p2_mark v_p2_bitsOf v_p2_sizeOf v_p2_number v_p2_moved x1 hI
  obtain ⟨⟨n, l, kd, cc, Hh, R, K⟩, R2, ik, T, H, F⟩ := hI
  refine Both.step (op_status F x1) (fun k1 k2 h => ?_)
  have F := h
  exact ⟨⟨n, l, kd, cc, Hh, R, K⟩, R2, ik, T, H, F⟩
end
