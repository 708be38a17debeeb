/-! how far a settled list lies, by calls -/
def Dl (n : Nat) (kd : Nat → Nat) (Hh : Nat → Nat → Bool) : Nat → Nat → Prop
  | 0, l => Wd n kd Hh l = l
  | k + 1, l => Dl n kd Hh k l ∨ ∃ g, g < n ∧ Dl n kd Hh k (cal n kd Hh l g)
def Di (n : Nat) (kd : Nat → Nat) (Hh : Nat → Nat → Bool) (d l : Nat) : Prop := Dl n kd Hh d l ∧ ∀ e, e < d → ¬ Dl n kd Hh e l
section FAR
variable {sz li to : Int32} {ki co : Nat → Int32} {te : Nat → Int64} {s kn fi st pile wish mark : Nat → Int32} {n l : Nat} {kd cc : Nat → Nat} {Hh : Nat → Nat → Bool}
theorem Dl_le {a b : Nat} (h : a ≤ b) (q : Dl n kd Hh a l) : Dl n kd Hh b l := by
  induction h with
  | refl => exact q
  | step _ ih => exact Or.inl ih
theorem Dl_c {k g : Nat} (hg : g < n) (q : Dl n kd Hh k (cal n kd Hh l g)) : Dl n kd Hh (k + 1) l := Or.inr ⟨g, hg, q⟩
theorem Di_u {d e : Nat} (h1 : Di n kd Hh d l) (h2 : Di n kd Hh e l) : d = e := by
  rcases Nat.lt_trichotomy d e with h | h | h
  · exact absurd h1.1 (h2.2 d h)
  · exact h
  · exact absurd h2.1 (h1.2 e h)
theorem Di_s {e : Nat} (h1 : ¬ Dl n kd Hh e l) (h2 : Dl n kd Hh (e + 1) l) : Di n kd Hh (e + 1) l := ⟨h2, fun _ hk q => h1 (Dl_le (by omega) q)⟩
theorem Di_ex : ∀ {k : Nat}, Dl n kd Hh k l → ∃ d, d ≤ k ∧ Di n kd Hh d l
  | 0, h => ⟨0, Nat.le_refl 0, h, fun _ hk => absurd hk (by omega)⟩
  | k + 1, h => by
    by_cases c : Dl n kd Hh k l
    · obtain ⟨d, h1, h2⟩ := Di_ex c
      exact ⟨d, by omega, h2⟩
    · exact ⟨k + 1, Nat.le_refl _, Di_s c h⟩
/-- a mark that speaks of distances up to e -/
def FM (n : Nat) (kd : Nat → Nat) (Hh : Nat → Nat → Bool) (e : Nat) (mk : Nat → Int32) (l : Nat) : Prop := (mk l = -1 ∧ ¬ Dl n kd Hh e l) ∨ ∃ d, d ≤ e ∧ mk l = nI d ∧ Di n kd Hh d l
theorem FM_eq {e e' : Nat} {mk : Nat → Int32} (h : FM n kd Hh e' mk l) (hl : e ≤ e') (he : e' < 1000) : mk l = nI e ↔ Di n kd Hh e l := by
  rcases h with ⟨h1, h2⟩ | ⟨d, h1, h2, h3⟩
  · rw [h1]
    exact ⟨fun q => absurd q.symm (nI_m1 (by omega)), fun q => absurd (Dl_le hl q.1) h2⟩
  · rw [h2, nI_eq (by omega) (by omega)]
    exact ⟨fun q => by rw [← q]; exact h3, fun q => Di_u h3 q⟩
theorem FM_up {e : Nat} {mk : Nat → Int32} (h : FM n kd Hh e mk l) (hq : ¬ Di n kd Hh (e + 1) l) : FM n kd Hh (e + 1) mk l := by
  rcases h with ⟨h1, h2⟩ | ⟨d, h1, h2, h3⟩
  · exact Or.inl ⟨h1, fun q => hq (Di_s h2 q)⟩
  · exact Or.inr ⟨d, by omega, h2, h3⟩
/-- level e + 1, before list i -/
def LVL (n : Nat) (kd : Nat → Nat) (Hh : Nat → Nat → Bool) (e i : Nat) (mk : Nat → Int32) (y : Int32) : Prop :=
  (∀ q, q < 2 ^ n → FM n kd Hh (if q < i then e + 1 else e) mk q) ∧ ((y = 0 ∧ ∀ q, q < i → ¬ Di n kd Hh (e + 1) q) ∨ (y = 1 ∧ ∃ q, q < i ∧ Di n kd Hh (e + 1) q))
theorem LVL_next {e i : Nat} {mk : Nat → Int32} {y : Int32} (h : LVL n kd Hh e i mk y) (hq : ¬ Di n kd Hh (e + 1) i) : LVL n kd Hh e (i + 1) mk y := by
  refine ⟨fun q hq2 => ?_, ?_⟩
  · have := h.1 q hq2
    by_cases c : q = i
    · subst c
      rw [if_neg (by omega)] at this
      rw [if_pos (by omega)]
      exact FM_up this hq
    · by_cases d : q < i
      · rw [if_pos d] at this; rw [if_pos (by omega)]; exact this
      · rw [if_neg d] at this; rw [if_neg (by omega)]; exact this
  · rcases h.2 with ⟨h1, h2⟩ | ⟨h1, q, h2, h3⟩
    · refine Or.inl ⟨h1, fun q hq2 => ?_⟩
      by_cases c : q = i
      · subst c; exact hq
      · exact h2 q (by omega)
    · exact Or.inr ⟨h1, q, by omega, h3⟩
theorem far59 (M : PM n kd Hh s) {ag40 : (Nat → Int32) → (Nat → Int32) → Int32 → Int32 → Option ((Nat → Int32) × (Nat → Int32))} {ag48 : (Nat → Int32) → (Nat → Int32) → Int32 → Int32 → Int32 → Option ((Nat → Int32) × (Nat → Int32))} {Q : (Nat → Int32) × (Nat → Int32) → Prop} {e i : Nat} (he : e ≤ 300) (hi : i < 2 ^ n) (hag : ∀ p mk y, LVL n kd Hh e (i + 1) mk y → RetV (ag48 p mk y (nI (e + 1)) (nI (i + 1))) Q) : ∀ (f g : Nat) (p mk : Nat → Int32) (y : Int32), g ≤ n → n - g < f → ((LVL n kd Hh e i mk y ∧ ∀ j, j < g → ¬ Dl n kd Hh e (cal n kd Hh i j)) ∨ (LVL n kd Hh e (i + 1) mk y ∧ mk i = nI (e + 1))) → RetV (ll6 (fX5_looksFar_59 s ag40 ag48) f p mk y (nI (e + 1)) (nI i) (nI g)) Q := by
  intro f
  induction f with
  | zero => intro g p mk y _ h; exact absurd h (by omega)
  | succ f ih =>
    intro g p mk y hg hf H
    have hn := M.1
    have hN := two_le hn
    have ih := ih (g + 1)
    show RetV (fX5_looksFar_59 s ag40 ag48 (ll6 (fX5_looksFar_59 s ag40 ag48) f) p mk y (nI (e + 1)) (nI i) (nI g)) _
    generalize ll6 (fX5_looksFar_59 s ag40 ag48) f = ag at ih ⊢
    unfold fX5_looksFar_59 fX5_looksFar_112 fX5_looksFar_106
    rw [nm_of, nI_1, M.2.1, ite_le (by omega) (by omega)]
    rcases H with ⟨H, hj⟩ | ⟨H, hm⟩
    · have hF := H.1 i hi
      rw [if_neg (by omega)] at hF
      by_cases c : n ≤ g
      · rw [if_pos c]
        refine hag p mk y (LVL_next H (fun q => ?_))
        rcases hF with ⟨h1, h2⟩ | ⟨d, h1, h2, h3⟩
        · rcases q.1 with w | ⟨j, w1, w2⟩
          · exact h2 w
          · exact hj j (by omega) w2
        · have := Di_u h3 q
          omega
      · rw [if_neg c, gIn_nI (by omega) (by decide), nI_clamp (by omega)]
        rcases hF with ⟨h1, h2⟩ | ⟨d, h1, h2, h3⟩
        · rw [if_neg (show ¬ (0 : Int32) ≤ mk i from by rw [h1]; decide)]
          refine Ret.b1V (calledM_r M (show g < n by omega) (show i < 256 by omega) p) (fun k _ => ?_)
          have hc : cal n kd Hh i g < 2 ^ n := cal_lt hi
          rw [gIn_nI (by omega) (by decide), nI_clamp (by omega), show nI (e + 1) - 1 = nI e from by rw [fa_lit 1, nI_sub1 (by omega)]; rfl, gIn_nI (by omega) (by decide), nm_of, nm_of, nI_1]
          have hE : mk (cal n kd Hh i g) = nI e ↔ Di n kd Hh e (cal n kd Hh i g) := by
            have := H.1 _ hc
            by_cases d : cal n kd Hh i g < i
            · rw [if_pos d] at this; exact FM_eq this (by omega) (by omega)
            · rw [if_neg d] at this; exact FM_eq this (by omega) (by omega)
          by_cases d : mk (cal n kd Hh i g) = nI e
          · rw [if_pos d]
            have hD : Di n kd Hh (e + 1) i := Di_s h2 (Dl_c (by omega) (hE.mp d).1)
            refine ih k _ 1 (by omega) (by omega) (Or.inr ⟨⟨fun q hq => ?_, Or.inr ⟨rfl, i, by omega, hD⟩⟩, pk_us⟩)
            by_cases w : q = i
            · subst w
              rw [if_pos (by omega)]
              exact Or.inr ⟨e + 1, Nat.le_refl _, pk_us, hD⟩
            · have := H.1 q hq
              have e2 : (if q < i + 1 then e + 1 else e) = if q < i then e + 1 else e := by
                by_cases v : q < i
                · rw [if_pos v, if_pos (by omega)]
                · rw [if_neg v, if_neg (by omega)]
              rw [e2]
              unfold FM at this ⊢
              rw [pk_un w]
              exact this
          · rw [if_neg d]
            refine ih k mk y (by omega) (by omega) (Or.inl ⟨H, fun j h => ?_⟩)
            by_cases w : j = g
            · subst w
              intro q
              obtain ⟨a, a1, a2⟩ := Di_ex q
              by_cases v : a = e
              · subst v; exact d (hE.mpr a2)
              · exact h2 (Dl_le (show a + 1 ≤ e by omega) (Dl_c (by omega) a2.1))
            · exact hj j (by omega)
        · rw [if_pos (show (0 : Int32) ≤ mk i from by rw [h2]; exact nI_0le (by omega))]
          refine hag p mk y (LVL_next H (fun q => ?_))
          have := Di_u h3 q
          omega
    · by_cases c : n ≤ g
      · rw [if_pos c]
        exact hag p mk y H
      · rw [if_neg c, gIn_nI (by omega) (by decide), nI_clamp (by omega), if_pos (show (0 : Int32) ≤ mk i from by rw [hm]; exact nI_0le (by omega))]
        exact hag p mk y H
theorem far48 (M : PM n kd Hh s) {ag40 : (Nat → Int32) → (Nat → Int32) → Int32 → Int32 → Option ((Nat → Int32) × (Nat → Int32))} {Q : (Nat → Int32) × (Nat → Int32) → Prop} {e : Nat} (he : e ≤ 300) (hag : ∀ p mk y, LVL n kd Hh e (2 ^ n) mk y → RetV (ag40 p mk y (nI (e + 2))) Q) : ∀ (f i : Nat) (p mk : Nat → Int32) (y : Int32), i ≤ 2 ^ n → 2 ^ n - i < f → LVL n kd Hh e i mk y → RetV (ll5 (fX5_looksFar_48 s ag40) f p mk y (nI (e + 1)) (nI i)) Q := by
  intro f
  induction f with
  | zero => intro i p mk y _ h; exact absurd h (by omega)
  | succ f ih =>
    intro i p mk y hi hf H
    have hn := M.1
    have hN := two_le hn
    have ih := ih (i + 1)
    show RetV (fX5_looksFar_48 s ag40 (ll5 (fX5_looksFar_48 s ag40) f) p mk y (nI (e + 1)) (nI i)) _
    generalize ll5 (fX5_looksFar_48 s ag40) f = ag at ih ⊢
    unfold fX5_looksFar_48
    rw [lists_m M, bR_some, nm_of, nI_1, ite_le (by omega) (by omega)]
    by_cases c : 2 ^ n ≤ i
    · have e1 : i = 2 ^ n := by omega
      subst e1
      rw [if_pos c]
      exact hag p mk y H
    · rw [if_neg c]
      exact far59 M he (by omega) (fun p mk y h => ih p mk y (by omega) (by omega) h) 1024 0 p mk y (Nat.zero_le _) (by omega) (Or.inl ⟨H, fun j h => absurd h (by omega)⟩)
/-- all marked -/
def MF (n : Nat) (kd : Nat → Nat) (Hh : Nat → Nat → Bool) (mk : Nat → Int32) : Prop := ∀ q, q < 2 ^ n → (mk q = -1 ∧ ∀ k, ¬ Dl n kd Hh k q) ∨ ∃ d, d ≤ 300 ∧ mk q = nI d ∧ Di n kd Hh d q
theorem MF_of {e : Nat} {mk : Nat → Int32} (he : e < 300) (h : ∀ q, q < 2 ^ n → FM n kd Hh (e + 1) mk q) (h2 : ∀ q, q < 2 ^ n → ¬ Di n kd Hh (e + 1) q) : MF n kd Hh mk := by
  have hk : ∀ k q, q < 2 ^ n → Dl n kd Hh k q → Dl n kd Hh e q := by
    intro k
    induction k with
    | zero => intro q _ h; exact Dl_le (Nat.zero_le _) h
    | succ k ih =>
      intro q hq w
      rcases w with w | ⟨g, w1, w2⟩
      · exact ih q hq w
      · have := ih _ (cal_lt hq) w2
        by_cases c : Dl n kd Hh e q
        · exact c
        · exact absurd (Di_s c (Dl_c w1 this)) (h2 q hq)
  intro q hq
  rcases h q hq with ⟨a, b⟩ | ⟨d, a, b, c⟩
  · exact Or.inl ⟨a, fun k w => b (Dl_le (by omega) (hk k q hq w))⟩
  · exact Or.inr ⟨d, by omega, b, c⟩
theorem cnt_mono {p q : Nat → Bool} : ∀ {n : Nat}, (∀ i, i < n → p i = true → q i = true) → cnt p n ≤ cnt q n
  | 0, _ => Nat.le_refl 0
  | n + 1, h => by
    have ih := cnt_mono (p := p) (q := q) (n := n) (fun i hi => h i (by omega))
    have := h n (by omega)
    show cnt p n + (if p n then 1 else 0) ≤ cnt q n + if q n then 1 else 0
    cases hp : p n with
    | false => rw [if_neg (by simp)]; omega
    | true => rw [if_pos rfl, if_pos (this hp)]; omega
theorem cnt_mono1 {p q : Nat → Bool} {x : Nat} : ∀ {n : Nat}, x < n → p x = false → q x = true → (∀ i, i < n → p i = true → q i = true) → cnt p n < cnt q n
  | 0, hx, _, _, _ => absurd hx (by omega)
  | n + 1, hx, h1, h2, h => by
    show cnt p n + (if p n then 1 else 0) < cnt q n + if q n then 1 else 0
    by_cases c : x = n
    · subst c
      have ih := cnt_mono (p := p) (q := q) (n := x) (fun i hi => h i (by omega))
      rw [h1, h2, if_neg (by simp), if_pos rfl]
      omega
    · have ih := cnt_mono1 (p := p) (q := q) (n := n) (by omega) h1 h2 (fun i hi => h i (by omega))
      have := h n (by omega)
      cases hp : p n with
      | false => rw [if_neg (by simp)]; omega
      | true => rw [if_pos rfl, if_pos (this hp)]; omega
def um (n : Nat) (mk : Nat → Int32) : Nat := cnt (fun q => decide (mk q = -1)) (2 ^ n)
theorem far40 (M : PM n kd Hh s) : ∀ (f e : Nat) (p mk : Nat → Int32) (y : Int32), (∀ q, q < 2 ^ n → FM n kd Hh e mk q) → ((y = 0 ∧ 1 ≤ e ∧ e ≤ 260 ∧ 1 ≤ f ∧ ∀ q, q < 2 ^ n → ¬ Di n kd Hh e q) ∨ (y = 1 ∧ e + um n mk ≤ 2 ^ n ∧ um n mk + 2 ≤ f)) → RetV (ll4 (fX5_looksFar_40 s) f p mk y (nI (e + 1))) (fun k => MF n kd Hh k.2) := by
  intro f
  induction f with
  | zero => intro e p mk y _ h; exact absurd h (by omega)
  | succ f ih =>
    intro e p mk y H h
    have hn := M.1
    have hN := two_le hn
    have ih := ih (e + 1)
    show RetV (fX5_looksFar_40 s (ll4 (fX5_looksFar_40 s) f) p mk y (nI (e + 1))) _
    generalize ll4 (fX5_looksFar_40 s) f = ag at ih ⊢
    unfold fX5_looksFar_40
    rcases h with ⟨rfl, h1, h2, h3, h4⟩ | ⟨rfl, h1, h2⟩
    · rw [if_pos rfl]
      obtain ⟨e', rfl⟩ : ∃ e', e = e' + 1 := ⟨e - 1, by omega⟩
      exact RetV.mk (MF_of (by omega) H h4)
    · rw [if_neg (by decide)]
      refine far48 M (show e ≤ 300 by omega) (fun p2 mk2 y2 L => ?_) 1024 0 p mk 0 (Nat.zero_le _) (by omega) ⟨fun q hq => by rw [if_neg (by omega)]; exact H q hq, Or.inl ⟨rfl, fun q hq => absurd hq (by omega)⟩⟩
      have L1 : ∀ q, q < 2 ^ n → FM n kd Hh (e + 1) mk2 q := fun q hq => by
        have := L.1 q hq
        rw [if_pos hq] at this
        exact this
      have mono : ∀ q, q < 2 ^ n → decide (mk2 q = -1) = true → decide (mk q = -1) = true := fun q hq w => by
        have w := of_decide_eq_true w
        refine decide_eq_true ?_
        rcases L1 q hq with ⟨a, b⟩ | ⟨d, a, b, c⟩
        · rcases H q hq with ⟨a', b'⟩ | ⟨d', a', b', c'⟩
          · exact a'
          · exact absurd (Dl_le (by omega) c'.1) b
        · rw [b] at w
          exact absurd w (nI_m1 (by omega))
      refine ih p2 mk2 y2 L1 ?_
      rcases L.2 with ⟨a, b⟩ | ⟨a, q, b, c⟩
      · exact Or.inl ⟨a, by omega, by omega, by omega, b⟩
      · have : um n mk2 < um n mk := cnt_mono1 (x := q) b (decide_eq_false (fun w => by
          rcases L1 q b with ⟨a', b'⟩ | ⟨d', a', b', c'⟩
          · exact b' c.1
          · rw [b'] at w
            exact absurd w (nI_m1 (by omega)))) (decide_eq_true (by
          rcases H q b with ⟨a', b'⟩ | ⟨d', a', b', c'⟩
          · exact a'
          · have := Di_u c c'
            omega)) mono
        exact Or.inr ⟨a, by omega, by omega⟩
theorem far2 (M : PM n kd Hh s) : ∀ (f i : Nat) (p mk : Nat → Int32), i ≤ 2 ^ n → 2 ^ n - i < f → (∀ q, q < i → FM n kd Hh 0 mk q) → RetV (ll3 (fX5_looksFar_2 s) f p mk (nI i)) (fun k => MF n kd Hh k.2) := by
  intro f
  induction f with
  | zero => intro i p mk _ h; exact absurd h (by omega)
  | succ f ih =>
    intro i p mk hi hf H
    have hn := M.1
    have hN := two_le hn
    have ih := ih (i + 1)
    show RetV (fX5_looksFar_2 s (ll3 (fX5_looksFar_2 s) f) p mk (nI i)) _
    generalize ll3 (fX5_looksFar_2 s) f = ag at ih ⊢
    unfold fX5_looksFar_2
    rw [lists_m M, bR_some, ite_le (by omega) (by omega)]
    by_cases c : 2 ^ n ≤ i
    · have e1 : i = 2 ^ n := by omega
      subst e1
      rw [if_pos c]
      have : um n mk ≤ 2 ^ n := cnt_le _ _
      exact far40 M 1024 0 p mk 1 H (Or.inr ⟨rfl, by omega, by omega⟩)
    · rw [if_neg c]
      refine Ret.b1V (would_r M (show i < 256 by omega) p) (fun k _ => ?_)
      unfold fX5_looksFar_29
      have hw := Wd_256 hn kd Hh i
      rw [nm_of, nm_of, nI_1, gIn_nI (by omega) (by decide), gIn_nI (by omega) (by decide), nI_clamp (by omega), ite_eqN (by omega) (by omega)]
      by_cases d : Wd n kd Hh i = i
      · rw [if_pos d]
        refine ih k _ (by omega) (by omega) (fun q hq => ?_)
        by_cases w : q = i
        · subst w
          exact Or.inr ⟨0, Nat.le_refl _, pk_us, d, fun _ h => absurd h (by omega)⟩
        · have := H q (by omega)
          unfold FM at this ⊢
          rw [pk_un w]
          exact this
      · rw [if_neg d]
        refine ih k _ (by omega) (by omega) (fun q hq => ?_)
        by_cases w : q = i
        · subst w
          exact Or.inl ⟨pk_us, d⟩
        · have := H q (by omega)
          unfold FM at this ⊢
          rw [pk_un w]
          exact this
theorem looksFar_r (M : PM n kd Hh s) (p mk : Nat → Int32) : RetV (fX5_looksFar s p mk) (fun k => MF n kd Hh k.2) := far2 M 1024 0 p mk (Nat.zero_le _) (by have := two_le M.1; omega) (fun q h => absurd h (by omega))
end FAR
