/-! the class's search by calls -/
section NEAR
variable {sz li to : Int32} {ki co : Nat → Int32} {te : Nat → Int64} {s kn fi st pile wish mark : Nat → Int32} {n l : Nat} {kd cc : Nat → Nat} {Hh : Nat → Nat → Bool}
/-- the rows of the search hold the queue Q with calls K and first calls B -/
def QS (n l m : Nat) (Q K B : Nat → Nat) (qu ct fc : Nat → Int32) : Prop :=
  0 < m ∧ Q 0 = l ∧ K 0 = 0 ∧ (∀ i, i < m → Q i < 2 ^ n ∧ qu i = nI (Q i) ∧ ct (Q i) = nI (K i) ∧ K i ≤ i ∧ (0 < i → fc (Q i) = nI (B i))) ∧ fc l = -1 ∧ (∀ q, q < 2 ^ n → ct q = -1 ∨ ∃ i, i < m ∧ Q i = q) ∧ m = cnt (fun q => decide (¬ ct q = -1)) (2 ^ n)
/-- what the queue says -/
def QA (n : Nat) (kd : Nat → Nat) (Hh : Nat → Nat → Bool) (l m : Nat) (Q K B : Nat → Nat) : Prop :=
  (∀ i, 0 < i → i < m → 1 ≤ K i ∧ B i < n ∧ ∀ j, Dl n kd Hh j (Q i) → Dl n kd Hh (j + (K i - 1)) (cal n kd Hh l (B i))) ∧ (∀ i j, 0 < i → i ≤ j → j < m → K i < K j ∨ (K i = K j ∧ B i ≤ B j))
/-- nothing in the queue comes behind what head h calls by g -/
def QT (m h g : Nat) (K B : Nat → Nat) : Prop := ∀ i, 0 < i → i < m → K i < K h + 1 ∨ (K i = K h + 1 ∧ B i ≤ if h = 0 then g else B h)
/-- a best way by d calls that starts with g -/
def Op (n : Nat) (kd : Nat → Nat) (Hh : Nat → Nat → Bool) (l d g : Nat) : Prop := 1 ≤ d ∧ ¬ Dl n kd Hh (d - 1) l ∧ g < n ∧ Dl n kd Hh (d - 1) (cal n kd Hh l g)
/-- a witness behind place h -/
def QW (n : Nat) (kd : Nat → Nat) (Hh : Nat → Nat → Bool) (m h d g : Nat) (Q K B : Nat → Nat) : Prop := ∃ i, h ≤ i ∧ 0 < i ∧ i < m ∧ K i ≤ d ∧ Dl n kd Hh (d - K i) (Q i) ∧ B i ≤ g
/-- a witness that head h will call by some guest from g on -/
def QP (n : Nat) (kd : Nat → Nat) (Hh : Nat → Nat → Bool) (h g d b : Nat) (Q K B : Nat → Nat) : Prop := ∃ j, g ≤ j ∧ j < n ∧ K h + 1 ≤ d ∧ Dl n kd Hh (d - (K h + 1)) (cal n kd Hh (Q h) j) ∧ (if h = 0 then j else B h) ≤ b
theorem Op_min {d b k : Nat} (h : Op n kd Hh l d b) (hk : Dl n kd Hh k l) : d ≤ k := by
  by_cases c : d ≤ k
  · exact c
  · exact absurd (Dl_le (by omega) hk) h.2.1
theorem QA_root {m i : Nat} {Q K B : Nat → Nat} (A : QA n kd Hh l m Q K B) (h0 : 0 < i) (hi : i < m) {j : Nat} (h : Dl n kd Hh j (Q i)) : Dl n kd Hh (j + K i) l := by
  obtain ⟨a, b, c⟩ := A.1 i h0 hi
  have := Dl_c b (c j h)
  rw [show j + (K i - 1) + 1 = j + K i by omega] at this
  exact this
/-- one more in the queue -/
theorem QS_push {m h g b : Nat} {Q K B : Nat → Nat} {qu ct fc : Nat → Int32} (H : QS n l m Q K B qu ct fc) (hn : n ≤ 8) (hh : h < m) {q : Nat} (hq : q < 2 ^ n) (hc : ct q = -1) : QS n l (m + 1) (un Q m q) (un K m (K h + 1)) (un B m b) (upd qu m (nI q)) (upd ct q (nI (K h + 1))) (upd fc q (nI b)) := by
  obtain ⟨h1, h2, h3, h4, h5, h6, h7⟩ := H
  have hN := two_le hn
  have hm : m ≤ 2 ^ n := by rw [h7]; exact cnt_le _ _
  have hne : ∀ i, i < m → ¬ Q i = q := fun i hi w => by
    have := (h4 i hi).2.2.1
    rw [w, hc] at this
    exact nI_m1 (a := K i) (by have := (h4 i hi).2.2.2.1; omega) this.symm
  refine ⟨by omega, by rw [un_n (by omega)]; exact h2, by rw [un_n (by omega)]; exact h3, fun i hi => ?_, ?_, fun x hx => ?_, ?_⟩
  · by_cases c : i = m
    · subst c
      rw [un_s, un_s, un_s, pk_us, pk_us, pk_us]
      have := (h4 h hh).2.2.2.1
      exact ⟨hq, rfl, rfl, by omega, fun _ => rfl⟩
    · rw [un_n c, un_n c, un_n c, pk_un c, pk_un (hne i (by omega)), pk_un (hne i (by omega))]
      exact h4 i (by omega)
  · rw [pk_un (by rw [← h2]; exact hne 0 h1)]
    exact h5
  · by_cases c : x = q
    · exact Or.inr ⟨m, by omega, by rw [un_s, c]⟩
    · rw [pk_un c]
      rcases h6 x hx with w | ⟨i, w1, w2⟩
      · exact Or.inl w
      · exact Or.inr ⟨i, by omega, by rw [un_n (by omega)]; exact w2⟩
  · have := (h4 h hh).2.2.2.1
    have e := cnt_less (p := fun x => decide (¬ upd ct q (nI (K h + 1)) x = -1)) (q := fun x => decide (¬ ct x = -1)) (x := q) (n := 2 ^ n) hq (decide_eq_true (by rw [pk_us]; exact nI_m1 (by omega))) (decide_eq_false (fun w => w hc)) (fun i _ hi => by rw [pk_un hi])
    omega
theorem QA_push {m h g : Nat} {Q K B : Nat → Nat} (A : QA n kd Hh l m Q K B) (T : QT m h g K B) (hQ : Q 0 = l) (hK : K 0 = 0) (hh : h < m) (hg : g < n) : QA n kd Hh l (m + 1) (un Q m (cal n kd Hh (Q h) g)) (un K m (K h + 1)) (un B m (if h = 0 then g else B h)) := by
  refine ⟨fun i h0 hi => ?_, fun i j h0 hi hj => ?_⟩
  · by_cases c : i = m
    · subst c
      rw [un_s, un_s, un_s]
      refine ⟨by omega, ?_, fun j hj => ?_⟩
      · by_cases d : h = 0
        · rw [if_pos d]; exact hg
        · rw [if_neg d]; exact (A.1 h (by omega) hh).2.1
      · by_cases d : h = 0
        · subst d
          rw [if_pos rfl, hK]
          rw [hQ] at hj
          exact hj
        · rw [if_neg d]
          have a := (A.1 h (by omega) hh)
          have := a.2.2 (j + 1) (Dl_c hg hj)
          rw [show j + (K h + 1 - 1) = j + 1 + (K h - 1) by omega]
          exact this
    · rw [un_n c, un_n c, un_n c]
      exact A.1 i h0 (by omega)
  · by_cases c : j = m
    · subst c
      rw [un_s, un_s]
      by_cases d : i = j
      · subst d
        rw [un_s, un_s]
        exact Or.inr ⟨rfl, Nat.le_refl _⟩
      · rw [un_n d, un_n d]
        exact T i h0 (by omega)
    · rw [un_n c, un_n c, un_n (by omega), un_n (by omega)]
      exact A.2 i j h0 hi (by omega)
theorem QT_push {m h g : Nat} {K B : Nat → Nat} (T : QT m h g K B) (hh : h < m) : QT (m + 1) h (g + 1) (un K m (K h + 1)) (un B m (if h = 0 then g else B h)) := by
  intro i h0 hi
  rw [un_n (show ¬ h = m by omega), un_n (show ¬ h = m by omega)]
  by_cases c : i = m
  · subst c
    rw [un_s, un_s]
    refine Or.inr ⟨rfl, ?_⟩
    by_cases d : h = 0
    · rw [if_pos d, if_pos d]; omega
    · rw [if_neg d, if_neg d]; exact Nat.le_refl _
  · rw [un_n c, un_n c]
    rcases T i h0 (by omega) with w | ⟨w1, w2⟩
    · exact Or.inl w
    · refine Or.inr ⟨w1, ?_⟩
      by_cases d : h = 0
      · rw [if_pos d] at w2 ⊢; omega
      · rw [if_neg d] at w2 ⊢; exact w2
theorem QT_skip {m h g : Nat} {K B : Nat → Nat} (T : QT m h g K B) : QT m h (g + 1) K B := by
  intro i h0 hi
  rcases T i h0 hi with w | ⟨w1, w2⟩
  · exact Or.inl w
  · refine Or.inr ⟨w1, ?_⟩
    by_cases d : h = 0
    · rw [if_pos d] at w2 ⊢; omega
    · rw [if_neg d] at w2 ⊢; exact w2
/-- the frontier while head h calls -/
def QF (n : Nat) (kd : Nat → Nat) (Hh : Nat → Nat → Bool) (l m h g : Nat) (Q K B : Nat → Nat) : Prop := ∀ d b, Op n kd Hh l d b → QW n kd Hh m (h + 1) d b Q K B ∨ QP n kd Hh h g d b Q K B
theorem QF_push {m h g : Nat} {Q K B : Nat → Nat} (F : QF n kd Hh l m h g Q K B) (hh : h < m) : QF n kd Hh l (m + 1) h (g + 1) (un Q m (cal n kd Hh (Q h) g)) (un K m (K h + 1)) (un B m (if h = 0 then g else B h)) := by
  intro d b O
  rcases F d b O with ⟨i, w1, w2, w3, w4, w5, w6⟩ | ⟨j, w1, w2, w3, w4, w5⟩
  · refine Or.inl ⟨i, w1, w2, by omega, ?_, ?_, ?_⟩
    · rw [un_n (by omega)]; exact w4
    · rw [un_n (by omega), un_n (by omega)]; exact w5
    · rw [un_n (by omega)]; exact w6
  · by_cases c : j = g
    · subst c
      refine Or.inl ⟨m, by omega, by omega, by omega, ?_, ?_, ?_⟩
      · rw [un_s]; exact w3
      · rw [un_s, un_s]; exact w4
      · rw [un_s]; exact w5
    · refine Or.inr ⟨j, by omega, w2, ?_, ?_, ?_⟩
      · rw [un_n (by omega)]; exact w3
      · rw [un_n (by omega), un_n (by omega)]; exact w4
      · rw [un_n (by omega)]; exact w5
theorem QF_skip {m h g : Nat} {Q K B : Nat → Nat} (F : QF n kd Hh l m h g Q K B) (A : QA n kd Hh l m Q K B) (T : QT m h g K B) (hQ : Q 0 = l) (hK : K 0 = 0) (hh : h < m) (hg : g < n) {i : Nat} (hi : i < m) (hq : Q i = cal n kd Hh (Q h) g) : QF n kd Hh l m h (g + 1) Q K B := by
  intro d b O
  rcases F d b O with w | ⟨j, w1, w2, w3, w4, w5⟩
  · exact Or.inl w
  · by_cases c : j = g
    · subst c
      rw [← hq] at w4
      by_cases z : i = 0
      · subst z
        rw [hQ] at w4
        have := Op_min O w4
        omega
      · have r := Op_min O (QA_root A (by omega) hi w4)
        have t := T i (by omega) hi
        have t2 : K i = K h + 1 ∧ B i ≤ if h = 0 then j else B h := by
          rcases t with t | t
          · omega
          · exact t
        have ih : h < i := by
          rcases Nat.lt_or_ge h i with v | v
          · exact v
          · have := A.2 i h (by omega) v hh
            omega
        refine Or.inl ⟨i, by omega, by omega, hi, by omega, ?_, Nat.le_trans t2.2 w5⟩
        rw [t2.1]
        exact w4
    · exact Or.inr ⟨j, by omega, w2, w3, w4, w5⟩
theorem callAll_loop (P : PC n kd Hh sz ki te) {h : Nat} : ∀ (f g m : Nat) (Q K B : Nat → Nat) (qu ct fc kn : Nat → Int32), g ≤ n → n - g < f → h < m → QS n l m Q K B qu ct fc → QA n kd Hh l m Q K B → QT m h g K B → QF n kd Hh l m h g Q K B → KV n kd Hh kn → ∃ (m' : Nat) (Q' K' B' : Nat → Nat) (k : (Nat → Int32) × (Nat → Int32) × (Nat → Int32) × (Nat → Int32)), ll7 (fX3_callAll_6 sz ki te) f qu ct fc kn (nI (Q h)) (nI m) (nI g) = some (nI m', k) ∧ h < m' ∧ QS n l m' Q' K' B' k.1 k.2.1 k.2.2.1 ∧ QA n kd Hh l m' Q' K' B' ∧ QT m' h n K' B' ∧ QF n kd Hh l m' h n Q' K' B' ∧ KV n kd Hh k.2.2.2 := by
  intro f
  induction f with
  | zero => intro g m Q K B qu ct fc kn _ h; exact absurd h (by omega)
  | succ f ih =>
    intro g m Q K B qu ct fc kn hg hf hh H A T F Kv
    have hn := P.1
    have hN := two_le hn
    have ih := ih (g + 1)
    show ∃ m' Q' K' B' k, fX3_callAll_6 sz ki te (ll7 (fX3_callAll_6 sz ki te) f) qu ct fc kn (nI (Q h)) (nI m) (nI g) = _ ∧ _
    generalize ll7 (fX3_callAll_6 sz ki te) f = ag at ih ⊢
    unfold fX3_callAll_6
    rw [P.2.1, ite_le (by omega) (by omega)]
    by_cases c : n ≤ g
    · have e : g = n := by omega
      subst e
      rw [if_pos c]
      exact ⟨m, Q, K, B, _, rfl, hh, H, A, T, F, Kv⟩
    · obtain ⟨h1, h2, h3, h4, h5, h6, h7⟩ := id H
      have hQh := h4 h hh
      have hm : m ≤ 2 ^ n := by rw [h7]; exact cnt_le _ _
      have hcl : cal n kd Hh (Q h) g < 2 ^ n := cal_lt hQh.1
      obtain ⟨k6, e6, K6⟩ := called_r P Kv (show Q h < 256 by omega) (show g < 8 by omega)
      rw [if_neg c, show fX0_called (nI n) ki te kn (nI g) (nI (Q h)) = some (nI (cal n kd Hh (Q h) g), k6) from by rw [← P.2.1]; exact e6, bR_some, nm_of, and255i (by omega), gIn_nI (by omega) (by decide), nI_clamp (by omega)]
      unfold fX3_callAll_88 fX3_callAll_101
      rw [nm_of, nI_1]
      by_cases d : ct (cal n kd Hh (Q h) g) = -1
      · have hmlt : m < 2 ^ n := by
          have := cnt_mono1 (p := fun q => decide (¬ ct q = -1)) (q := fun _ => true) (x := cal n kd Hh (Q h) g) (n := 2 ^ n) hcl (decide_eq_false (fun w => w d)) rfl (fun _ _ _ => rfl)
          rw [cnt_all] at this
          omega
        have hne : ¬ Q h = cal n kd Hh (Q h) g := fun w => by
          have := hQh.2.2.1
          rw [w, d] at this
          exact nI_m1 (a := K h) (by have := hQh.2.2.2.1; omega) this.symm
        have hK : K h < 1000 := by have := hQh.2.2.2.1; omega
        rw [if_pos d, fa_lit 256, ite_le (by decide) (by omega), if_neg (show ¬ 256 ≤ m by omega), gIn_nI (show Q h < 256 by omega) (by decide), gIn_nI (show cal n kd Hh (Q h) g < 256 by omega) (by decide), gIn_nI (show Q h < 256 by omega) (by decide), nI_clamp (show Q h < 2 ^ 31 by omega), pk_un hne, hQh.2.2.1, nI_1]
        have key := ih (m + 1) (un Q m (cal n kd Hh (Q h) g)) (un K m (K h + 1)) (un B m (if h = 0 then g else B h)) (upd qu m (nI (cal n kd Hh (Q h) g))) (upd ct (cal n kd Hh (Q h) g) (nI (K h + 1))) (upd fc (cal n kd Hh (Q h) g) (nI (if h = 0 then g else B h))) k6 (by omega) (by omega) (by omega) (QS_push (g := g) H hn hh hcl d) (QA_push A T h2 h3 hh (by omega)) (QT_push T hh) (QF_push F hh) K6
        rw [un_n (show ¬ h = m by omega)] at key
        by_cases z : h = 0
        · rw [if_pos (show nI (K h) = 0 from by rw [z, h3]; rfl), gIn_nI (by omega) (by decide), gIn_nI (by omega) (by decide), nm_of, nm_of, nI_1, nI_clamp (by omega), nI_clamp (by omega)]
          rw [if_pos z] at key
          exact key
        · have hz : ¬ nI (K h) = 0 := fun w => by
            have := (nI_eq (b := 0) (by omega) (by decide)).mp w
            have := (A.1 h (by omega) hh).1
            omega
          rw [if_neg hz, gIn_nI (by omega) (by decide), gIn_nI (by omega) (by decide), gIn_nI (by omega) (by decide), nm_of, nm_of, nI_1, nI_clamp (by omega), nI_clamp (by omega), hQh.2.2.2.2 (by omega)]
          rw [if_neg z] at key
          exact key
      · rw [if_neg d]
        obtain ⟨i, hi, hqi⟩ := (h6 _ hcl).resolve_left d
        exact ih m Q K B qu ct fc k6 (by omega) (by omega) hh H A (QT_skip T) (QF_skip F A T h2 h3 hh (by omega) hi hqi) K6
/-- how the search ends -/
def NE (n : Nat) (kd : Nat → Nat) (Hh : Nat → Nat → Bool) (l : Nat) (r : Int32) (ct fc : Nat → Int32) : Prop :=
  (Wd n kd Hh l = l ∧ r = nI l ∧ ct l = 0 ∧ fc l = -1) ∨ ((∀ k, ¬ Dl n kd Hh k l) ∧ r = -1) ∨ ∃ q d b, q < 2 ^ n ∧ r = nI q ∧ ct q = nI d ∧ fc q = nI b ∧ d ≤ 256 ∧ b < n ∧ Op n kd Hh l d b ∧ ∀ g, Op n kd Hh l d g → b ≤ g
theorem Op_ex {k : Nat} (h : Dl n kd Hh k l) (h0 : ¬ Wd n kd Hh l = l) : ∃ d g, Op n kd Hh l d g := by
  obtain ⟨d, -, h1, h2⟩ := Di_ex h
  cases d with
  | zero => exact absurd h1 h0
  | succ d =>
    have h3 := h2 d (by omega)
    rcases h1 with w | ⟨g, w1, w2⟩
    · exact absurd w h3
    · exact ⟨d + 1, g, by omega, h3, w1, w2⟩
theorem near_loop (P : PC n kd Hh sz ki te) : ∀ (f h m : Nat) (Q K B : Nat → Nat) (qu ct fc kn : Nat → Int32), h ≤ m → 300 - h < f → QS n l m Q K B qu ct fc → QA n kd Hh l m Q K B → (h < m → QT m h 0 K B) → (h = 0 ∨ (¬ Wd n kd Hh l = l ∧ ∀ d b, Op n kd Hh l d b → QW n kd Hh m h d b Q K B)) → KV n kd Hh kn → ∃ (r : Int32) (k : (Nat → Int32) × (Nat → Int32) × (Nat → Int32) × (Nat → Int32)), ll6 (fX3_nearestSettled_43 sz li ki te) f qu ct fc kn (nI m) (nI h) = some (r, k) ∧ KV n kd Hh k.2.2.2 ∧ NE n kd Hh l r k.2.1 k.2.2.1 := by
  intro f
  induction f with
  | zero => intro h m Q K B qu ct fc kn _ h; exact absurd h (by omega)
  | succ f ih =>
    intro h m Q K B qu ct fc kn hm hf H A T F Kv
    have hn := P.1
    have hN := two_le hn
    have ih := ih (h + 1)
    show ∃ r k, fX3_nearestSettled_43 sz li ki te (ll6 (fX3_nearestSettled_43 sz li ki te) f) qu ct fc kn (nI m) (nI h) = _ ∧ _
    generalize ll6 (fX3_nearestSettled_43 sz li ki te) f = ag at ih ⊢
    obtain ⟨h1, h2, h3, h4, h5, h6, h7⟩ := id H
    have hm2 : m ≤ 2 ^ n := by rw [h7]; exact cnt_le _ _
    unfold fX3_nearestSettled_43
    rw [ite_le (by omega) (by omega)]
    by_cases c : m ≤ h
    · rw [if_pos c]
      refine ⟨_, _, rfl, Kv, Or.inr (Or.inl ⟨fun k hk => ?_, rfl⟩)⟩
      rcases F with F | ⟨F0, F⟩
      · omega
      · obtain ⟨d, g, O⟩ := Op_ex hk F0
        obtain ⟨i, w1, w2, w3, -⟩ := F d g O
        omega
    · have hh : h < m := by omega
      have hQh := h4 h hh
      have T := T hh
      obtain ⟨k4, e4, K4⟩ := isSettled_r P Kv (l := Q h) (by omega)
      rw [if_neg c, fa_lit 256, ite_le (by decide) (by omega), if_neg (show ¬ 256 ≤ h by omega), gIn_nI (by omega) (by decide), nI_clamp (by omega), hQh.2.1, e4, bR_some, ite_b2]
      by_cases z : Wd n kd Hh (Q h) = Q h
      · rw [if_pos z, gIn_nI (by omega) (by decide)]
        refine ⟨_, _, rfl, K4, ?_⟩
        by_cases y : h = 0
        · subst y
          rw [h2] at z ⊢
          have := hQh.2.2.1
          rw [h2, h3] at this
          exact Or.inl ⟨z, rfl, this, h5⟩
        · obtain ⟨F0, F⟩ := F.resolve_left y
          have a := A.1 h (by omega) hh
          have r0 : Dl n kd Hh (K h) l := by
            have := QA_root A (by omega) hh (j := 0) z
            rw [Nat.zero_add] at this
            exact this
          have r1 : Dl n kd Hh (K h - 1) (cal n kd Hh l (B h)) := by
            have := a.2.2 0 z
            rw [Nat.zero_add] at this
            exact this
          obtain ⟨d, g, O⟩ := Op_ex r0 F0
          have hd := Op_min O r0
          have hle : ∀ g', Op n kd Hh l d g' → K h = d ∧ B h ≤ g' := fun g' O' => by
            obtain ⟨i, w1, w2, w3, w4, w5, w6⟩ := F d g' O'
            rcases A.2 h i (by omega) w1 w3 with v | ⟨v1, v2⟩
            · omega
            · exact ⟨by omega, by omega⟩
          have hK := (hle g O).1
          subst hK
          refine Or.inr (Or.inr ⟨Q h, K h, B h, hQh.1, rfl, hQh.2.2.1, hQh.2.2.2.2 (by omega), by have := hQh.2.2.2.1; omega, a.2.1, ⟨O.1, O.2.1, a.2.1, r1⟩, fun g' O' => (hle g' O').2⟩)
      · rw [if_neg z, gIn_nI (by omega) (by decide)]
        have F1 : QF n kd Hh l m h 0 Q K B := by
          intro d b O
          by_cases y : h = 0
          · subst y
            refine Or.inr ⟨b, by omega, O.2.2.1, ?_, ?_, ?_⟩
            · rw [h3]; exact O.1
            · rw [h3, h2]; exact O.2.2.2
            · rw [if_pos rfl]; exact Nat.le_refl _
          · obtain ⟨F0, F⟩ := F.resolve_left y
            obtain ⟨i, w1, w2, w3, w4, w5, w6⟩ := F d b O
            by_cases x : i = h
            · subst x
              cases hj : d - K i with
              | zero =>
                rw [hj] at w5
                exact absurd w5 z
              | succ j =>
                rw [hj] at w5
                rcases w5 with v | ⟨g, v1, v2⟩
                · have := Op_min O (QA_root A w2 hh v)
                  omega
                · refine Or.inr ⟨g, by omega, v1, by omega, ?_, ?_⟩
                  · rw [show d - (K i + 1) = j by omega]; exact v2
                  · rw [if_neg y]; exact w6
            · exact Or.inl ⟨i, by omega, w2, w3, w4, w5, w6⟩
        obtain ⟨m', Q', K', B', k7, e7, u1, u2, u3, u4, u5, u6⟩ := callAll_loop P (h := h) 1024 0 m Q K B qu ct fc k4 (by omega) (by omega) hh H A T F1 K4
        have e7 : fX3_callAll qu ct fc sz ki te k4 (nI (Q h)) (nI m) = some (nI m', k7) := e7
        rw [e7, bR_some, nm_of, nI_1]
        have F0 : ¬ Wd n kd Hh l = l := by
          rcases F with F | F
          · subst F; rw [h2] at z; exact z
          · exact F.1
        refine ih m' Q' K' B' _ _ _ _ (by omega) (by omega) u2 u3 (fun hlt i i0 im => ?_) (Or.inr ⟨F0, fun d b O => ?_⟩) u6
        · rw [if_neg (by omega)]
          have t := u4 i i0 im
          by_cases y : h = 0
          · subst y
            have a := (u3.1 1 (by omega) hlt).1
            have k0 : K' 0 = 0 := u2.2.2.1
            rw [k0] at t
            exact Or.inl (by rw [Nat.zero_add]; omega)
          · rw [if_neg y] at t
            have s1 := u3.2 h (h + 1) (by omega) (by omega) hlt
            omega
        · rcases u5 d b O with v | ⟨j, v1, v2, -⟩
          · exact v
          · omega
theorem near_r (P : PC n kd Hh sz ki te) (K : KV n kd Hh kn) (hl : l < 2 ^ n) (qu ct fc : Nat → Int32) : ∃ (r : Int32) (k : (Nat → Int32) × (Nat → Int32) × (Nat → Int32) × (Nat → Int32)), fX3_nearestSettled qu ct fc sz (nI l) ki te kn = some (r, k) ∧ KV n kd Hh k.2.2.2 ∧ NE n kd Hh l r k.2.1 k.2.2.1 := by
  have hn := P.1
  have hN := two_le hn
  unfold fX3_nearestSettled
  rw [fillI 256 (by decide), bV_some, nm_of, and255i (by omega), gIn_nI (by omega) (by decide), gIn_nI (by omega) (by decide), nI_clamp (by omega)]
  refine near_loop P 1024 0 1 (fun _ => l) (fun _ => 0) (fun _ => 0) _ _ _ kn (by omega) (by omega) ⟨by omega, rfl, rfl, fun i hi => ?_, pk_us, fun q hq => ?_, ?_⟩ ⟨fun i h0 hi => absurd hi (by omega), fun i j h0 hi hj => absurd hi (by omega)⟩ (fun _ i h0 hi => absurd hi (by omega)) (Or.inl rfl) K
  · obtain rfl : i = 0 := by omega
    exact ⟨hl, pk_us, pk_us, Nat.le_refl _, fun h => absurd h (by omega)⟩
  · by_cases c : q = l
    · exact Or.inr ⟨0, by omega, c.symm⟩
    · rw [pk_un c]
      exact Or.inl (if_pos (by omega))
  · have e := cnt_less (p := fun x => decide (¬ upd (fillF 256 (-1) ct) l 0 x = -1)) (q := fun _ => false) (x := l) (n := 2 ^ n) hl (decide_eq_true (by rw [pk_us]; decide)) rfl (fun i hi hi2 => by
      rw [pk_un hi2]
      exact (decide_eq_false (fun w => w (if_pos (by omega)))).symm)
    have z : ∀ N, cnt (fun _ => false) N = 0 := by
      intro N
      induction N with
      | zero => rfl
      | succ N ih => show cnt _ N + _ = 0; rw [ih, if_neg (by simp)]
    rw [e, z]
end NEAR
