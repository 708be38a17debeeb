/-! the reference: terms as steps on a pile, who would come -/
def ub (p : Nat → Bool) (i : Nat) (v : Bool) : Nat → Bool := fun j => if j = i then v else p j
theorem ub_s {p : Nat → Bool} {i : Nat} {v : Bool} : ub p i v i = v := if_pos rfl
theorem ub_n {p : Nat → Bool} {i j : Nat} {v : Bool} (h : j ≠ i) : ub p i v j = p j := if_neg h
/-- one step, with so many others on the list -/
def sv (o l c h : Nat) (p : Nat → Bool) : Option (Nat × (Nat → Bool)) :=
  if c < 8 then some (h + 1, ub p h (l.testBit c))
  else if c < 110 then some (h + 1, ub p h (decide (o < c % 10)))
  else if c < 120 then some (h + 1, ub p h (decide (o = c % 10)))
  else if c < 130 then some (h + 1, ub p h (decide (c % 10 < o)))
  else if c < 140 then some (h + 1, ub p h (decide (c = 130)))
  else if c = 140 then (if h = 0 then none else some (h, ub p (h - 1) (!p (h - 1))))
  else (if h < 2 then none else some (h - 1, ub p (h - 2) (if c = 141 then p (h - 2) && p (h - 1) else p (h - 2) || p (h - 1))))
def rn (o l : Nat) (cs : Nat → Nat) : Nat → Nat → Nat → (Nat → Bool) → Option (Nat × (Nat → Bool))
  | _, 0, h, p => some (h, p)
  | i, m + 1, h, p => match sv o l (cs i) h p with
    | none => none
    | some q => rn o l cs (i + 1) m q.1 q.2
theorem rn_add (o l : Nat) (cs : Nat → Nat) : ∀ (a b i h : Nat) (p : Nat → Bool) (h1 : Nat) (p1 : Nat → Bool), rn o l cs i a h p = some (h1, p1) → rn o l cs i (a + b) h p = rn o l cs (i + a) b h1 p1
  | 0, b, i, h, p, h1, p1, e => by
    have e : some (h, p) = some (h1, p1) := e
    cases e
    rw [Nat.zero_add]; rfl
  | a + 1, b, i, h, p, h1, p1, e => by
    rw [show a + 1 + b = (a + b) + 1 by omega]
    show (match sv o l (cs i) h p with | none => none | some q => rn o l cs (i + 1) (a + b) q.1 q.2) = _
    have e : (match sv o l (cs i) h p with | none => none | some q => rn o l cs (i + 1) a q.1 q.2) = some (h1, p1) := e
    cases hs : sv o l (cs i) h p with
    | none => rw [hs] at e; cases e
    | some q =>
      rw [hs] at e
      have := rn_add o l cs a b (i + 1) q.1 q.2 h1 p1 e
      rw [show i + (a + 1) = i + 1 + a by omega]
      exact this
theorem rn_one {o l i h : Nat} {cs : Nat → Nat} {p : Nat → Bool} : rn o l cs i 1 h p = sv o l (cs i) h p := by
  show (match sv o l (cs i) h p with | none => none | some q => some (q.1, q.2)) = _
  cases sv o l (cs i) h p <;> rfl
/-- steps that lay just one truth on the pile -/
def Seg (o l : Nat) (cs : Nat → Nat) (i m : Nat) (v : Bool) : Prop := ∀ (h : Nat) (p : Nat → Bool), ∃ p', rn o l cs i m h p = some (h + 1, p') ∧ p' h = v ∧ ∀ j, j < h → p' j = p j
theorem Seg.push {o l i : Nat} {cs : Nat → Nat} {v : Bool} (hs : ∀ h p, sv o l (cs i) h p = some (h + 1, ub p h v)) : Seg o l cs i 1 v := fun h p => ⟨ub p h v, by rw [rn_one, hs], ub_s, fun j hj => ub_n (by omega)⟩
theorem Seg.not {o l i m : Nat} {cs : Nat → Nat} {v : Bool} (h1 : Seg o l cs i m v) (hc : cs (i + m) = 140) : Seg o l cs i (m + 1) (!v) := by
  intro h p
  obtain ⟨p', e, hv, hk⟩ := h1 h p
  refine ⟨ub p' h (!v), ?_, ub_s, fun j hj => by rw [ub_n (by omega)]; exact hk j hj⟩
  rw [rn_add o l cs m 1 i h p _ _ e, rn_one, hc]
  show some (h + 1, ub p' (h + 1 - 1) (!p' (h + 1 - 1))) = _
  rw [Nat.add_sub_cancel, hv]
theorem Seg.bin {o l i m m' : Nat} {cs : Nat → Nat} {a b : Bool} (h1 : Seg o l cs i m a) (h2 : Seg o l cs (i + m) m' b) {c : Nat} (hc : cs (i + m + m') = c) (h3 : 140 < c) : Seg o l cs i (m + m' + 1) (if c = 141 then a && b else a || b) := by
  intro h p
  obtain ⟨p1, e1, v1, k1⟩ := h1 h p
  obtain ⟨p2, e2, v2, k2⟩ := h2 (h + 1) p1
  refine ⟨ub p2 h (if c = 141 then a && b else a || b), ?_, ub_s, fun j hj => by rw [ub_n (by omega), k2 j (by omega)]; exact k1 j hj⟩
  rw [show m + m' + 1 = m + (m' + 1) by omega, rn_add o l cs m (m' + 1) i h p _ _ e1, rn_add o l cs m' 1 (i + m) _ _ _ _ e2, rn_one, hc]
  unfold sv
  rw [if_neg (by omega), if_neg (by omega), if_neg (by omega), if_neg (by omega), if_neg (by omega), if_neg (by omega), if_neg (by omega)]
  have e3 : p2 h = a := by rw [k2 h (by omega), v1]
  show some (h + 1, ub p2 h (if c = 141 then p2 h && p2 (h + 1) else p2 h || p2 (h + 1))) = _
  rw [e3, v2]
theorem Seg.congr {o l i m : Nat} {cs ds : Nat → Nat} {v : Bool} (h : Seg o l cs i m v) (e : ∀ k, i ≤ k → k < i + m → ds k = cs k) : Seg o l ds i m v := by
  have key : ∀ (m i : Nat), (∀ k, i ≤ k → k < i + m → ds k = cs k) → ∀ h p, rn o l ds i m h p = rn o l cs i m h p := by
    intro m
    induction m with
    | zero => intro i _ h p; rfl
    | succ m ih =>
      intro i e h p
      show (match sv o l (ds i) h p with | none => none | some q => rn o l ds (i + 1) m q.1 q.2) = (match sv o l (cs i) h p with | none => none | some q => rn o l cs (i + 1) m q.1 q.2)
      rw [e i (by omega) (by omega)]
      cases sv o l (cs i) h p with
      | none => rfl
      | some q => exact ih (i + 1) (fun k h1 h2 => e k (by omega) (by omega)) q.1 q.2
  intro h0 p
  rw [key m i e h0 p]
  exact h h0 p
theorem diff_i : ∀ o, o < 9 → ∀ d, d < 10 → ((nI o - nI d ≤ 0) ↔ o ≤ d) ∧ ((nI o - nI d = 0) ↔ o = d) ∧ ((0 : Int32) ≤ nI o - nI d ↔ d ≤ o) := by decide +kernel
theorem rem10_i : ∀ c, c < 143 → jrem (nI c) 10 = nI (c % 10) := by decide +kernel
theorem nar_b2 (p : Prop) [Decidable p] : vp_nar .boolean (b2 p) = b2 p := by
  by_cases h : p
  · rw [b2_t h]; rfl
  · rw [b2_f h]; rfl
theorem nar_0 : vp_nar .boolean 0 = b2 (false = true) := rfl
theorem nar_1 : vp_nar .boolean 1 = b2 (true = true) := rfl
/-- the pile's lowest h places -/
def Pl (h : Nat) (p : Nat → Bool) (pile : Nat → Int32) : Prop := ∀ j, j < h → pile j = b2 (p j = true)
theorem Pl.put {h i : Nat} {p : Nat → Bool} {pile : Nat → Int32} (hp : Pl i p pile) (v : Bool) {x : Int32} (hx : x = b2 (v = true)) (hh : h ≤ i + 1) : Pl h (ub p i v) (upd pile i x) := by
  intro j hj
  by_cases c : j = i
  · subst c; rw [pk_us, ub_s, hx]
  · rw [pk_un c, ub_n c]; exact hp j (by omega)
theorem Pl.sub {h i : Nat} {p : Nat → Bool} {pile : Nat → Int32} (hp : Pl i p pile) (hh : h ≤ i) : Pl h p pile := fun j hj => hp j (by omega)
theorem b2_bool (v : Bool) : b2 (v = true) = 0 ↔ v = false := by cases v <;> decide
theorem holds_loop {s : Nat → Int32} {g l m : Nat} {cs : Nat → Nat} (hg : g < 8) (hl : l < 256) (hm : m ≤ 60) (hs : ∀ k, k < m → cs k < 143 ∧ s (26 + 64 * g + k) = nI (cs k)) : ∀ (f i h : Nat) (p : Nat → Bool) (pile : Nat → Int32) (h' : Nat) (p' : Nat → Bool), i ≤ m → m - i < f → h ≤ i → Pl h p pile → rn (pop (clr l g)) l cs i (m - i) h p = some (h', p') → (0 < m → 0 < h') → Ret (ll6 (fX5_holds_13 s) f pile (nI g) (nI l) (nI m) (nI h) (nI i)) (b2 (m = 0 ∨ p' 0 = true)) (fun _ => True)
  | 0, i, h, p, pile, h', p', _, hf, _, _, _, _ => absurd hf (by omega)
  | f + 1, i, h, p, pile, h', p', hi, hf, hh, hp, hr, hz => by
    have ih := holds_loop hg hl hm hs f (i + 1)
    show Ret (fX5_holds_13 s (ll6 (fX5_holds_13 s) f) pile (nI g) (nI l) (nI m) (nI h) (nI i)) _ _
    generalize ll6 (fX5_holds_13 s) f = ag at ih ⊢
    unfold fX5_holds_13
    rw [ite_le (by omega) (by omega)]
    by_cases c : m ≤ i
    · rw [if_pos c]
      rw [show m - i = 0 by omega] at hr
      have hr : some (h, p) = some (h', p') := hr
      cases hr
      rw [fa_lit 0, ite_eqN (by omega) (by omega)]
      by_cases d : m = 0
      · rw [if_pos d, b2_t (Or.inl d)]
        exact Ret.mk trivial
      · rw [if_neg d, hp 0 (hz (by omega))]
        cases e : p 0 with
        | false =>
          rw [b2_f (show ¬ (m = 0 ∨ false = true) from fun q => q.elim d (by simp))]
          exact Ret.mk trivial
        | true =>
          rw [b2_t (show m = 0 ∨ true = true from Or.inr rfl)]
          exact Ret.mk trivial
    · rw [if_neg c]
      have hi2 : i < m := by omega
      obtain ⟨hc, hsi⟩ := hs i hi2
      have hr : rn (pop (clr l g)) l cs i (m - (i + 1) + 1) h p = some (h', p') := by rw [show m - (i + 1) + 1 = m - i by omega]; exact hr
      have hr : (match sv (pop (clr l g)) l (cs i) h p with | none => none | some q => rn (pop (clr l g)) l cs (i + 1) (m - (i + 1)) q.1 q.2) = some (h', p') := hr
      have e : (26 + 64 * nI g) + nI i = nI (26 + 64 * g + i) := by rw [fa_lit 26, fa_lit 64, nI_mulL, nI_add, nI_add]
      rw [e, gIn_nI (by omega) (by decide), nm_of, nI_clamp (by omega), hsi]
      generalize hcc : cs i = cc at hc hr ⊢
      rw [fa_lit 8, ite_le (by decide) (by omega)]
      unfold sv at hr
      by_cases c1 : 8 ≤ cc
      · rw [if_pos c1, fa_lit 130, ite_le (by decide) (by omega)]
        rw [if_neg (show ¬ cc < 8 by omega)] at hr
        by_cases c2 : 130 ≤ cc
        · rw [if_pos c2, fa_lit 140, ite_le (by decide) (by omega)]
          rw [if_neg (show ¬ cc < 110 by omega), if_neg (show ¬ cc < 120 by omega), if_neg (show ¬ cc < 130 by omega)] at hr
          by_cases c3 : 140 ≤ cc
          · rw [if_pos c3, ite_eqN (by omega) (by decide)]
            rw [if_neg (show ¬ cc < 140 by omega)] at hr
            by_cases c4 : cc = 140
            · rw [if_pos c4]
              rw [if_pos c4] at hr
              by_cases c5 : h = 0
              · rw [if_pos c5] at hr; cases hr
              · rw [if_neg c5] at hr
                rw [fa_lit 1, nI_sub1 (by omega), gIn_nI (by omega) (by decide), nI_clamp (by omega), hp (h - 1) (by omega)]
                unfold fX5_holds_213 fX5_holds_294
                rw [gIn_nI (by omega) (by decide), nI_clamp (by omega), gIn_nI (by omega) (by decide), nm_of, nm_of, nI_1]
                cases d : p (h - 1) with
                | false =>
                  rw [d] at hr
                  rw [if_pos (show b2 (false = true) = 0 from rfl)]
                  exact ih h (ub p (h - 1) (!false)) _ h' p' (by omega) (by omega) (by omega) ((hp.sub (show h - 1 ≤ h by omega)).put (!false) rfl (by omega)) hr hz
                | true =>
                  rw [d] at hr
                  rw [if_neg (by decide)]
                  exact ih h (ub p (h - 1) (!true)) _ h' p' (by omega) (by omega) (by omega) ((hp.sub (show h - 1 ≤ h by omega)).put (!true) rfl (by omega)) hr hz
            · rw [if_neg c4]
              rw [if_neg c4] at hr
              by_cases c5 : h < 2
              · rw [if_pos c5] at hr; cases hr
              · rw [if_neg c5] at hr
                have e1 : nI h + (-1) = nI (h - 1) := by
                  have : nI h = nI (h - 1) + 1 := by rw [nI_1]; congr 1; omega
                  rw [this, Int32.add_assoc]
                  show nI (h - 1) + 0 = _
                  simp
                rw [nm_of, e1, fa_lit 141, ite_eqN (by omega) (by decide), fa_lit 1, nI_sub1 (by omega), show h - 1 - 1 = h - 2 by omega]
                have hq : ∀ (v : Bool) (x : Int32), x = b2 (v = true) → (if cc = 141 then p (h - 2) && p (h - 1) else p (h - 2) || p (h - 1)) = v → Ret (fX5_holds_293 s ag pile (nI (h - 2)) x (nI g) (nI l) (nI m) (nI (h - 1)) (nI i)) (b2 (m = 0 ∨ p' 0 = true)) (fun _ => True) := by
                  intro v x ex ev
                  rw [ev] at hr
                  unfold fX5_holds_293 fX5_holds_294
                  rw [gIn_nI (by omega) (by decide), nI_clamp (by omega), nm_of, nI_1, ex, nar_b2]
                  exact ih (h - 1) (ub p (h - 2) v) _ h' p' (by omega) (by omega) (by omega) ((hp.sub (show h - 2 ≤ h by omega)).put v rfl (by omega)) hr hz
                unfold fX5_holds_262 fX5_holds_288
                rw [gIn_nI (by omega) (by decide), gIn_nI (by omega) (by decide), gIn_nI (by omega) (by decide), gIn_nI (by omega) (by decide), nI_clamp (by omega), nI_clamp (by omega), hp (h - 2) (by omega), hp (h - 1) (by omega)]
                by_cases c6 : cc = 141
                · rw [if_pos c6]
                  rw [if_pos c6] at hq
                  cases d1 : p (h - 2) with
                  | false => rw [if_pos (show b2 (false = true) = 0 from rfl)]; exact hq false 0 rfl (by rw [d1]; rfl)
                  | true =>
                    rw [if_neg (by decide)]
                    cases d2 : p (h - 1) with
                    | false => rw [if_pos (show b2 (false = true) = 0 from rfl)]; exact hq false 0 rfl (by rw [d1, d2]; rfl)
                    | true => rw [if_neg (by decide)]; exact hq true 1 rfl (by rw [d1, d2]; rfl)
                · rw [if_neg c6]
                  rw [if_neg c6] at hq
                  cases d1 : p (h - 2) with
                  | true => rw [if_neg (by decide)]; exact hq true 1 rfl (by rw [d1]; rfl)
                  | false =>
                    rw [if_pos (show b2 (false = true) = 0 from rfl)]
                    cases d2 : p (h - 1) with
                    | false => rw [if_pos (show b2 (false = true) = 0 from rfl)]; exact hq false 0 rfl (by rw [d1, d2]; rfl)
                    | true => rw [if_neg (by decide)]; exact hq true 1 rfl (by rw [d1, d2]; rfl)
          · rw [if_neg c3, ite_eqN (by omega) (by decide)]
            rw [if_pos (show cc < 140 by omega)] at hr
            unfold fX5_holds_173 fX5_holds_294
            rw [gIn_nI (by omega) (by decide), gIn_nI (by omega) (by decide), nI_clamp (by omega), nm_of, nm_of, nm_of, nm_of, nI_1, nI_1]
            by_cases c4 : cc = 130
            · rw [if_pos c4]
              rw [decide_eq_true c4] at hr
              exact ih (h + 1) _ _ h' p' (by omega) (by omega) (by omega) (hp.put true nar_1 (by omega)) hr hz
            · rw [if_neg c4]
              rw [decide_eq_false c4] at hr
              exact ih (h + 1) _ _ h' p' (by omega) (by omega) (by omega) (hp.put false nar_0 (by omega)) hr hz
        · rw [if_neg c2, oth_m hl hg, bR_some, nm_of, rem10_i cc hc]
          have ho : pop (clr l g) < 9 := by have := pop_le (clr l g); omega
          generalize pop (clr l g) = o at ho hr ih ⊢
          obtain ⟨k1, k2, k3⟩ := diff_i o ho (cc % 10) (Nat.mod_lt _ (by decide))
          have hq : ∀ (v : Bool) (x : Int32), x = b2 (v = true) → rn o l cs (i + 1) (m - (i + 1)) (h + 1) (ub p h v) = some (h', p') → Ret (fX5_holds_139 s ag pile (nI h) x (nI g) (nI l) (nI m) (nI h) (nI i)) (b2 (m = 0 ∨ p' 0 = true)) (fun _ => True) := by
            intro v x ex hr
            unfold fX5_holds_139 fX5_holds_294
            rw [gIn_nI (by omega) (by decide), nI_clamp (by omega), nm_of, nm_of, nI_1, nI_1, ex, nar_b2]
            exact ih (h + 1) _ _ h' p' (by omega) (by omega) (by omega) (hp.put v rfl (by omega)) hr hz
          rw [fa_lit 110, ite_le (by decide) (by omega), fa_lit 120, ite_le (by decide) (by omega)]
          by_cases c3 : 110 ≤ cc
          · rw [if_pos c3]
            rw [if_neg (show ¬ cc < 110 by omega)] at hr
            by_cases c4 : 120 ≤ cc
            · rw [if_pos c4]
              rw [if_neg (show ¬ cc < 120 by omega), if_pos (show cc < 130 by omega)] at hr
              by_cases c5 : nI o - nI (cc % 10) ≤ 0
              · rw [if_pos c5]
                rw [decide_eq_false (show ¬ cc % 10 < o by have := k1.mp c5; omega)] at hr
                exact hq false 0 rfl hr
              · rw [if_neg c5]
                rw [decide_eq_true (show cc % 10 < o from Nat.not_le.mp fun q => c5 (k1.mpr q))] at hr
                exact hq true 1 rfl hr
            · rw [if_neg c4]
              rw [if_pos (show cc < 120 by omega)] at hr
              by_cases c5 : nI o - nI (cc % 10) = 0
              · rw [if_pos c5]
                rw [decide_eq_true (k2.mp c5)] at hr
                exact hq true 1 rfl hr
              · rw [if_neg c5]
                rw [decide_eq_false (fun q => c5 (k2.mpr q))] at hr
                exact hq false 0 rfl hr
          · rw [if_neg c3]
            rw [if_pos (show cc < 110 by omega)] at hr
            by_cases c5 : (0 : Int32) ≤ nI o - nI (cc % 10)
            · rw [if_pos c5]
              rw [decide_eq_false (show ¬ o < cc % 10 by have := k3.mp c5; omega)] at hr
              exact hq false 0 rfl hr
            · rw [if_neg c5]
              rw [decide_eq_true (show o < cc % 10 from Nat.not_le.mp fun q => c5 (k3.mpr q))] at hr
              exact hq true 1 rfl hr
      · rw [if_neg c1, hasM_i hl (by omega), bR_some, gIn_nI (by omega) (by decide), nm_of, nI_1, nI_clamp (by omega)]
        rw [if_pos (show cc < 8 by omega)] at hr
        unfold fX5_holds_294
        rw [nm_of, nI_1, nar_b2]
        exact ih (h + 1) _ _ h' p' (by omega) (by omega) (by omega) (hp.put (l.testBit cc) rfl (by omega)) hr hz
/-- the term of one, as the reference keeps it -/
def TK (g : Nat) (H : Nat → Bool) (s : Nat → Int32) : Prop := ∃ (m : Nat) (cs : Nat → Nat), m ≤ 60 ∧ s (4 + 3 * g) = nI m ∧ (∀ k, k < m → cs k < 143 ∧ s (26 + 64 * g + k) = nI (cs k)) ∧ (m = 0 → ∀ l, l < 256 → H l = true) ∧ (0 < m → ∀ l, l < 256 → Seg (pop (clr l g)) l cs 0 m (H l))
def PM (n : Nat) (kd : Nat → Nat) (Hh : Nat → Nat → Bool) (s : Nat → Int32) : Prop := n ≤ 8 ∧ s 0 = nI n ∧ (∀ g, g < n → kd g < 6 ∧ s (2 + 3 * g) = nI (kd g)) ∧ ∀ g, g < n → TK g (Hh g) s
theorem its_eq (s : Nat → Int32) {g w : Nat} (hg : g < 8) (hw : w < 3) : fX5_its s (nI g) (nI w) = some (s (2 + 3 * g + w), ()) := by
  unfold fX5_its
  have e : 2 + 3 * nI g + nI w = nI (2 + 3 * g + w) := by rw [fa_lit 2, fa_lit 3, nI_mulL, nI_add, nI_add]
  rw [e, gIn_nI (by omega) (by decide), nI_clamp (by omega)]
theorem holds_r {s : Nat → Int32} {g l : Nat} {H : Nat → Bool} (hg : g < 8) (hl : l < 256) (T : TK g H s) (pile : Nat → Int32) : Ret (fX5_holds s pile (nI g) (nI l)) (b2 (H l = true)) (fun _ => True) := by
  obtain ⟨m, cs, hm, h1, h2, h3, h4⟩ := T
  unfold fX5_holds
  rw [fa_lit 2, its_eq s hg (by decide), bR_some, show 2 + 3 * g + 2 = 4 + 3 * g by omega, h1]
  by_cases c : m = 0
  · subst c
    have := holds_loop (s := s) (cs := cs) hg hl (by decide : (0 : Nat) ≤ 60) (fun k hk => absurd hk (by omega)) 1024 0 0 (fun _ => false) pile 0 (fun _ => false) (by omega) (by omega) (by omega) (fun j hj => absurd hj (by omega)) rfl (fun q => absurd q (by omega))
    rw [b2_t (show (0 : Nat) = 0 ∨ _ from Or.inl rfl)] at this
    rw [b2_t (h3 rfl l hl)]
    exact this
  · obtain ⟨p', e, hv, -⟩ := h4 (by omega) l hl 0 (fun _ => false)
    have := holds_loop hg hl hm h2 1024 0 0 (fun _ => false) pile 1 p' (by omega) (by omega) (by omega) (fun j hj => absurd hj (by omega)) (by rw [Nat.sub_zero]; exact e) (fun _ => by omega)
    rw [hv, b2_congr (show (m = 0 ∨ H l = true) ↔ H l = true from ⟨fun q => q.resolve_left c, Or.inr⟩)] at this
    exact this
