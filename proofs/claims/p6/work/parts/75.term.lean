section TERM
variable {sz li to : Int32} {ki co : Nat → Int32} {te : Nat → Int64} {s kn fi st : Nat → Int32} {n l : Nat} {kd cc : Nat → Nat} {Hh : Nat → Nat → Bool}
variable {t g : Nat} {B : Nat → Nat} {by_ ta : Nat → Int32}
theorem RT.rb {tl tp : Int32} (h : RT tl by_ tp ta t) : tl = nI t ∧ tp = nI t ∧ ∃ B, RB t B by_ ta := by
  obtain ⟨h1, h2, h3, h4⟩ := h
  refine ⟨h2, h3, fun j => if c : j < t then (h4 j c).choose else 0, h1, fun j hj => ?_⟩
  have := (h4 j hj).choose_spec
  show (if c : j < t then (h4 j c).choose else 0) < 256 ∧ _ = nI (if c : j < t then (h4 j c).choose else 0) ∧ _ = nI (if c : j < t then (h4 j c).choose else 0)
  rw [dif_pos hj]
  exact this
/-- the reading as a whole: well, or with a fault -/
theorem read_all (H : RB t B by_ ta) (hg : g < 8) (sp : Nat → Int32) : (∃ (m : Nat) (sp' : Nat → Int32) (V : Nat → Int64) (cs : Nat → Nat) (a : Int32), dX5_any 8 (nI t) 0 (-1) 0 0 ta sp = some (a, -1, nI m, nI 0, sp') ∧ a = nI t ∧ 0 < m ∧ m ≤ 60 ∧ (∀ j, j < m → cs j < 143 ∧ sp' j = nI (cs j)) ∧ (∀ l, l < 256 → Seg (pop (clr l g)) l cs 0 m (LV V l)) ∧ ∀ w, w < 4 → ∀ pl fa tt tw, ∃ p, fX2_holdsBy (nI t) pl fa tt tw by_ (nI g) (nI w) = some (V w, (p, -1, nI g, nI w)))
    ∨ (∃ (a : Int32) (f : Int32) (m q : Nat) (sp' : Nat → Int32), dX5_any 8 (nI t) 0 (-1) 0 0 ta sp = some (a, f, nI m, nI 0, sp') ∧ q ≤ 60 ∧ ((f = nI q) ∨ (f = -1 ∧ a = nI q ∧ q < t)) ∧ ∀ w, w < 4 → ∀ pl fa tt tw, ∃ v p, fX2_holdsBy (nI t) pl fa tt tw by_ (nI g) (nI w) = some (v, (p, nI q, nI g, nI w))) := by
  have ht := H.1
  rcases any_8 H hg 0 0 sp (by omega) (by omega) with ⟨k, m, sp', V, cs, u1, u2, u3⟩ | ⟨a, q, m, sp', u1, u2, u3, u4, u5, u6⟩
  · obtain ⟨a1, a2, a3, a4, a5, a6, a7⟩ := u3
    have u1 : dX5_any 8 (nI t) 0 (-1) 0 0 ta sp = some (nI k, -1, nI m, nI 0, sp') := u1
    by_cases c : k = t
    · refine Or.inl ⟨m, sp', V, cs, nI k, u1, by rw [c], a3, by omega, fun j hj => a6 j (by omega) hj, fun l hl => a7 l hl, fun w hw pl fa tt tw => ⟨nI k, ?_⟩⟩
      have e : dX2_anyOf 8 (nI t) 0 (-1) (nI g) (nI w) by_ 0 = some (V w, (nI k, -1)) := u2 w hw
      unfold fX2_holdsBy
      rw [e, bR_some]
      show (if nI t ≤ nI k then _ else _) = _
      rw [if_pos (by rw [c]; exact Int32.le_refl _)]
    · refine Or.inr ⟨nI k, -1, m, k, sp', u1, by omega, Or.inr ⟨rfl, rfl, by omega⟩, fun w hw pl fa tt tw => ⟨V w, nI k, ?_⟩⟩
      have e : dX2_anyOf 8 (nI t) 0 (-1) (nI g) (nI w) by_ 0 = some (V w, (nI k, -1)) := u2 w hw
      unfold fX2_holdsBy
      rw [e, bR_some]
      show (if nI t ≤ nI k then _ else bR (fX2_fail (nI k) (-1)) _) = _
      rw [if_neg (fun q => absurd ((nI_leI (by omega) (by omega)).mp q) (by omega)), fail_nf, bR_some]
  · have u1 : dX5_any 8 (nI t) 0 (-1) 0 0 ta sp = some (a, nI q, nI m, nI 0, sp') := u1
    refine Or.inr ⟨a, nI q, m, q, sp', u1, by omega, Or.inl rfl, fun w hw pl fa tt tw => ?_⟩
    obtain ⟨v, p, e⟩ := u2 w hw
    have e : dX2_anyOf 8 (nI t) 0 (-1) (nI g) (nI w) by_ 0 = some (v, (p, nI q)) := e
    refine ⟨v, p, ?_⟩
    unfold fX2_holdsBy
    rw [e, bR_some]
    show (if nI t ≤ p then _ else bR (fX2_fail p (nI q)) _) = _
    rw [fail_x (nI_m1 (by omega)), bR_some]
    split <;> rfl
theorem tell_eq {w : Nat} (hg : g < 8) (hw : w < 4) (v : Int64) : fX0_tell to te kn (nI g) (nI w) v = some (to ||| nI (2 ^ g), vp_updL te (4 * g + w) v, fillF 256 (-1) kn) := by
  unfold fX0_tell
  have e : nI g * 4 + nI w = nI (4 * g + w) := by rw [fa_lit 4, nI_mulL, nI_add, Nat.mul_comm]
  rw [e, gIn_nI (by omega) (by decide), nm_of, fillI 256 (by decide), bV_some, bit_i g (by omega), nI_clamp (by omega)]
/-- words told from w on -/
def tlw (te : Nat → Int64) (V : Nat → Int64) (g a b : Nat) : Nat → Int64 := fun j => if 4 * g + a ≤ j ∧ j < 4 * g + b then V (j - 4 * g) else te j
theorem tlw_s (te V : Nat → Int64) {g w : Nat} : vp_updL (tlw te V g 0 w) (4 * g + w) (V w) = tlw te V g 0 (w + 1) := by
  funext j
  unfold tlw
  by_cases c : j = 4 * g + w
  · subst c
    rw [pk_uLs, if_pos (by omega)]
    congr 1
    omega
  · rw [pk_uLn c]
    by_cases d : 4 * g + 0 ≤ j ∧ j < 4 * g + w
    · rw [if_pos d, if_pos (by omega)]
    · rw [if_neg d, if_neg (by omega)]
theorem or_self (a b : Int32) : a ||| b ||| b = a ||| b := by rw [Int32.or_assoc, Int32.or_self]
theorem term_loop (hg : g < 8) {V : Nat → Int64} (hV : ∀ w, w < 4 → ∀ pl fa tt tw, ∃ p, fX2_holdsBy (nI t) pl fa tt tw by_ (nI g) (nI w) = some (V w, (p, -1, nI g, nI w))) : ∀ (f w : Nat) (kn : Nat → Int32) (pl fa tt tw : Int32), 1 ≤ w → w ≤ 4 → 4 - w < f → Ret (ll12 (fX4_term_55 sz by_) f (to ||| nI (2 ^ g)) (tlw te V g 0 w) (fillF 256 (-1) kn) (nI t) pl fa tt tw fi (nI g) (-1) (nI w)) 1 (fun k => k.1 = to ||| nI (2 ^ g) ∧ k.2.1 = tlw te V g 0 4 ∧ (∃ kn', k.2.2.1 = fillF 256 (-1) kn') ∧ k.2.2.2.1 = 0 ∧ k.2.2.2.2.2.2.2.2 = fi) := by
  intro f
  induction f with
  | zero => intro w kn pl fa tt tw _ _ h; exact absurd h (by omega)
  | succ f ih =>
    intro w kn pl fa tt tw h1 h2 hf
    have ih := ih (w + 1)
    show Ret (fX4_term_55 sz by_ (ll12 (fX4_term_55 sz by_) f) (to ||| nI (2 ^ g)) (tlw te V g 0 w) (fillF 256 (-1) kn) (nI t) pl fa tt tw fi (nI g) (-1) (nI w)) _ _
    generalize ll12 (fX4_term_55 sz by_) f = ag at ih ⊢
    unfold fX4_term_55 fX4_term_87
    by_cases c : 4 ≤ w
    · have e : w = 4 := by omega
      subst e
      rw [if_pos (show (4 : Int32) ≤ nI 4 by decide), if_neg (show ¬ (0 : Int32) ≤ -1 by decide)]
      exact Ret.mk ⟨rfl, rfl, ⟨kn, rfl⟩, rfl, rfl⟩
    · obtain ⟨p, e⟩ := hV w (by omega) pl fa tt tw
      rw [if_neg (show ¬ (4 : Int32) ≤ nI w from fun q => absurd ((nI_leI (a := 4) (by decide) (by omega)).mp q) (by omega)), e, bR_some, tell_eq hg (by omega), bV_some, nm_of, nI_1, or_self, tlw_s]
      exact ih _ p (-1) (nI g) (nI w) (by omega) (by omega) (by omega)
/-- steps laid as a term -/
def stp (s sp : Nat → Int32) (g a b : Nat) : Nat → Int32 := fun j => if 26 + 64 * g + a ≤ j ∧ j < 26 + 64 * g + b then sp (j - (26 + 64 * g)) else s j
theorem termM_loop (hg : g < 8) {m : Nat} (hm : m ≤ 60) {sp : Nat → Int32} {a f' op : Int32} : ∀ (f k : Nat) (s : Nat → Int32), k ≤ m → m - k < f → ll10 (fX5_term_82 ta) f 0 a f' (nI m) op s st sp (nI g) (nI k) = some (1, (0, a, f', nI m, op, upd (stp s sp g k m) (4 + 3 * g) (nI m), st, sp)) := by
  intro f
  induction f with
  | zero => intro k s _ h; exact absurd h (by omega)
  | succ f ih =>
    intro k s hk hf
    have ih := ih (k + 1)
    show fX5_term_82 ta (ll10 (fX5_term_82 ta) f) 0 a f' (nI m) op s st sp (nI g) (nI k) = _
    generalize ll10 (fX5_term_82 ta) f = ag at ih ⊢
    unfold fX5_term_82
    rw [ite_le (by omega) (by omega)]
    by_cases c : m ≤ k
    · have e : 2 + 3 * nI g + 2 = nI (4 + 3 * g) := by rw [fa_lit 2, fa_lit 3, nI_mulL, nI_add, nI_add]; congr 1; omega
      rw [if_pos c, e, gIn_nI (by omega) (by decide), nI_clamp (by omega)]
      have e2 : stp s sp g k m = s := by
        funext j
        unfold stp
        rw [if_neg (by omega)]
      rw [e2]
    · have e : 26 + 64 * nI g + nI k = nI (26 + 64 * g + k) := by rw [fa_lit 26, fa_lit 64, nI_mulL, nI_add, nI_add]
      rw [if_neg c, e, gIn_nI (by omega) (by decide), gIn_nI (by omega) (by decide), nm_of, nI_1, nI_clamp (by omega), nI_clamp (by omega), ih _ (by omega) (by omega)]
      have e2 : stp (upd s (26 + 64 * g + k) (sp k)) sp g (k + 1) m = stp s sp g k m := by
        funext j
        unfold stp
        by_cases d : j = 26 + 64 * g + k
        · subst d
          rw [if_neg (by omega), if_pos (by omega), pk_us]
          congr 1
          omega
        · rw [pk_un d]
          by_cases z : 26 + 64 * g + k ≤ j ∧ j < 26 + 64 * g + m
          · rw [if_pos z, if_pos (by omega)]
          · rw [if_neg z, if_neg (by omega)]
      rw [e2]
theorem RA.term (R : RA sz li to ki co te s n l kd cc Hh) (hg : g < n) {m : Nat} (hm0 : 0 < m) (hm : m ≤ 60) {sp : Nat → Int32} {cs : Nat → Nat} {V : Nat → Int64} (hc : ∀ j, j < m → cs j < 143 ∧ sp j = nI (cs j)) (hS : ∀ l, l < 256 → Seg (pop (clr l g)) l cs 0 m (LV V l)) : RA sz li (to ||| nI (2 ^ g)) ki co (tlw te V g 0 4) (upd (stp s sp g 0 m) (4 + 3 * g) (nI m)) n l kd cc (fun j l => if j = g then LV V l else Hh j l) := by
  obtain ⟨⟨a1, a2, a3, a4⟩, ⟨b1, b2, b3, b4⟩, c, d, ⟨x, t1, t2, t3⟩, f⟩ := R
  have hs : ∀ j, j < 26 → ¬ j = 4 + 3 * g → upd (stp s sp g 0 m) (4 + 3 * g) (nI m) j = s j := by
    intro j h1 h2
    rw [pk_un h2]
    unfold stp
    rw [if_neg (by omega)]
  refine ⟨⟨a1, a2, a3, fun j hj q hq => ?_⟩, ⟨b1, by rw [hs 0 (by omega) (by omega)]; exact b2, fun j hj => by rw [hs _ (by omega) (by omega)]; exact b3 j hj, fun j hj => ?_⟩, ⟨c.1, c.2.1, by rw [hs 1 (by omega) (by omega)]; exact c.2.2⟩, fun j hj => by rw [hs _ (by omega) (by omega)]; exact d j hj, ⟨x ||| 2 ^ g, ?_, by rw [t2, fa_or], fun j hj => ?_⟩, fun j h1 h2 => ?_⟩
  · show (if j = g then LV V q else Hh j q) = _
    unfold tb tlw
    by_cases e : j = g
    · subst e
      rw [if_pos rfl, if_pos (by omega)]
      unfold LV
      congr 3
      omega
    · rw [if_neg e, if_neg (by omega)]
      exact a4 j hj q hq
  · show TK j (fun l => if j = g then LV V l else Hh j l) _
    by_cases e : j = g
    · subst e
      refine ⟨m, cs, hm, pk_us, fun k hk => ⟨(hc k hk).1, ?_⟩, fun q => absurd q (by omega), fun _ q hq => ?_⟩
      · rw [pk_un (by omega)]
        unfold stp
        rw [if_pos (by omega), ← (hc k hk).2]
        congr 1
        omega
      · show Seg _ _ _ _ _ (if j = j then LV V q else Hh j q)
        rw [if_pos rfl]
        exact hS q hq
    · have e2 : (fun l => if j = g then LV V l else Hh j l) = Hh j := by funext q; rw [if_neg e]
      rw [e2]
      refine (b4 j hj).congr ?_ (fun k hk => ?_)
      · exact hs _ (by omega) (by omega)
      · rw [pk_un (by omega)]
        unfold stp
        rw [if_neg (by omega)]
  · exact Nat.or_lt_two_pow t1 (Nat.pow_lt_pow_right (by decide) hg)
  · rw [Nat.testBit_or, Nat.testBit_two_pow]
    by_cases e : j = g
    · subst e
      rw [pk_us, decide_eq_true rfl, Bool.or_true]
      constructor
      · intro _ q
        have := (nI_eq (b := 0) (by omega) (by decide)).mp q
        omega
      · intro _; rfl
    · rw [hs _ (by omega) (by omega), decide_eq_false (fun q => e q.symm), Bool.or_false]
      exact t3 j hj
  · unfold tlw
    rw [if_neg (by omega)]
    exact f j h1 h2
theorem op_term {tl pl fa tt tw tp at_ fm la op : Int32} {sp : Nat → Int32} (R : RA sz li to ki co te s n l kd cc Hh) (K : KV n kd Hh kn) (T : RT tl by_ tp ta t) (F : FS fi st) (x1 : Int32) : Both (fX4_term sz to te kn tl pl fa tt tw by_ fi x1) (fX5_term tp at_ fm la op s st ta sp x1) (fun k1 k2 => (∃ Hh', RA sz li k1.1 ki co k1.2.1 k2.2.2.2.2.2.1 n l kd cc Hh' ∧ KV n kd Hh' k1.2.2.1) ∧ (∃ t', RT k1.2.2.2.1 by_ k2.1 ta t') ∧ FS k1.2.2.2.2.2.2.2.2 k2.2.2.2.2.2.2.1) := by
  have R0 := R
  have T0 := T
  obtain ⟨e1, e2, B, H⟩ := T.rb
  subst e1; subst e2
  obtain ⟨P, M, -⟩ := R
  have hn := P.1
  have ht := H.1
  have T1 : ∃ t', RT 0 by_ 0 ta t' := ⟨0, by omega, rfl, rfl, fun j hj => absurd hj (by omega)⟩
  unfold fX4_term fX5_term
  rw [show fX0_has sz x1 = some (b2 (0 ≤ x1.toInt ∧ x1.toInt < n), ()) from by rw [P.2.1]; exact has_g hn x1, isG_g M, bR_some, bR_some, ite_b2, ite_b2, fnd_1, fns_1, bR_some, bR_some]
  by_cases h : 0 ≤ x1.toInt ∧ x1.toInt < n
  · rw [if_pos h, if_pos h]
    obtain ⟨g, hg, rfl⟩ := i_ex (x := x1) (n := n) (by omega) h.1 h.2
    rcases read_all (g := g) H (by omega) sp with ⟨m, sp', V, cs, a, u1, u2, u3, u4, u5, u6, u7⟩ | ⟨a, f, m, q, sp', u1, u2, u3, u4⟩
    · obtain ⟨p, e⟩ := u7 0 (by decide) pl fa tt tw
      have e : fX2_holdsBy (nI t) pl fa tt tw by_ (nI g) 0 = some (V 0, (p, -1, nI g, nI 0)) := e
      have et : fX0_tell to te kn (nI g) 0 (V 0) = some (to ||| nI (2 ^ g), vp_updL te (4 * g + 0) (V 0), fillF 256 (-1) kn) := tell_eq (by omega) (w := 0) (by decide) (V 0)
      have e0 : vp_updL te (4 * g + 0) (V 0) = tlw te V g 0 1 := by
        have := tlw_s te V (g := g) (w := 0)
        have e3 : tlw te V g 0 0 = te := by
          funext j
          unfold tlw
          rw [if_neg (by omega)]
        rw [e3] at this
        exact this
      obtain ⟨k1, q1, q2, q3, ⟨kn', q4⟩, q5, q6⟩ := term_loop (sz := sz) (to := to) (te := te) (fi := fi) (g := g) (by omega) u7 1024 1 kn p (-1) (nI g) (nI 0) (by omega) (by omega) (by omega)
      have q1 : ll12 (fX4_term_55 sz by_) qF (to ||| nI (2 ^ g)) (tlw te V g 0 1) (fillF 256 (-1) kn) (nI t) p (-1) (nI g) (nI 0) fi (nI g) (-1) 1 = some (1, k1) := q1
      rw [e, bR_some, if_neg (show ¬ (0 : Int32) ≤ -1 by decide), et, bV_some, e0, q1, u1, bV_some]
      have em : (if (0 : Int32) ≤ -1 then fX5_term_61 ta (nI t) a (-1) (nI m) (nI 0) s st sp' (nI g) else (if nI t ≤ a then fX5_term_61 ta (nI t) a (-1) (nI m) (nI 0) s st sp' (nI g) else bV (fX5_faulty a (-1)) (fun k12 => fX5_term_61 ta (nI t) a k12 (nI m) (nI 0) s st sp' (nI g)))) = some (1, (0, a, -1, nI m, nI 0, upd (stp s sp' g 0 m) (4 + 3 * g) (nI m), st, sp')) := by
        rw [if_neg (show ¬ (0 : Int32) ≤ -1 by decide), if_pos (by rw [u2]; exact Int32.le_refl _)]
        unfold fX5_term_61
        rw [if_pos (show (-1 : Int32) < 0 by decide)]
        exact termM_loop (by omega) u4 1024 0 s (by omega) (by omega)
      rw [em]
      refine Both.mk ⟨⟨fun j l => if j = g then LV V l else Hh j l, ?_, ?_⟩, ?_, by rw [q6]; exact F⟩
      · rw [q2, q3]
        exact R0.term hg u3 u4 u5 u6
      · rw [q4]
        exact KV_new kn'
      · rw [q5]
        exact T1
    · obtain ⟨v, p, e⟩ := u4 0 (by decide) pl fa tt tw
      have e : fX2_holdsBy (nI t) pl fa tt tw by_ (nI g) 0 = some (v, (p, nI q, nI g, nI 0)) := e
      rw [e, bR_some, if_pos (show (0 : Int32) ≤ nI q from nI_0le (by omega)), u1, bV_some]
      unfold fX4_term_87
      rw [if_pos (show (0 : Int32) ≤ nI q from nI_0le (by omega))]
      have em : (if (0 : Int32) ≤ f then fX5_term_61 ta (nI t) a f (nI m) (nI 0) s st sp' (nI g) else (if nI t ≤ a then fX5_term_61 ta (nI t) a f (nI m) (nI 0) s st sp' (nI g) else bV (fX5_faulty a f) (fun k12 => fX5_term_61 ta (nI t) a k12 (nI m) (nI 0) s st sp' (nI g)))) = some ((-1) - nI q, (0, a, nI q, nI m, nI 0, s, st, sp')) := by
        rcases u3 with z | ⟨z1, z2, z3⟩
        · subst z
          rw [if_pos (nI_0le (by omega))]
          unfold fX5_term_61
          rw [if_neg (nI_neg (by omega))]
        · subst z1; subst z2
          rw [if_neg (show ¬ (0 : Int32) ≤ -1 by decide), if_neg (fun w => absurd ((nI_leI (by omega) (by omega)).mp w) (by omega)), faulty_nf, bV_some]
          unfold fX5_term_61
          rw [if_neg (nI_neg (by omega))]
      rw [em]
      exact Both.mk ⟨⟨Hh, R0, K⟩, T1, F⟩
  · rw [if_neg h, if_neg h]
    exact Both.mk ⟨⟨Hh, R0, K⟩, ⟨t, T0⟩, F.up (by decide)⟩
end TERM
