/-! fewest, first -/
section FIRST
variable {sz li to : Int32} {ki co : Nat → Int32} {te : Nat → Int64} {s kn fi st pile wish mark qu ct fc : Nat → Int32} {n l : Nat} {kd cc : Nat → Nat} {Hh : Nat → Nat → Bool}
theorem Op_Di {d b : Nat} (O : Op n kd Hh l d b) : Di n kd Hh d l := by
  have := Dl_c O.2.2.1 O.2.2.2
  rw [show d - 1 + 1 = d by have := O.1; omega] at this
  exact ⟨this, fun e he q => O.2.1 (Dl_le (by omega) q)⟩
theorem op_fewest (R : RA sz li to ki co te s n l kd cc Hh) (K : KV n kd Hh kn) (F : FS fi st) : Both (fX4_fewest sz li ki te kn qu ct fc fi) (fX5_fewest s st pile mark) (fun k1 k2 => KV n kd Hh k1.1 ∧ FS k1.2.2.2.2 k2.1) := by
  obtain ⟨P, M, hL, -⟩ := R
  have hN := two_le P.1
  have hl := hL.1
  unfold fX4_fewest fX5_fewest
  obtain ⟨k8, e8, V⟩ := looksFar_r M pile mark
  obtain ⟨r, k, e, Kv, N⟩ := near_r P K hl qu ct fc
  rw [hL.2.1, e, e8, bV_some, bR_some, hL.2.2, gIn_nI (by omega) (by decide), nI_clamp (by omega), fnd_4, bR_some]
  unfold fX3_callsTo
  rcases V l hl with ⟨v1, v2⟩ | ⟨d, v1, v2, v3⟩
  · rw [v1, orNone_neg, bR_some]
    rcases N with ⟨w1, -⟩ | ⟨-, w2⟩ | ⟨q, d, b, w1, w2, w3, w4, w5, w6, w7, w8⟩
    · exact absurd w1 (v2 0)
    · rw [w2, if_neg (by decide)]
      exact Both.mk ⟨Kv, F.up (by decide)⟩
    · exact absurd (Op_Di w7).1 (v2 d)
  · rw [v2, orNone_nI (by omega), bR_some]
    rcases N with ⟨w1, w2, w3, w4⟩ | ⟨w1, -⟩ | ⟨q, d', b, w1, w2, w3, w4, w5, w6, w7, w8⟩
    · have : d = 0 := Di_u v3 ⟨w1, fun _ h => absurd h (by omega)⟩
      subst this
      rw [w2, if_pos (nI_0le (by omega)), and255i (by omega), gIn_nI (by omega) (by decide), bR_some, nI_clamp (by omega)]
      exact Both.mk' w3 ⟨Kv, F⟩
    · exact absurd v3.1 (w1 d)
    · have : d = d' := Di_u v3 (Op_Di w7)
      subst this
      rw [w2, if_pos (nI_0le (by omega)), and255i (by omega), gIn_nI (by omega) (by decide), bR_some, nI_clamp (by omega)]
      exact Both.mk' w3 ⟨Kv, F⟩
theorem pred_i : ∀ j, j < 9 → nI (j + 1) + -1 = nI j := by decide +kernel
theorem first_none (M : PM n kd Hh s) {y : Int32} (hy : y ≤ 0) {mk : Nat → Int32} : ∀ (f j : Nat) (p : Nat → Int32), j ≤ n → j < f → Ret (ll6 (fX5_first_27 s) f st p mk y (-1) (nI j + -1)) (-1000000004) (fun k => k.1 = upd st 3 (st 3 + 1)) := by
  intro f
  induction f with
  | zero => intro j p _ h; exact absurd h (by omega)
  | succ f ih =>
    intro j p hj hf
    have hn := M.1
    have ih := ih (j - 1) p
    rw [ll6_u]
    generalize ll6 (fX5_first_27 s) f = ag at ih ⊢
    unfold fX5_first_27 fX5_first_61 fX5_first_62
    cases j with
    | zero =>
      rw [if_pos (by decide), orNone_neg, bR_some]
      exact Ret.mk rfl
    | succ j =>
      rw [pred_i j (by omega), if_neg (nI_neg (by omega)), if_pos hy, nm_of]
      exact ih (by omega) (by omega)
theorem first_some (M : PM n kd Hh s) (hs : s 1 = nI l) (hl : l < 2 ^ n) {mk : Nat → Int32} (V : MF n kd Hh mk) {d b : Nat} (O : Op n kd Hh l d b) (hd : d ≤ 300) (hb : ∀ g, Op n kd Hh l d g → b ≤ g) : ∀ (f j : Nat) (v : Int32) (p : Nat → Int32), j ≤ n → j < f → (j ≤ b → v = nI b) → Ret (ll6 (fX5_first_27 s) f st p mk (nI d) v (nI j + -1)) (nI b) (fun k => k.1 = st) := by
  intro f
  induction f with
  | zero => intro j v p _ h; exact absurd h (by omega)
  | succ f ih =>
    intro j v p hj hf hv
    have hn := M.1
    have hN := two_le hn
    have hbn := O.2.2.1
    have hd1 := O.1
    have ih := ih (j - 1)
    rw [ll6_u]
    generalize ll6 (fX5_first_27 s) f = ag at ih ⊢
    unfold fX5_first_27 fX5_first_61 fX5_first_62
    cases j with
    | zero =>
      rw [if_pos (by decide), hv (by omega), orNone_nI (by omega), bR_some]
      exact Ret.mk rfl
    | succ j =>
      rw [pred_i j (by omega), if_neg (nI_neg (by omega)), fa_lit 0, ite_le (by omega) (by decide), if_neg (show ¬ d ≤ 0 by omega), hs]
      refine Ret.b1 (calledM_r M (show j < n by omega) (show l < 256 by omega) p) (fun k _ => ?_)
      have hc : cal n kd Hh l j < 2 ^ n := cal_lt hl
      rw [gIn_nI (by omega) (by decide), nI_clamp (by omega), show nI d - 1 = nI (d - 1) from by rw [fa_lit 1, nI_sub1 (by omega)], nm_of, nm_of]
      have hE : mk (cal n kd Hh l j) = nI (d - 1) ↔ Op n kd Hh l d j := by
        constructor
        · intro q
          refine ⟨O.1, O.2.1, by omega, ?_⟩
          rcases V _ hc with ⟨a1, a2⟩ | ⟨e, a1, a2, a3⟩
          · rw [a1] at q; exact absurd q.symm (nI_m1 (by omega))
          · rw [a2] at q
            have := (nI_eq (by omega) (by omega)).mp q
            subst this
            exact a3.1
        · intro q
          rcases V _ hc with ⟨a1, a2⟩ | ⟨e, a1, a2, a3⟩
          · exact absurd q.2.2.2 (a2 _)
          · rw [a2]
            congr 1
            refine Di_u a3 ⟨q.2.2.2, fun x hx w => ?_⟩
            exact O.2.1 (Dl_le (show x + 1 ≤ d - 1 by omega) (Dl_c q.2.2.1 w))
      by_cases c : mk (cal n kd Hh l j) = nI (d - 1)
      · rw [if_pos c]
        refine ih (nI j) k (by omega) (by omega) (fun h => ?_)
        have h : j ≤ b := h
        have := hb j (hE.mp c)
        congr 1
        omega
      · rw [if_neg c]
        refine ih v k (by omega) (by omega) (fun h => hv ?_)
        have h : j ≤ b := h
        have : ¬ j = b := fun e => c (hE.mpr (by rw [e]; exact O))
        omega
theorem op_first (R : RA sz li to ki co te s n l kd cc Hh) (K : KV n kd Hh kn) (F : FS fi st) : Both (fX4_first sz li ki te kn qu ct fc fi) (fX5_first s st pile mark) (fun k1 k2 => KV n kd Hh k1.1 ∧ FS k1.2.2.2.2 k2.1) := by
  obtain ⟨P, M, hL, -⟩ := R
  have hn := P.1
  have hN := two_le P.1
  have hl := hL.1
  unfold fX4_first fX5_first
  obtain ⟨k8, e8, V⟩ := looksFar_r M pile mark
  obtain ⟨r, k, e, Kv, N⟩ := near_r P K hl qu ct fc
  rw [hL.2.1, e, e8, bV_some, bR_some, hL.2.2, gIn_nI (by omega) (by decide), nI_clamp (by omega), nm_of, nm_of, M.2.1, show nI n - 1 = nI n + -1 from Int32.sub_eq_add_neg _ _]
  unfold fX3_firstCalledTo fX4_first_28
  rw [fnd_4, bR_some]
  have none : ∀ {y : Int32}, y ≤ 0 → Both (some (-1000000004, (k.2.2.2, k.1, k.2.1, k.2.2.1, upd fi 3 (fi 3 + 1)))) (ll6 (fX5_first_27 s) qF st k8.1 k8.2 y (-1) (nI n + -1)) (fun k1 k2 => KV n kd Hh k1.1 ∧ FS k1.2.2.2.2 k2.1) := fun hy => by
    obtain ⟨k9, e9, h9⟩ := first_none (st := st) M hy (mk := k8.2) 1024 n k8.1 (Nat.le_refl _) (by omega)
    refine ⟨_, _, k9, rfl, e9, Kv, ?_⟩
    rw [h9]
    exact F.up (by decide)
  rcases V l hl with ⟨v1, v2⟩ | ⟨d, v1, v2, v3⟩
  · rw [v1]
    rcases N with ⟨w1, -⟩ | ⟨-, w2⟩ | ⟨q, d, b, w1, w2, w3, w4, w5, w6, w7, w8⟩
    · exact absurd w1 (v2 0)
    · rw [w2, if_neg (by decide), if_neg (by decide)]
      exact none (by decide)
    · exact absurd (Op_Di w7).1 (v2 d)
  · rw [v2]
    rcases N with ⟨w1, w2, w3, w4⟩ | ⟨w1, -⟩ | ⟨q, d', b, w1, w2, w3, w4, w5, w6, w7, w8⟩
    · have : d = 0 := Di_u v3 ⟨w1, fun _ h => absurd h (by omega)⟩
      subst this
      rw [w2, if_pos (nI_0le (by omega)), and255i (by omega), gIn_nI (by omega) (by decide), bR_some, nI_clamp (by omega), w4, if_neg (by decide)]
      exact none (by decide)
    · exact absurd v3.1 (w1 d)
    · have : d = d' := Di_u v3 (Op_Di w7)
      subst this
      rw [w2, if_pos (nI_0le (by omega)), and255i (by omega), gIn_nI (by omega) (by decide), bR_some, nI_clamp (by omega), w4, if_pos (nI_0le (by omega))]
      obtain ⟨k9, e9, h9⟩ := first_some (st := st) M hL.2.2 hl V w7 v1 w8 1024 n (-1) k8.1 (Nat.le_refl _) (by omega) (fun h => absurd h (by omega))
      refine ⟨_, _, k9, rfl, e9, Kv, ?_⟩
      rw [h9]
      exact F
end FIRST
