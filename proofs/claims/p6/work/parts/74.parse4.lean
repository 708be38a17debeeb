section PARSE4
variable {t g : Nat} {B : Nat → Nat} {by_ ta : Nat → Int32}
theorem opens_t {k o : Nat} (ho : o < 6) : fX5_opens (nI k) (-1) (nI o) = some (1, (nI (k + 1), -1, nI (o + 1))) := by
  unfold fX5_opens
  rw [if_neg (show ¬ nI o = 6 from fun q => absurd ((nI_eq (b := 6) (by omega) (by decide)).mp q) (by omega)), nm_of, nm_of, nI_1, nI_1]
theorem opens_f {k : Nat} : fX5_opens (nI k) (-1) (nI 6) = some (0, (nI k, nI k, nI 6)) := by
  unfold fX5_opens
  rw [if_pos (show nI 6 = 6 from rfl), faulty_nf, bV_some]
theorem unit_sp (H : RB t B by_ ta) (hg : g < 8) {o : Nat} (ho : o ≤ 6) {gA gU : TC} {gMA gMU : TM} (hA : o < 6 → SP g t by_ ta (o + 1) gA gMA) (hU : o < 6 → SP g t by_ ta (o + 1) gU gMU) : SP g t by_ ta o (fX2_unit gA gU) (fX5_unit gMA gMU) := by
  intro k m st hm hk
  have ht := H.1
  have e97 : (97 : Int32).toInt = 97 := by decide
  have e104 : (104 : Int32).toInt = 104 := by decide
  by_cases hr : 97 ≤ (pk t B k).toInt ∧ (pk t B k).toInt ≤ 104
  · -- a name
    have hk1 : k < t := by
      rcases pk_cases t B k with e | ⟨e, -⟩
      · rw [e] at hr; exact absurd hr.1 (by decide)
      · exact e
    obtain ⟨b, hb, eb⟩ := i_ex (x := pk t B k) (n := 105) (by decide) (by omega) (by omega)
    have hb2 : 97 ≤ b := by have := hr.1; rw [eb, nI_toInt (by omega)] at this; omega
    have ec : nI b - 97 = nI (b - 97) := by rw [fa_lit 97, nI_sub1 hb2]
    refine Or.inl ⟨k + 1, m + 1, upd st m (nI (b - 97)), lw (b - 97), fun _ => b - 97, ?_, fun w hw => ?_, Good.one (by omega) (by omega) (by omega) (fun l hl h p => ?_)⟩
    · unfold fX5_unit
      rw [look_nf H hk, bR_some, in_32 _ 97 104 (by decide) (by decide), bR_some, ite_b2, if_pos hr, eb, ec, lay_eqM (by omega), bV_some]
    · show fX2_unit gA gU (nI t) (nI k) (-1) (nI g) (nI w) by_ (nI o) = _
      unfold fX2_unit
      rw [sign_nf H hk, bR_some, if_neg (show ¬ pk t B k < 97 by rw [Int32.lt_iff_toInt_lt]; omega), if_neg (show ¬ (104 : Int32) < pk t B k by rw [Int32.lt_iff_toInt_lt]; omega), nm_of, nI_1, eb, ec, listsWith_eq _ (by omega) w hw, bR_some]
    · unfold sv
      rw [if_pos (by omega), lw_bit _ (by omega) l hl]
  · have eC : ∀ w, fX2_unit gA gU (nI t) (nI k) (-1) (nI g) (nI w) by_ (nI o) = fX2_unit_36 gA gU (nI t) (nI g) (nI w) by_ (nI k) (-1) (nI o) := by
      intro w
      unfold fX2_unit
      rw [sign_nf H hk, bR_some]
      by_cases z : pk t B k < 97
      · rw [if_pos z]
      · rw [if_neg z, if_pos (show (104 : Int32) < pk t B k by rw [Int32.lt_iff_toInt_lt] at z ⊢; omega)]
    simp only [eC]
    by_cases h48 : pk t B k = 48
    · have hk1 : k < t := pk_less (c := 48) (by decide) h48
      refine Or.inl ⟨k + 1, m + 1, upd st m (nI 131), fun _ => 0, fun _ => 131, ?_, fun w hw => ?_, Good.one (by omega) (by omega) (by omega) (fun l hl h p => by rw [sv_131, LV_0])⟩
      · unfold fX5_unit fX5_unit_42 fX5_unit_58
        rw [look_nf H hk, bR_some, in_32 _ 97 104 (by decide) (by decide), bR_some, ite_b2, if_neg hr, if_pos h48, h48, if_neg (show ¬ (48 : Int32) = 49 by decide), fa_lit 131, lay_eqM (by omega), bV_some]
      · show fX2_unit_36 gA gU (nI t) (nI g) (nI w) by_ (nI k) (-1) (nI o) = _
        rw [c36 H hk ho (Or.inr ⟨by rw [h48]; decide, by rw [h48]; decide⟩)]
        unfold fX2_unit_90
        rw [passes_f H hk (by rw [h48]; decide), bR_some, if_pos rfl, passes_f H hk (by rw [h48]; decide), bR_some, if_pos rfl, passes_t H hk h48, bR_some, if_neg one_ne]
    by_cases h49 : pk t B k = 49
    · have hk1 : k < t := pk_less (c := 49) (by decide) h49
      refine Or.inl ⟨k + 1, m + 1, upd st m (nI 130), fun _ => -1, fun _ => 130, ?_, fun w hw => ?_, Good.one (by omega) (by omega) (by omega) (fun l hl h p => by rw [sv_130, LV_m1])⟩
      · unfold fX5_unit fX5_unit_42 fX5_unit_58
        rw [look_nf H hk, bR_some, in_32 _ 97 104 (by decide) (by decide), bR_some, ite_b2, if_neg hr, if_neg h48, if_pos h49, if_pos h49, fa_lit 130, lay_eqM (by omega), bV_some]
      · show fX2_unit_36 gA gU (nI t) (nI g) (nI w) by_ (nI k) (-1) (nI o) = _
        rw [c36 H hk ho (Or.inr ⟨by rw [h49]; decide, by rw [h49]; decide⟩)]
        unfold fX2_unit_90
        rw [passes_f H hk (by rw [h49]; decide), bR_some, if_pos rfl, passes_t H hk h49, bR_some, if_neg one_ne]
    by_cases h110 : pk t B k = 110
    · have eC2 : ∀ w, fX2_unit_36 gA gU (nI t) (nI g) (nI w) by_ (nI k) (-1) (nI o) = fX2_unit_90 gA gU (nI t) (nI g) (nI w) by_ (nI k) (-1) := fun w => c36 H hk ho (Or.inr ⟨by rw [h110]; decide, by rw [h110]; decide⟩)
      simp only [eC2]
      have eM : fX5_unit gMA gMU (nI t) (nI k) (-1) (nI m) (nI o) ta st = bV (fX5_counted (nI t) (nI k) (-1) (nI m) ta st) (fun k27 => some (k27.1, k27.2.1, k27.2.2.1, nI o, k27.2.2.2)) := by
        unfold fX5_unit
        rw [look_nf H hk, bR_some, in_32 _ 97 104 (by decide) (by decide), bR_some, ite_b2, if_neg hr, if_neg h48, if_neg h49, if_pos h110]
      rw [eM]
      exact unit_n H hg ho hm hk h110
    have eM : fX5_unit gMA gMU (nI t) (nI k) (-1) (nI m) (nI o) ta st = (if pk t B k = 33 then (bR (fX5_opens (nI k) (-1) (nI o)) (fun r21 k21 => (if r21 = 0 then (fX5_unit_129 gMA gMU (nI t) ta k21.1 k21.2.1 (nI m) k21.2.2 st (pk t B k)) else (bV (gMU (nI t) k21.1 k21.2.1 (nI m) k21.2.2 ta st) (fun k23 => nm (k23.2.2.2.1 - 1) (fun u24 => gIn k23.2.2.1 64 (nm (k23.2.2.1 + 1) (fun u26 => some (k23.1, k23.2.1, u26, u24, (upd k23.2.2.2.2 k23.2.2.1.toNatClampNeg 140)))))))))) else (fX5_unit_129 gMA gMU (nI t) ta (nI k) (-1) (nI m) (nI o) st (pk t B k))) := by
      unfold fX5_unit
      rw [look_nf H hk, bR_some, in_32 _ 97 104 (by decide) (by decide), bR_some, ite_b2, if_neg hr, if_neg h48, if_neg h49, if_neg h110]
    rw [eM]
    by_cases h33 : pk t B k = 33
    · have hk1 : k < t := pk_less (c := 33) (by decide) h33
      rw [if_pos h33]
      by_cases ho6 : o < 6
      · have eC2 : ∀ w, fX2_unit_36 gA gU (nI t) (nI g) (nI w) by_ (nI k) (-1) (nI o) = bR (gU (nI t) (nI (k + 1)) (-1) (nI g) (nI w) by_ (nI (o + 1))) (fun r17 k17 => some (r17 ^^^ (-1), (k17.1, k17.2))) := by
          intro w
          unfold fX2_unit_36
          rw [if_neg (show ¬ (6 : Int32) ≤ nI o from fun q => absurd ((nI_leI (a := 6) (by decide) (by omega)).mp q) (by omega)), passes_t H hk h33, bR_some, if_neg one_ne, nI_1]
        simp only [eC2]
        rw [opens_t ho6, bR_some, if_neg one_ne]
        show NFp g t o k m st _ (bV (gMU (nI t) (nI (k + 1)) (-1) (nI m) (nI (o + 1)) ta st) _) ∨ FAp t o k m _ (bV (gMU (nI t) (nI (k + 1)) (-1) (nI m) (nI (o + 1)) ta st) _)
        have eo : nI (o + 1) - 1 = nI o := by rw [fa_lit 1, nI_sub1 (by omega)]; congr 1
        rcases hU ho6 (k + 1) m st (by omega) (by omega) with ⟨k2, m2, st2, V2, cs2, u1, u2, u3⟩ | ⟨a', q, m2, st2, u1, u2, u3, u4, u5, u6⟩
        · have h2 := u3.2.1
          have h4 := u3.2.2.2.1
          refine Or.inl ⟨k2, m2 + 1, upd st2 m2 (nI 140), fun w => V2 w ^^^ (-1), _, ?_, fun w hw => bR_of _ (u2 w hw), u3.neg⟩
          rw [u1, bV_some]
          show nm (nI (o + 1) - 1) (fun u24 => gIn (nI m2) 64 (nm (nI m2 + 1) (fun u26 => some (nI k2, -1, u26, u24, upd st2 (nI m2).toNatClampNeg 140)))) = _
          rw [nm_of, gIn_nI (by omega) (by decide), nm_of, nI_1, nI_clamp (by omega), eo]
          rfl
        · refine Or.inr ⟨a', q, m2 + 1, upd st2 m2 140, ?_, fun w hw => ?_, by omega, u4, by omega, by omega⟩
          · rw [u1, bV_some]
            show nm (nI (o + 1) - 1) (fun u24 => gIn (nI m2) 64 (nm (nI m2 + 1) (fun u26 => some (a', nI q, u26, u24, upd st2 (nI m2).toNatClampNeg 140)))) = _
            rw [nm_of, gIn_nI (by omega) (by decide), nm_of, nI_1, nI_clamp (by omega), eo]
          · obtain ⟨v, p, e⟩ := u2 w hw
            exact ⟨_, _, bR_of _ e⟩
      · have e6 : o = 6 := by omega
        subst e6
        refine Or.inr ⟨nI k, k, m, st, ?_, fun w hw => ⟨0, nI k, ?_⟩, by omega, hk, by omega, by omega⟩
        · rw [opens_f, bR_some, if_pos rfl]
          show fX5_unit_129 gMA gMU (nI t) ta (nI k) (nI k) (nI m) (nI 6) st (pk t B k) = _
          unfold fX5_unit_129 fX5_unit_189
          rw [h33, if_neg (show ¬ (33 : Int32) = 40 by decide), faulty_x (by omega), bV_some]
        · show fX2_unit_36 gA gU (nI t) (nI g) (nI w) by_ (nI k) (-1) (nI 6) = _
          rw [c36 H hk ho (Or.inl rfl), c90_fail H hk (by rw [h33]; decide) (by rw [h33]; decide) (by rw [h33]; decide)]
    · rw [if_neg h33]
      unfold fX5_unit_129
      by_cases h40 : pk t B k = 40
      · have hk1 : k < t := pk_less (c := 40) (by decide) h40
        rw [if_pos h40]
        by_cases ho6 : o < 6
        · have eC2 : ∀ w, fX2_unit_36 gA gU (nI t) (nI g) (nI w) by_ (nI k) (-1) (nI o) = bR (gA (nI t) (nI (k + 1)) (-1) (nI g) (nI w) by_ (nI (o + 1))) (fun r12 k12 => bR (fX2_closed (nI t) k12.1 k12.2 by_ r12) (fun r13 k13 => some (r13, (k13.1, k13.2)))) := by
            intro w
            unfold fX2_unit_36 fX2_unit_63
            have c6 : ¬ (6 : Int32) ≤ nI o := fun q => absurd ((nI_leI (a := 6) (by decide) (by omega)).mp q) (by omega)
            rw [if_neg c6, passes_f H hk h33, bR_some, if_pos rfl, if_neg c6, passes_t H hk h40, bR_some, if_neg one_ne, nI_1]
          simp only [eC2]
          rw [opens_t ho6, bR_some, if_neg one_ne]
          show NFp g t o k m st _ (bV (gMA (nI t) (nI (k + 1)) (-1) (nI m) (nI (o + 1)) ta st) _) ∨ FAp t o k m _ (bV (gMA (nI t) (nI (k + 1)) (-1) (nI m) (nI (o + 1)) ta st) _)
          have eo : nI (o + 1) - 1 = nI o := by rw [fa_lit 1, nI_sub1 (by omega)]; congr 1
          rcases hA ho6 (k + 1) m st (by omega) (by omega) with ⟨k2, m2, st2, V2, cs2, u1, u2, u3⟩ | ⟨a', q, m2, st2, u1, u2, u3, u4, u5, u6⟩
          · have h1 := u3.1
            have h2 := u3.2.1
            have h3 := u3.2.2.1
            have h4 := u3.2.2.2.1
            rw [u1, bV_some]
            show NFp g t o k m st _ (if (0 : Int32) ≤ -1 then fX5_unit_166 gMA gMU (nI t) ta (nI k2) (-1) (nI m2) (nI (o + 1)) st2 else bR (fX5_look (nI t) (nI k2) ta) (fun r9 k9 => (if r9 = 41 then fX5_unit_166 gMA gMU (nI t) ta (nI k2) (-1) (nI m2) (nI (o + 1)) st2 else bV (fX5_faulty (nI k2) (-1)) (fun k11 => fX5_unit_166 gMA gMU (nI t) ta (nI k2) k11 (nI m2) (nI (o + 1)) st2)))) ∨ FAp t o k m _ (if (0 : Int32) ≤ -1 then fX5_unit_166 gMA gMU (nI t) ta (nI k2) (-1) (nI m2) (nI (o + 1)) st2 else bR (fX5_look (nI t) (nI k2) ta) (fun r9 k9 => (if r9 = 41 then fX5_unit_166 gMA gMU (nI t) ta (nI k2) (-1) (nI m2) (nI (o + 1)) st2 else bV (fX5_faulty (nI k2) (-1)) (fun k11 => fX5_unit_166 gMA gMU (nI t) ta (nI k2) k11 (nI m2) (nI (o + 1)) st2))))
            rw [if_neg (show ¬ (0 : Int32) ≤ -1 by decide), look_nf H (by omega), bR_some, faulty_nf, bV_some]
            unfold fX5_unit_166
            simp only [nm_of, nI_1, eo]
            by_cases h41 : pk t B k2 = 41
            · have hk2 : k2 < t := pk_less (c := 41) (by decide) h41
              rw [if_pos h41]
              refine Or.inl ⟨k2 + 1, m2, st2, V2, cs2, rfl, fun w hw => (bR_of _ (u2 w hw)).trans ?_, u3.par hk2⟩
              unfold fX2_closed
              rw [passes_t H (by omega) h41, bR_some, if_neg one_ne, bR_some]
            · rw [if_neg h41]
              refine Or.inr ⟨nI (k2 + 1), k2, m2, st2, rfl, fun w hw => ⟨0, nI k2, (bR_of _ (u2 w hw)).trans ?_⟩, by omega, by omega, by omega, by omega⟩
              unfold fX2_closed
              rw [passes_f H (by omega) h41, bR_some, if_pos rfl, fail_nf, bR_some, bR_some]
          · rw [u1, bV_some]
            show NFp g t o k m st _ (if (0 : Int32) ≤ nI q then fX5_unit_166 gMA gMU (nI t) ta a' (nI q) (nI m2) (nI (o + 1)) st2 else _) ∨ FAp t o k m _ (if (0 : Int32) ≤ nI q then fX5_unit_166 gMA gMU (nI t) ta a' (nI q) (nI m2) (nI (o + 1)) st2 else _)
            rw [if_pos (nI_0le (by omega))]
            unfold fX5_unit_166
            simp only [nm_of, eo]
            refine Or.inr ⟨a' + 1, q, m2, st2, rfl, fun w hw => ?_, by omega, u4, u5, by omega⟩
            obtain ⟨v, p, e⟩ := u2 w hw
            refine ⟨0, p + 0, (bR_of _ e).trans ?_⟩
            unfold fX2_closed
            rw [passes_x (nI_m1 (by omega)) (by decide), bR_some, if_pos rfl, fail_x (nI_m1 (by omega)), bR_some, bR_some]
        · have e6 : o = 6 := by omega
          subst e6
          refine Or.inr ⟨nI k, k, m, st, ?_, fun w hw => ⟨0, nI k, ?_⟩, by omega, hk, by omega, by omega⟩
          · rw [opens_f, bR_some, if_pos rfl]
            show fX5_unit_189 gMA gMU (nI t) ta (nI k) (nI k) (nI m) (nI 6) st = _
            unfold fX5_unit_189
            rw [faulty_x (by omega), bV_some]
          · show fX2_unit_36 gA gU (nI t) (nI g) (nI w) by_ (nI k) (-1) (nI 6) = _
            rw [c36 H hk ho (Or.inl rfl), c90_fail H hk (by rw [h40]; decide) (by rw [h40]; decide) (by rw [h40]; decide)]
      · rw [if_neg h40]
        unfold fX5_unit_189
        rw [faulty_nf, bV_some]
        refine Or.inr ⟨nI k, k, m, st, rfl, fun w hw => ⟨0, nI k, ?_⟩, by omega, hk, by omega, by omega⟩
        show fX2_unit_36 gA gU (nI t) (nI g) (nI w) by_ (nI k) (-1) (nI o) = _
        rw [c36 H hk ho (Or.inr ⟨h33, h40⟩), c90_fail H hk h110 h49 h48]
theorem d_sp (H : RB t B by_ ta) (hg : g < 8) : ∀ (d o : Nat), o ≤ 6 → 7 ≤ d + o → SP g t by_ ta o (dX2_unit d) (dX5_unit d)
  | 0, o, h1, h2 => absurd h2 (by omega)
  | d + 1, o, h1, h2 => by
    have ih := d_sp H hg d (o + 1)
    exact unit_sp H hg h1 (fun h => any_sp H (every_sp H (ih (by omega) (by omega)))) (fun h => ih (by omega) (by omega))
theorem any_8 (H : RB t B by_ ta) (hg : g < 8) : SP g t by_ ta 0 (dX2_anyOf 8) (dX5_any 8) := any_sp H (every_sp H (d_sp H hg 8 0 (by omega) (by omega)))
end PARSE4
