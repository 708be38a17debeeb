section PARSE3
variable {t g : Nat} {B : Nat → Nat} {by_ ta : Nat → Int32}
theorem Good.one {k m k' c : Nat} {st : Nat → Int32} {V : Nat → Int64} (h1 : k < k') (h2 : k' ≤ t) (hc : c < 143) (hs : ∀ l, l < 256 → ∀ h p, sv (pop (clr l g)) l c h p = some (h + 1, ub p h (LV V l))) : Good g t k m st k' (m + 1) (upd st m (nI c)) V (fun _ => c) := by
  refine ⟨h1, h2, by omega, by omega, fun j hj => pk_un (by omega), fun j a b => ?_, fun l hl => ?_⟩
  · have e : j = m := by omega
    rw [e, pk_us]
    exact ⟨hc, rfl⟩
  · rw [show m + 1 - m = 1 by omega]
    exact Seg.push (fun h p => hs l hl h p)
theorem Good.neg {k m k2 m2 : Nat} {st st2 : Nat → Int32} {V : Nat → Int64} {cs : Nat → Nat} (h : Good g t (k + 1) m st k2 m2 st2 V cs) : Good g t k m st k2 (m2 + 1) (upd st2 m2 (nI 140)) (fun w => V w ^^^ (-1)) (fun j => if j < m2 then cs j else 140) := by
  obtain ⟨a1, a2, a3, a4, a5, a6, a7⟩ := h
  refine ⟨by omega, a2, by omega, by omega, fun j hj => by rw [pk_un (by omega)]; exact a5 j hj, fun j h1 h2 => ?_, fun l hl => ?_⟩
  · show (if j < m2 then cs j else 140) < 143 ∧ _ = nI (if j < m2 then cs j else 140)
    by_cases d : j < m2
    · rw [if_pos d, pk_un (by omega)]; exact a6 j h1 d
    · have e : j = m2 := by omega
      rw [if_neg d, e, pk_us]; exact ⟨by omega, rfl⟩
  · have s1 := (a7 l hl).congr (ds := fun j => if j < m2 then cs j else 140) (fun j h1 h2 => if_pos (by omega))
    have s2 := s1.not (by
      show (if m + (m2 - m) < m2 then cs (m + (m2 - m)) else 140) = 140
      rw [if_neg (by omega)])
    rw [show m2 + 1 - m = m2 - m + 1 by omega, LV_not]
    exact s2
theorem Good.par {k m k2 m2 : Nat} {st st2 : Nat → Int32} {V : Nat → Int64} {cs : Nat → Nat} (h : Good g t (k + 1) m st k2 m2 st2 V cs) (hk : k2 < t) : Good g t k m st (k2 + 1) m2 st2 V cs := by
  obtain ⟨a1, a2, a3, a4, a5⟩ := h
  exact ⟨by omega, by omega, a3, by omega, a5⟩
theorem pk_cases (t : Nat) (B : Nat → Nat) (k : Nat) : pk t B k = -1 ∨ (k < t ∧ pk t B k = nI (B k)) := by
  unfold pk
  by_cases c : k < t
  · rw [if_pos c]; exact Or.inr ⟨c, rfl⟩
  · rw [if_neg c]; exact Or.inl rfl
theorem c36 (H : RB t B by_ ta) {gA gU : TC} {k o w : Nat} (hk : k ≤ t) (ho : o ≤ 6) (h : o = 6 ∨ (¬ pk t B k = 33 ∧ ¬ pk t B k = 40)) : fX2_unit_36 gA gU (nI t) (nI g) (nI w) by_ (nI k) (-1) (nI o) = fX2_unit_90 gA gU (nI t) (nI g) (nI w) by_ (nI k) (-1) := by
  unfold fX2_unit_36 fX2_unit_63
  by_cases c : 6 ≤ o
  · have c6 : (6 : Int32) ≤ nI o := (nI_leI (a := 6) (by decide) (by omega)).mpr c
    rw [if_pos c6, if_pos c6]
  · obtain ⟨h1, h2⟩ := h.resolve_left (by omega)
    have c6 : ¬ (6 : Int32) ≤ nI o := fun q => c ((nI_leI (a := 6) (by decide) (by omega)).mp q)
    rw [if_neg c6, passes_f H hk h1, bR_some, if_pos (show (0 : Int32) = 0 from rfl), if_neg c6, passes_f H hk h2, bR_some, if_pos (show (0 : Int32) = 0 from rfl)]
theorem c90_fail (H : RB t B by_ ta) {gA gU : TC} {k w : Nat} (hk : k ≤ t) (h1 : ¬ pk t B k = 110) (h2 : ¬ pk t B k = 49) (h3 : ¬ pk t B k = 48) : fX2_unit_90 gA gU (nI t) (nI g) (nI w) by_ (nI k) (-1) = some (0, (nI k, nI k)) := by
  unfold fX2_unit_90
  rw [passes_f H hk h1, bR_some, if_pos rfl, passes_f H hk h2, bR_some, if_pos rfl, passes_f H hk h3, bR_some, if_pos rfl, fail_nf, bR_some]
theorem lay_eqM {a m : Nat} {st : Nat → Int32} {v : Int32} (hm : m < 64) : fX5_lay (nI a) (nI m) st v = some (nI (a + 1), nI (m + 1), upd st m v) := by
  unfold fX5_lay
  rw [gIn_nI hm (by decide), nm_of, nm_of, nI_1, nI_1, nI_clamp (by omega)]
theorem sv_130 (o l h : Nat) (p : Nat → Bool) : sv o l 130 h p = some (h + 1, ub p h true) := rfl
theorem sv_131 (o l h : Nat) (p : Nat → Bool) : sv o l 131 h p = some (h + 1, ub p h false) := rfl
theorem LV_m1 {l : Nat} : LV (fun _ => -1) l = true := (by decide +kernel : ∀ i, i < 64 → (-1 : Int64).toBitVec.getLsbD i = true) (l % 64) (Nat.mod_lt _ (by decide))
theorem LV_0 {l : Nat} : LV (fun _ => 0) l = false := by
  show (0#64).getLsbD (l % 64) = false
  exact BitVec.getLsbD_zero
theorem unit_n (H : RB t B by_ ta) (hg : g < 8) {o k m : Nat} {st : Nat → Int32} {gA gU : TC} (ho : o ≤ 6) (hm : m ≤ k) (hk : k ≤ t) (hx : pk t B k = 110) : NFp g t o k m st (fun w => fX2_unit_90 gA gU (nI t) (nI g) (nI w) by_ (nI k) (-1)) (bV (fX5_counted (nI t) (nI k) (-1) (nI m) ta st) (fun k27 => some (k27.1, k27.2.1, k27.2.2.1, nI o, k27.2.2.2))) ∨ FAp t o k m (fun w => fX2_unit_90 gA gU (nI t) (nI g) (nI w) by_ (nI k) (-1)) (bV (fX5_counted (nI t) (nI k) (-1) (nI m) ta st) (fun k27 => some (k27.1, k27.2.1, k27.2.2.1, nI o, k27.2.2.2))) := by
  have ht := H.1
  have hk1 : k < t := pk_less (c := 110) (by decide) hx
  have eC : ∀ w, fX2_unit_90 gA gU (nI t) (nI g) (nI w) by_ (nI k) (-1) = bR (fX2_compared (nI t) (nI (k + 1)) (-1) (nI g) (nI w) by_) (fun r8 k8 => some (r8, (k8.1, k8.2))) := by
    intro w
    unfold fX2_unit_90
    rw [passes_t H hk hx, bR_some, if_neg one_ne]
  simp only [eC]
  by_cases hs : pk t B (k + 1) = 60 ∨ pk t B (k + 1) = 61 ∨ pk t B (k + 1) = 62
  · have hk2 : k + 1 < t := by
      rcases hs with e | e | e
      · exact pk_less (c := 60) (by decide) e
      · exact pk_less (c := 61) (by decide) e
      · exact pk_less (c := 62) (by decide) e
    obtain ⟨sg, hsg, es⟩ : ∃ sg, (sg = 60 ∨ sg = 61 ∨ sg = 62) ∧ pk t B (k + 1) = nI sg := by
      rcases hs with e | e | e
      · exact ⟨60, Or.inl rfl, e⟩
      · exact ⟨61, Or.inr (Or.inl rfl), e⟩
      · exact ⟨62, Or.inr (Or.inr rfl), e⟩
    have eC2 : ∀ w, fX2_compared (nI t) (nI (k + 1)) (-1) (nI g) (nI w) by_ = fX2_compared_28 (nI t) (nI g) (nI w) by_ (nI (k + 1)) (-1) (nI sg) := by
      intro w
      unfold fX2_compared
      rw [sign_nf H (by omega), bR_some, es]
      rcases hsg with rfl | rfl | rfl
      · rw [if_pos (show nI 60 = 60 from rfl)]
      · rw [if_neg (show ¬ nI 61 = 60 by decide), if_pos (show nI 61 = 61 from rfl)]
      · rw [if_neg (show ¬ nI 62 = 60 by decide), if_neg (show ¬ nI 62 = 61 by decide), if_pos (show nI 62 = 62 from rfl)]
    have eM : fX5_counted (nI t) (nI k) (-1) (nI m) ta st = fX5_counted_49 (nI t) ta (nI (k + 1)) (-1) (nI m) st (nI (100 + 10 * (sg - 60))) := by
      unfold fX5_counted
      rw [nm_of, nI_1, look_nf H (by omega), bR_some, es]
      rcases hsg with rfl | rfl | rfl
      · rw [if_pos (show nI 60 = 60 from rfl)]; rfl
      · rw [if_neg (show ¬ nI 61 = 60 by decide), if_pos (show nI 61 = 61 from rfl)]; rfl
      · rw [if_neg (show ¬ nI 62 = 60 by decide), if_neg (show ¬ nI 62 = 61 by decide), if_pos (show nI 62 = 62 from rfl)]; rfl
    simp only [eC2]
    rw [eM]
    unfold fX5_counted_49
    rw [if_pos (nI_0le (by omega)), nm_of, nI_1, look_nf H (by omega), bR_some, in_32 _ 48 57 (by decide) (by decide), bR_some, ite_b2]
    have e48 : (48 : Int32).toInt = 48 := by decide
    have e57 : (57 : Int32).toInt = 57 := by decide
    by_cases hd : 48 ≤ (pk t B (k + 2)).toInt ∧ (pk t B (k + 2)).toInt ≤ 57
    · have hk3 : k + 2 < t := by
        rcases pk_cases t B (k + 2) with e | ⟨e, -⟩
        · rw [e] at hd; exact absurd hd.1 (by decide)
        · exact e
      obtain ⟨b, hb, eb⟩ := i_ex (x := pk t B (k + 2)) (n := 58) (by decide) (by omega) (by omega)
      have hb2 : 48 ≤ b := by have := hd.1; rw [eb, nI_toInt (by omega)] at this; omega
      obtain ⟨V, v1, v2⟩ := lwo_ex (sg := sg) (d := b - 48) hg hsg (by omega)
      have ec : nI (100 + 10 * (sg - 60)) + nI b - 48 = nI (100 + 10 * (sg - 60) + (b - 48)) := by
        rw [nI_add, fa_lit 48, nI_sub1 (by omega)]
        congr 1
        omega
      rw [if_pos hd, eb, bR_some, ec, lay_eqM (by omega), bV_some, bV_some]
      refine Or.inl ⟨k + 3, m + 1, _, V, _, rfl, fun w hw => ?_, Good.one (by omega) (by omega) (by omega) (fun l hl h p => ?_)⟩
      · show bR (fX2_compared_28 (nI t) (nI g) (nI w) by_ (nI (k + 1)) (-1) (nI sg)) (fun r8 k8 => some (r8, (k8.1, k8.2))) = _
        unfold fX2_compared_28
        rw [nm_of, nI_1, sign_nf H (by omega), bR_some, eb, if_neg (show ¬ nI b < 48 from fun q => absurd ((nI_ltI (b := 48) (by omega) (by decide)).mp q) (by omega)), if_pos (show nI b ≤ 57 from (nI_leI (b := 57) (by omega) (by decide)).mpr (by omega)), nm_of, nI_1, show nI b - 48 = nI (b - 48) from by rw [fa_lit 48, nI_sub1 hb2], v1 w hw, bR_some, bR_some]
      · rw [v2 l hl]
        have em : (100 + 10 * (sg - 60) + (b - 48)) % 10 = b - 48 := by omega
        unfold sv cmpB
        rw [if_neg (by omega), em]
        rcases hsg with rfl | rfl | rfl
        · rw [if_pos (by omega), if_pos rfl]
        · rw [if_neg (by omega), if_pos (by omega), if_neg (by decide), if_pos rfl]
        · rw [if_neg (by omega), if_neg (by omega), if_pos (by omega), if_neg (by decide), if_neg (by decide)]
    · rw [if_neg hd, faulty_nf, bV_some, bV_some]
      refine Or.inr ⟨nI (k + 2), k + 2, m, st, rfl, fun w hw => ⟨0, nI (k + 2), ?_⟩, by omega, by omega, by omega, by omega⟩
      show bR (fX2_compared_28 (nI t) (nI g) (nI w) by_ (nI (k + 1)) (-1) (nI sg)) (fun r8 k8 => some (r8, (k8.1, k8.2))) = _
      unfold fX2_compared_28 fX2_compared_55
      rw [nm_of, nI_1, sign_nf H (by omega), bR_some, fail_nf, bR_some]
      by_cases z : pk t B (k + 2) < 48
      · rw [if_pos z, bR_some]
      · rw [if_neg z, if_neg (show ¬ pk t B (k + 2) ≤ 57 by
          rw [Int32.lt_iff_toInt_lt] at z
          rw [Int32.le_iff_toInt_le]
          omega), bR_some]
  · have h1 : ¬ pk t B (k + 1) = 60 := fun q => hs (Or.inl q)
    have h2 : ¬ pk t B (k + 1) = 61 := fun q => hs (Or.inr (Or.inl q))
    have h3 : ¬ pk t B (k + 1) = 62 := fun q => hs (Or.inr (Or.inr q))
    unfold fX5_counted fX5_counted_49
    rw [nm_of, nI_1, look_nf H (by omega), bR_some, if_neg h1, if_neg h2, if_neg h3, if_neg (show ¬ (0 : Int32) ≤ -1 by decide), faulty_nf, bV_some, bV_some]
    refine Or.inr ⟨nI (k + 1), k + 1, m, st, rfl, fun w hw => ⟨0, nI (k + 1), ?_⟩, by omega, by omega, by omega, by omega⟩
    show bR (fX2_compared (nI t) (nI (k + 1)) (-1) (nI g) (nI w) by_) (fun r8 k8 => some (r8, (k8.1, k8.2))) = _
    unfold fX2_compared
    rw [sign_nf H (by omega), bR_some, if_neg h1, if_neg h2, if_neg h3, fail_nf, bR_some, bR_some]
end PARSE3
