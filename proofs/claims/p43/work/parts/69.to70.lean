section
/-! the sheets -/
def R1 (b z : Int32) (nu : Nat → Int64) (bo so : Nat → Int32) (no : Nat → Int64) (i : Nat) : Prop := b = bo i ∧ (b = 0 ∨ b = 8 ∨ b = 16 ∨ b = 64) ∧ (∃ q, q ≤ 40 ∧ z = nI q ∧ so i = nI q) ∧ ∀ j, j < 40 → nu j = no (40 * i + j)
theorem R1.oth {b z : Int32} {nu : Nat → Int64} {bo so bo' so' : Nat → Int32} {no no' : Nat → Int64} {i : Nat} (h : R1 b z nu bo so no i) (hb : bo' i = bo i) (hs : so' i = so i) (hn : ∀ j, j < 40 → no' (40 * i + j) = no (40 * i + j)) : R1 b z nu bo' so' no' i := by
  obtain ⟨h1, h2, ⟨q, h3, h4, h5⟩, h6⟩ := h
  exact ⟨by rw [hb]; exact h1, h2, ⟨q, h3, h4, by rw [hs]; exact h5⟩, fun j hj => by rw [hn j hj]; exact h6 j hj⟩
theorem R1.put {b z : Int32} {nu : Nat → Int64} {bo so : Nat → Int32} {no : Nat → Int64} {i j : Nat} {v : Int64} (h : R1 b z nu bo so no i) : R1 b z (vp_updL nu j v) bo so (vp_updL no (40 * i + j) v) i := by
  obtain ⟨h1, h2, h3, h4⟩ := h
  refine ⟨h1, h2, h3, fun k hk => ?_⟩
  by_cases c : k = j
  · subst c; rw [pk_uLs, pk_uLs]
  · rw [pk_uLn c, pk_uLn (by omega)]; exact h4 k hk
def RS (b0 z0 : Int32) (n0 : Nat → Int64) (b1 z1 : Int32) (n1 : Nat → Int64) (b2 z2 : Int32) (n2 : Nat → Int64) (b3 z3 : Int32) (n3 : Nat → Int64) (bo so : Nat → Int32) (no : Nat → Int64) : Prop := R1 b0 z0 n0 bo so no 0 ∧ R1 b1 z1 n1 bo so no 1 ∧ R1 b2 z2 n2 bo so no 2 ∧ R1 b3 z3 n3 bo so no 3
theorem sel4_0 {β : Type} (k0 k1 k2 k3 : Option β) : sel4 (nI 0) k0 k1 k2 k3 = k0 := rfl
theorem sel4_1 {β : Type} (k0 k1 k2 k3 : Option β) : sel4 (nI 1) k0 k1 k2 k3 = k1 := rfl
theorem sel4_2 {β : Type} (k0 k1 k2 k3 : Option β) : sel4 (nI 2) k0 k1 k2 k3 = k2 := rfl
theorem sel4_3 {β : Type} (k0 k1 k2 k3 : Option β) : sel4 (nI 3) k0 k1 k2 k3 = k3 := rfl
theorem isSheet_i : ∀ i, i < 4 → fX4_isSheet (nI i) = some (1, ()) := by decide +kernel
theorem isOne_i : ∀ i, i < 4 → fX5_isOne (nI i) = some (1, ()) := by decide +kernel
theorem one_ne : ¬ (1 : Int32) = 0 := by decide
section SHE
variable {b0 z0 b1 z1 b2_ z2 b3 z3 : Int32} {n0 n1 n2 n3 : Nat → Int64} {bo so fi st : Nat → Int32} {no : Nat → Int64}
theorem lackX {x : Int32} (h : ¬ (0 ≤ x.toInt ∧ x.toInt ≤ 3)) : fX4_sheetLack b0 b1 b2_ b3 x = some (-1000000001, ()) := by
  unfold fX4_sheetLack
  rw [isSheet_b2, bR_some, ite_b2, if_neg h]
theorem wrongX {x : Int32} (h : ¬ (0 ≤ x.toInt ∧ x.toInt ≤ 3)) : fX5_wrong bo x = some (-1000000001, ()) := by
  unfold fX5_wrong
  rw [isOne_b2, bR_some, ite_b2, if_neg h]
theorem miss_eq (b : Int32) : bR (fX1_isMissing b) (fun r4 k4 => (if r4 = 0 then (some ((0 : Int32), ())) else (some ((-1000000006), ())))) = some (if b = 0 then -1000000006 else 0, ()) := by
  unfold fX1_isMissing
  by_cases c : b = 0
  · rw [if_pos c, if_pos c]; rfl
  · rw [if_neg c, if_neg c]; rfl
theorem wrong_i {i : Nat} (hi : i < 4) : fX5_wrong bo (nI i) = some (if bo i = 0 then -1000000006 else 0, ()) := by
  unfold fX5_wrong
  rw [isOne_i i hi, bR_some, if_neg one_ne, gIn_nI hi (by decide), nI_clamp (by omega)]
  by_cases c : bo i = 0
  · rw [if_pos c, if_pos c]
  · rw [if_neg c, if_neg c]
theorem lack_0 : fX4_sheetLack b0 b1 b2_ b3 (nI 0) = some (if b0 = 0 then -1000000006 else 0, ()) := by
  unfold fX4_sheetLack
  rw [isSheet_i 0 (by decide), bR_some, if_neg one_ne, sel4_0]
  exact miss_eq b0
theorem lack_1 : fX4_sheetLack b0 b1 b2_ b3 (nI 1) = some (if b1 = 0 then -1000000006 else 0, ()) := by
  unfold fX4_sheetLack
  rw [isSheet_i 1 (by decide), bR_some, if_neg one_ne, sel4_1]
  exact miss_eq b1
theorem lack_2 : fX4_sheetLack b0 b1 b2_ b3 (nI 2) = some (if b2_ = 0 then -1000000006 else 0, ()) := by
  unfold fX4_sheetLack
  rw [isSheet_i 2 (by decide), bR_some, if_neg one_ne, sel4_2]
  exact miss_eq b2_
theorem lack_3 : fX4_sheetLack b0 b1 b2_ b3 (nI 3) = some (if b3 = 0 then -1000000006 else 0, ()) := by
  unfold fX4_sheetLack
  rw [isSheet_i 3 (by decide), bR_some, if_neg one_ne, sel4_3]
  exact miss_eq b3
/-- cut to so many bits -/
def nar (b : Int32) (v : Int64) : Int64 := if b = 8 then v.toInt32.toInt8.toInt32.toInt64 else if b = 16 then v.toInt32.toInt16.toInt32.toInt64 else v
theorem narrowed_eq (b : Int32) (v : Int64) : fX5_narrowed b v = some (nar b v, ()) := by
  unfold fX5_narrowed nar
  split
  · rfl
  · split <;> rfl
theorem put_eq (b : Int32) (nu : Nat → Int64) {j : Nat} (hj : j < 40) (v : Int64) : fX1_put b nu (nI j) v = some (nu j, vp_updL nu j (nar b v)) := by
  unfold fX1_put fX1_put_46 nar
  rw [gIn_nI hj (by decide), nm_of, gIn_nI hj (by decide), gIn_nI hj (by decide), gIn_nI hj (by decide), nI_clamp (by omega)]
  split
  · rfl
  · split <;> rfl
theorem q1_i : ∀ q, q < 41 → ((nI q - 1).toInt64).toInt = (q : Int) - 1 := by decide +kernel
theorem idx_i (i j : Nat) : 40 * nI i + nI j = nI (40 * i + j) := by rw [fa_lit 40, nI_mulL, nI_add]
theorem writeM_eq {i q : Nat} (hi : i < 4) (hb : ¬ bo i = 0) (hq : q ≤ 40) (hs : so i = nI q) (x2 : Int32) (x3 : Int64) : (∀ j, j < q → x2 = nI j → fX5_write st bo so no (nI i) x2 x3 = some (no (40 * i + j), (st, vp_updL no (40 * i + j) (nar (bo i) x3)))) ∧ (¬ (0 ≤ x2.toInt ∧ x2.toInt < q) → fX5_write st bo so no (nI i) x2 x3 = some ((-1000000001 : Int32).toInt64, (upd st 0 (st 0 + 1), no))) := by
  unfold fX5_write
  rw [wrong_i hi, bR_some, if_neg hb, if_pos rfl, gIn_nI hi (by decide), nI_clamp (by omega), hs, in_b2, i64_toInt, q1_i q (by omega), bR_some, ite_b2, fns_1, bR_some, show (0 : Int64).toInt = 0 from by decide]
  constructor
  · intro j hj e
    subst e
    rw [if_pos (by rw [nI_toInt (by omega)]; omega), idx_i, gIn_nI (by omega) (by decide), nm_of, gIn_nI hi (by decide), narrowed_eq, bR_some, gIn_nI (by omega) (by decide), nI_clamp (by omega)]
  · intro h
    rw [if_neg (by omega)]
theorem op_write (H : RS b0 z0 n0 b1 z1 n1 b2_ z2 n2 b3 z3 n3 bo so no) (F : FS fi st) (x1 x2 : Int32) (x3 : Int64) : Both (fX4_write b0 z0 n0 b1 z1 n1 b2_ z2 n2 b3 z3 n3 fi x1 x2 x3) (fX5_write st bo so no x1 x2 x3) (fun k1 k2 => RS b0 z0 k1.1 b1 z1 k1.2.1 b2_ z2 k1.2.2.1 b3 z3 k1.2.2.2.1 bo so k2.2 ∧ FS k1.2.2.2.2 k2.1) := by
  by_cases h : 0 ≤ x1.toInt ∧ x1.toInt ≤ 3
  · obtain ⟨i, hi, rfl⟩ := i_ex (x := x1) (n := 4) (by decide) h.1 (by omega)
    clear h
    obtain ⟨H0, H1, H2, H3⟩ := H
    rcases (show i = 0 ∨ i = 1 ∨ i = 2 ∨ i = 3 by omega) with rfl | rfl | rfl | rfl
    · unfold fX4_write fX4_write_37
      rw [lack_0, bR_some, fnd_1, bR_some]
      obtain ⟨h1, h2, ⟨q, h3, h4, h5⟩, h6⟩ := id H0
      by_cases hb : b0 = 0
      · unfold fX5_write
        rw [wrong_i (by decide), bR_some, ← h1, if_pos hb, if_neg (by decide), if_neg (by decide), fnd_6, fns_6, bR_some, bR_some]
        exact Both.mk ⟨⟨H0, H1, H2, H3⟩, F.up (by decide)⟩
      · have hw := writeM_eq (st := st) (no := no) (bo := bo) (i := 0) (by decide) (by rw [← h1]; exact hb) h3 h5 x2 x3
        rw [if_neg hb, if_pos rfl, sel4_0]
        by_cases hr : 0 ≤ x2.toInt ∧ x2.toInt < q
        · obtain ⟨j, hj, rfl⟩ := i_ex (x := x2) (n := q) (by omega) hr.1 hr.2
          rw [hw.1 j hj rfl, if_neg (nI_neg (by omega)), h4, ite_lt (by omega) (by omega), if_pos hj, put_eq _ _ (by omega), bR_some, ← h1]
          subst h4
          exact Both.mk' (h6 j (by omega)) ⟨⟨H0.put, H1.oth rfl rfl (fun j hj => pk_uLn (by omega)), H2.oth rfl rfl (fun j hj => pk_uLn (by omega)), H3.oth rfl rfl (fun j hj => pk_uLn (by omega))⟩, F⟩
        · rw [hw.2 hr]
          by_cases hx : x2 < 0
          · rw [if_pos hx]; exact Both.mk ⟨⟨H0, H1, H2, H3⟩, F.up (by decide)⟩
          · rw [if_neg hx, if_neg (show ¬ x2 < z0 by
              rw [Int32.lt_iff_toInt_lt, show (0 : Int32).toInt = 0 from by decide] at hx
              rw [h4, Int32.lt_iff_toInt_lt, nI_toInt (by omega)]
              omega)]
            exact Both.mk ⟨⟨H0, H1, H2, H3⟩, F.up (by decide)⟩
    · unfold fX4_write fX4_write_37
      rw [lack_1, bR_some, fnd_1, bR_some]
      obtain ⟨h1, h2, ⟨q, h3, h4, h5⟩, h6⟩ := id H1
      by_cases hb : b1 = 0
      · unfold fX5_write
        rw [wrong_i (by decide), bR_some, ← h1, if_pos hb, if_neg (by decide), if_neg (by decide), fnd_6, fns_6, bR_some, bR_some]
        exact Both.mk ⟨⟨H0, H1, H2, H3⟩, F.up (by decide)⟩
      · have hw := writeM_eq (st := st) (no := no) (bo := bo) (i := 1) (by decide) (by rw [← h1]; exact hb) h3 h5 x2 x3
        rw [if_neg hb, if_pos rfl, sel4_1]
        by_cases hr : 0 ≤ x2.toInt ∧ x2.toInt < q
        · obtain ⟨j, hj, rfl⟩ := i_ex (x := x2) (n := q) (by omega) hr.1 hr.2
          rw [hw.1 j hj rfl, if_neg (nI_neg (by omega)), h4, ite_lt (by omega) (by omega), if_pos hj, put_eq _ _ (by omega), bR_some, ← h1]
          subst h4
          exact Both.mk' (h6 j (by omega)) ⟨⟨H0.oth rfl rfl (fun j hj => pk_uLn (by omega)), H1.put, H2.oth rfl rfl (fun j hj => pk_uLn (by omega)), H3.oth rfl rfl (fun j hj => pk_uLn (by omega))⟩, F⟩
        · rw [hw.2 hr]
          by_cases hx : x2 < 0
          · rw [if_pos hx]; exact Both.mk ⟨⟨H0, H1, H2, H3⟩, F.up (by decide)⟩
          · rw [if_neg hx, if_neg (show ¬ x2 < z1 by
              rw [Int32.lt_iff_toInt_lt, show (0 : Int32).toInt = 0 from by decide] at hx
              rw [h4, Int32.lt_iff_toInt_lt, nI_toInt (by omega)]
              omega)]
            exact Both.mk ⟨⟨H0, H1, H2, H3⟩, F.up (by decide)⟩
    · unfold fX4_write fX4_write_37
      rw [lack_2, bR_some, fnd_1, bR_some]
      obtain ⟨h1, h2, ⟨q, h3, h4, h5⟩, h6⟩ := id H2
      by_cases hb : b2_ = 0
      · unfold fX5_write
        rw [wrong_i (by decide), bR_some, ← h1, if_pos hb, if_neg (by decide), if_neg (by decide), fnd_6, fns_6, bR_some, bR_some]
        exact Both.mk ⟨⟨H0, H1, H2, H3⟩, F.up (by decide)⟩
      · have hw := writeM_eq (st := st) (no := no) (bo := bo) (i := 2) (by decide) (by rw [← h1]; exact hb) h3 h5 x2 x3
        rw [if_neg hb, if_pos rfl, sel4_2]
        by_cases hr : 0 ≤ x2.toInt ∧ x2.toInt < q
        · obtain ⟨j, hj, rfl⟩ := i_ex (x := x2) (n := q) (by omega) hr.1 hr.2
          rw [hw.1 j hj rfl, if_neg (nI_neg (by omega)), h4, ite_lt (by omega) (by omega), if_pos hj, put_eq _ _ (by omega), bR_some, ← h1]
          subst h4
          exact Both.mk' (h6 j (by omega)) ⟨⟨H0.oth rfl rfl (fun j hj => pk_uLn (by omega)), H1.oth rfl rfl (fun j hj => pk_uLn (by omega)), H2.put, H3.oth rfl rfl (fun j hj => pk_uLn (by omega))⟩, F⟩
        · rw [hw.2 hr]
          by_cases hx : x2 < 0
          · rw [if_pos hx]; exact Both.mk ⟨⟨H0, H1, H2, H3⟩, F.up (by decide)⟩
          · rw [if_neg hx, if_neg (show ¬ x2 < z2 by
              rw [Int32.lt_iff_toInt_lt, show (0 : Int32).toInt = 0 from by decide] at hx
              rw [h4, Int32.lt_iff_toInt_lt, nI_toInt (by omega)]
              omega)]
            exact Both.mk ⟨⟨H0, H1, H2, H3⟩, F.up (by decide)⟩
    · unfold fX4_write fX4_write_37
      rw [lack_3, bR_some, fnd_1, bR_some]
      obtain ⟨h1, h2, ⟨q, h3, h4, h5⟩, h6⟩ := id H3
      by_cases hb : b3 = 0
      · unfold fX5_write
        rw [wrong_i (by decide), bR_some, ← h1, if_pos hb, if_neg (by decide), if_neg (by decide), fnd_6, fns_6, bR_some, bR_some]
        exact Both.mk ⟨⟨H0, H1, H2, H3⟩, F.up (by decide)⟩
      · have hw := writeM_eq (st := st) (no := no) (bo := bo) (i := 3) (by decide) (by rw [← h1]; exact hb) h3 h5 x2 x3
        rw [if_neg hb, if_pos rfl, sel4_3]
        by_cases hr : 0 ≤ x2.toInt ∧ x2.toInt < q
        · obtain ⟨j, hj, rfl⟩ := i_ex (x := x2) (n := q) (by omega) hr.1 hr.2
          rw [hw.1 j hj rfl, if_neg (nI_neg (by omega)), h4, ite_lt (by omega) (by omega), if_pos hj, put_eq _ _ (by omega), bR_some, ← h1]
          subst h4
          exact Both.mk' (h6 j (by omega)) ⟨⟨H0.oth rfl rfl (fun j hj => pk_uLn (by omega)), H1.oth rfl rfl (fun j hj => pk_uLn (by omega)), H2.oth rfl rfl (fun j hj => pk_uLn (by omega)), H3.put⟩, F⟩
        · rw [hw.2 hr]
          by_cases hx : x2 < 0
          · rw [if_pos hx]; exact Both.mk ⟨⟨H0, H1, H2, H3⟩, F.up (by decide)⟩
          · rw [if_neg hx, if_neg (show ¬ x2 < z3 by
              rw [Int32.lt_iff_toInt_lt, show (0 : Int32).toInt = 0 from by decide] at hx
              rw [h4, Int32.lt_iff_toInt_lt, nI_toInt (by omega)]
              omega)]
            exact Both.mk ⟨⟨H0, H1, H2, H3⟩, F.up (by decide)⟩
  · unfold fX4_write fX5_write
    rw [lackX h, wrongX h, bR_some, bR_some, if_neg (by decide), if_neg (by decide), fnd_1, fns_1, bR_some, bR_some]
    exact Both.mk ⟨H, F.up (by decide)⟩
theorem sheet_loop {s : Nat} (hs : s < 4) : ∀ (f k : Nat) (no : Nat → Int64), k ≤ 40 → 40 - k < f → ll6 fX5_sheet_85 f st bo so no (nI s) (nI k) = some (so s, (st, bo, so, fun j => if 40 * s + k ≤ j ∧ j < 40 * s + 40 then 0 else no j)) := by
  intro f
  induction f with
  | zero => intro k no _ h; exact absurd h (by omega)
  | succ f ih =>
    intro k no hk hf
    have ih := ih (k + 1)
    show fX5_sheet_85 (ll6 fX5_sheet_85 f) st bo so no (nI s) (nI k) = _
    generalize ll6 fX5_sheet_85 f = ag at ih ⊢
    unfold fX5_sheet_85
    rw [show (if (40 : Int32) ≤ nI k then gIn (nI s) 4 (some (so (nI s).toNatClampNeg, (st, bo, so, no))) else gIn (40 * nI s + nI k) 160 (nm (nI k + 1) (fun u4 => ag st bo so (vp_updL no (40 * nI s + nI k).toNatClampNeg 0) (nI s) u4))) = (if 40 ≤ k then gIn (nI s) 4 (some (so (nI s).toNatClampNeg, (st, bo, so, no))) else gIn (40 * nI s + nI k) 160 (nm (nI k + 1) (fun u4 => ag st bo so (vp_updL no (40 * nI s + nI k).toNatClampNeg 0) (nI s) u4))) from ite_le (a := 40) (by decide) (by omega) _ _]
    by_cases c : 40 ≤ k
    · rw [if_pos c, gIn_nI hs (by decide), nI_clamp (by omega)]
      have e : (fun j => if 40 * s + k ≤ j ∧ j < 40 * s + 40 then 0 else no j) = no := by
        funext j
        rw [if_neg (by omega)]
      rw [e]
    · rw [if_neg c, idx_i, gIn_nI (by omega) (by decide), nm_of, nI_1, nI_clamp (by omega), ih _ (by omega) (by omega)]
      have e : (fun j => if 40 * s + (k + 1) ≤ j ∧ j < 40 * s + 40 then 0 else vp_updL no (40 * s + k) 0 j) = (fun j => if 40 * s + k ≤ j ∧ j < 40 * s + 40 then 0 else no j) := by
        funext j
        by_cases d : j = 40 * s + k
        · subst d; rw [if_neg (by omega), if_pos (by omega), pk_uLs]
        · rw [pk_uLn d]
          by_cases e : 40 * s + k ≤ j ∧ j < 40 * s + 40
          · rw [if_pos e, if_pos (by omega)]
          · rw [if_neg e, if_neg (by omega)]
      rw [e]
/-- numbers all 0 in one sheet -/
def zer (no : Nat → Int64) (i : Nat) : Nat → Int64 := fun j => if 40 * i + 0 ≤ j ∧ j < 40 * i + 40 then 0 else no j
theorem sheetM_eq {i : Nat} (hi : i < 4) (x2 : Int32) {v : Nat} (hv : v ≤ 40) : fX5_sheet_36 st bo so no (nI i) x2 (nI v) = some (if x2 = 0 then 0 else nI v, (st, upd bo i x2, upd so i (if x2 = 0 then 0 else nI v), zer no i)) := by
  unfold fX5_sheet_36 fX5_sheet_81
  rw [if_pos (nI_0le (by omega)), if_pos (show nI v ≤ 40 from (nI_leI (b := 40) (by omega) (by decide)).mpr hv), gIn_nI hi (by decide), gIn_nI hi (by decide), gIn_nI hi (by decide), nI_clamp (by omega)]
  have e : ∀ (y : Int32), ll6 fX5_sheet_85 qF st (upd bo i x2) (upd so i y) no (nI i) 0 = some (y, (st, upd bo i x2, upd so i y, zer no i)) := by
    intro y
    have := sheet_loop (st := st) (bo := upd bo i x2) (so := upd so i y) hi 1024 0 no (by omega) (by omega)
    rw [pk_us] at this
    exact this
  rw [e, e]
  by_cases c : x2 = 0
  · rw [if_pos c, if_pos c]
  · rw [if_neg c, if_neg c]
theorem lay_eq (b z : Int32) (nu : Nat → Int64) (x2 x3 : Int32) : fX1_lay b z nu x2 x3 = some (if x2 = 0 then 0 else x3, (x2, (if x2 = 0 then 0 else x3), fillF 40 0 nu)) := by
  unfold fX1_lay fX1_lay_15
  rw [fillL 40 (by decide)]
  by_cases c : x2 = 0
  · rw [if_pos c, if_pos c]; rfl
  · rw [if_neg c, if_neg c]; rfl
theorem R1.lay {b z : Int32} {nu : Nat → Int64} {i : Nat} (h : R1 b z nu bo so no i) {x2 : Int32} (hx : x2 = 0 ∨ x2 = 8 ∨ x2 = 16 ∨ x2 = 64) {v : Nat} (hv : v ≤ 40) : R1 x2 (if x2 = 0 then 0 else nI v) (fillF 40 0 nu) (upd bo i x2) (upd so i (if x2 = 0 then 0 else nI v)) (zer no i) i := by
  refine ⟨by rw [pk_us], hx, ?_, fun j hj => ?_⟩
  · by_cases c : x2 = 0
    · exact ⟨0, by omega, by rw [if_pos c]; rfl, by rw [pk_us, if_pos c]; rfl⟩
    · exact ⟨v, hv, by rw [if_neg c], by rw [pk_us, if_neg c]⟩
  · unfold fillF zer
    rw [if_pos hj, if_pos (by omega)]
theorem zer_o {i k j : Nat} (h : ¬ k = i) (hj : j < 40) : zer no i (40 * k + j) = no (40 * k + j) := if_neg (by omega)
theorem op_sheet36 (H : RS b0 z0 n0 b1 z1 n1 b2_ z2 n2 b3 z3 n3 bo so no) (F : FS fi st) {i : Nat} (hi : i < 4) {x2 : Int32} (hx : x2 = 0 ∨ x2 = 8 ∨ x2 = 16 ∨ x2 = 64) (x3 : Int32) : Both (fX4_sheet_36 b0 z0 n0 b1 z1 n1 b2_ z2 n2 b3 z3 n3 fi (nI i) x2 x3) (fX5_sheet_36 st bo so no (nI i) x2 x3) (fun k1 k2 => RS k1.1 k1.2.1 k1.2.2.1 k1.2.2.2.1 k1.2.2.2.2.1 k1.2.2.2.2.2.1 k1.2.2.2.2.2.2.1 k1.2.2.2.2.2.2.2.1 k1.2.2.2.2.2.2.2.2.1 k1.2.2.2.2.2.2.2.2.2.1 k1.2.2.2.2.2.2.2.2.2.2.1 k1.2.2.2.2.2.2.2.2.2.2.2.1 k2.2.1 k2.2.2.1 k2.2.2.2 ∧ FS k1.2.2.2.2.2.2.2.2.2.2.2.2 k2.1) := by
  by_cases h : 0 ≤ x3.toInt ∧ x3.toInt ≤ 40
  · obtain ⟨v, hv, rfl⟩ := i_ex (x := x3) (n := 41) (by decide) h.1 (by omega)
    clear h
    rw [sheetM_eq hi x2 (by omega)]
    unfold fX4_sheet_36
    rw [if_pos (nI_0le (by omega)), if_pos (show nI v ≤ 40 from (nI_leI (b := 40) (by omega) (by decide)).mpr (by omega)), lay_eq, lay_eq, lay_eq, lay_eq, bR_some, bR_some, bR_some, bR_some]
    obtain ⟨H0, H1, H2, H3⟩ := H
    rcases (show i = 0 ∨ i = 1 ∨ i = 2 ∨ i = 3 by omega) with rfl | rfl | rfl | rfl
    · rw [sel4_0]
      exact Both.mk ⟨⟨H0.lay hx (by omega), H1.oth (pk_un (f := bo) (x := x2) (k := 0) (j := 1) (by decide)) (pk_un (f := so) (x := if x2 = 0 then 0 else nI v) (k := 0) (j := 1) (by decide)) (fun j hj => zer_o (i := 0) (k := 1) (by decide) hj), H2.oth (pk_un (f := bo) (x := x2) (k := 0) (j := 2) (by decide)) (pk_un (f := so) (x := if x2 = 0 then 0 else nI v) (k := 0) (j := 2) (by decide)) (fun j hj => zer_o (i := 0) (k := 2) (by decide) hj), H3.oth (pk_un (f := bo) (x := x2) (k := 0) (j := 3) (by decide)) (pk_un (f := so) (x := if x2 = 0 then 0 else nI v) (k := 0) (j := 3) (by decide)) (fun j hj => zer_o (i := 0) (k := 3) (by decide) hj)⟩, F⟩
    · rw [sel4_1]
      exact Both.mk ⟨⟨H0.oth (pk_un (f := bo) (x := x2) (k := 1) (j := 0) (by decide)) (pk_un (f := so) (x := if x2 = 0 then 0 else nI v) (k := 1) (j := 0) (by decide)) (fun j hj => zer_o (i := 1) (k := 0) (by decide) hj), H1.lay hx (by omega), H2.oth (pk_un (f := bo) (x := x2) (k := 1) (j := 2) (by decide)) (pk_un (f := so) (x := if x2 = 0 then 0 else nI v) (k := 1) (j := 2) (by decide)) (fun j hj => zer_o (i := 1) (k := 2) (by decide) hj), H3.oth (pk_un (f := bo) (x := x2) (k := 1) (j := 3) (by decide)) (pk_un (f := so) (x := if x2 = 0 then 0 else nI v) (k := 1) (j := 3) (by decide)) (fun j hj => zer_o (i := 1) (k := 3) (by decide) hj)⟩, F⟩
    · rw [sel4_2]
      exact Both.mk ⟨⟨H0.oth (pk_un (f := bo) (x := x2) (k := 2) (j := 0) (by decide)) (pk_un (f := so) (x := if x2 = 0 then 0 else nI v) (k := 2) (j := 0) (by decide)) (fun j hj => zer_o (i := 2) (k := 0) (by decide) hj), H1.oth (pk_un (f := bo) (x := x2) (k := 2) (j := 1) (by decide)) (pk_un (f := so) (x := if x2 = 0 then 0 else nI v) (k := 2) (j := 1) (by decide)) (fun j hj => zer_o (i := 2) (k := 1) (by decide) hj), H2.lay hx (by omega), H3.oth (pk_un (f := bo) (x := x2) (k := 2) (j := 3) (by decide)) (pk_un (f := so) (x := if x2 = 0 then 0 else nI v) (k := 2) (j := 3) (by decide)) (fun j hj => zer_o (i := 2) (k := 3) (by decide) hj)⟩, F⟩
    · rw [sel4_3]
      exact Both.mk ⟨⟨H0.oth (pk_un (f := bo) (x := x2) (k := 3) (j := 0) (by decide)) (pk_un (f := so) (x := if x2 = 0 then 0 else nI v) (k := 3) (j := 0) (by decide)) (fun j hj => zer_o (i := 3) (k := 0) (by decide) hj), H1.oth (pk_un (f := bo) (x := x2) (k := 3) (j := 1) (by decide)) (pk_un (f := so) (x := if x2 = 0 then 0 else nI v) (k := 3) (j := 1) (by decide)) (fun j hj => zer_o (i := 3) (k := 1) (by decide) hj), H2.oth (pk_un (f := bo) (x := x2) (k := 3) (j := 2) (by decide)) (pk_un (f := so) (x := if x2 = 0 then 0 else nI v) (k := 3) (j := 2) (by decide)) (fun j hj => zer_o (i := 3) (k := 2) (by decide) hj), H3.lay hx (by omega)⟩, F⟩
  · unfold fX4_sheet_36 fX5_sheet_36
    rw [fnd_1, fns_1, fnd_7, fns_7, bR_some, bR_some, bR_some, bR_some]
    by_cases h1 : 0 ≤ x3
    · rw [if_pos h1, if_pos h1]
      have h2 : ¬ x3 ≤ 40 := by
        rw [Int32.le_iff_toInt_le, show (0 : Int32).toInt = 0 from by decide] at h1
        rw [Int32.le_iff_toInt_le, show (40 : Int32).toInt = 40 from by decide]
        omega
      rw [if_neg h2, if_neg h2]
      exact Both.mk ⟨H, F.up (by decide)⟩
    · rw [if_neg h1, if_neg h1]
      exact Both.mk ⟨H, F.up (by decide)⟩
theorem op_sheet (H : RS b0 z0 n0 b1 z1 n1 b2_ z2 n2 b3 z3 n3 bo so no) (F : FS fi st) (x1 x2 x3 : Int32) : Both (fX4_sheet b0 z0 n0 b1 z1 n1 b2_ z2 n2 b3 z3 n3 fi x1 x2 x3) (fX5_sheet st bo so no x1 x2 x3) (fun k1 k2 => RS k1.1 k1.2.1 k1.2.2.1 k1.2.2.2.1 k1.2.2.2.2.1 k1.2.2.2.2.2.1 k1.2.2.2.2.2.2.1 k1.2.2.2.2.2.2.2.1 k1.2.2.2.2.2.2.2.2.1 k1.2.2.2.2.2.2.2.2.2.1 k1.2.2.2.2.2.2.2.2.2.2.1 k1.2.2.2.2.2.2.2.2.2.2.2.1 k2.2.1 k2.2.2.1 k2.2.2.2 ∧ FS k1.2.2.2.2.2.2.2.2.2.2.2.2 k2.1) := by
  unfold fX4_sheet fX5_sheet fX4_sheet_29 fX5_sheet_29
  rw [isSheet_b2, isOne_b2, bR_some, bR_some, ite_b2, ite_b2, fnd_1, fns_1, bR_some, bR_some]
  by_cases h : 0 ≤ x1.toInt ∧ x1.toInt ≤ 3
  · rw [if_pos h, if_pos h]
    obtain ⟨i, hi, rfl⟩ := i_ex (x := x1) (n := 4) (by decide) h.1 (by omega)
    by_cases c0 : x2 = 0
    · rw [if_pos c0, if_pos c0]; exact op_sheet36 H F hi (Or.inl c0) x3
    rw [if_neg c0, if_neg c0]
    by_cases c1 : x2 = 8
    · rw [if_pos c1, if_pos c1]; exact op_sheet36 H F hi (Or.inr (Or.inl c1)) x3
    rw [if_neg c1, if_neg c1]
    by_cases c2 : x2 = 16
    · rw [if_pos c2, if_pos c2]; exact op_sheet36 H F hi (Or.inr (Or.inr (Or.inl c2))) x3
    rw [if_neg c2, if_neg c2]
    by_cases c3 : x2 = 64
    · rw [if_pos c3, if_pos c3]; exact op_sheet36 H F hi (Or.inr (Or.inr (Or.inr c3))) x3
    rw [if_neg c3, if_neg c3]
    exact Both.mk ⟨H, F.up (by decide)⟩
  · rw [if_neg h, if_neg h]
    exact Both.mk ⟨H, F.up (by decide)⟩
theorem hasRun_eq {q : Nat} (hq : q ≤ 40) (a m : Int32) : fX1_hasRun (nI q) a m = some (b2 (0 ≤ a.toInt ∧ 0 ≤ m.toInt ∧ a.toInt + m.toInt ≤ q), ()) := by
  unfold fX1_hasRun
  have e0 : (0 : Int32).toInt = 0 := by decide
  by_cases h1 : a < 0
  · rw [if_pos h1, b2_f]
    rw [Int32.lt_iff_toInt_lt] at h1; omega
  rw [if_neg h1]
  rw [Int32.lt_iff_toInt_lt] at h1
  by_cases h2 : m < 0
  · rw [if_pos h2, b2_f]
    rw [Int32.lt_iff_toInt_lt] at h2; omega
  rw [if_neg h2]
  rw [Int32.lt_iff_toInt_lt] at h2
  by_cases h3 : nI q < m
  · rw [if_pos h3, b2_f]
    rw [Int32.lt_iff_toInt_lt, nI_toInt (by omega)] at h3; omega
  rw [if_neg h3]
  rw [Int32.lt_iff_toInt_lt, nI_toInt (by omega)] at h3
  have e : (nI q - m).toInt = (q : Int) - m.toInt := by
    rw [i_sub (by rw [nI_toInt (by omega)]; omega) (by rw [nI_toInt (by omega)]; omega), nI_toInt (by omega)]
  by_cases h4 : nI q - m < a
  · rw [if_pos h4, b2_f]
    rw [Int32.lt_iff_toInt_lt, e] at h4; omega
  · rw [if_neg h4, b2_t]
    rw [Int32.lt_iff_toInt_lt, e] at h4; omega
/-- what a copy asks -/
def run (a m : Int32) (q : Nat) : Prop := 0 ≤ a.toInt ∧ 0 ≤ m.toInt ∧ a.toInt + m.toInt ≤ q
theorem copyC_eq {κ : Type} {b z b' z' : Int32} {nu nu' : Nat → Int64} {q q' : Nat} (hq : q ≤ 40) (hq' : q' ≤ 40) (e : z = nI q) (e' : z' = nI q') (x2 x4 x5 : Int32) (G : (Nat → Int64) → κ) (Bx Mx Kx : Option (Int32 × κ)) : (bR (fX1_isMissing b) (fun r9 _ => (if r9 = 0 then (bR (fX1_isMissing b') (fun r12 _ => (if r12 = 0 then ((if b = b' then (bR (fX1_hasRun z x2 x5) (fun r15 _ => (if r15 = 0 then Bx else (bR (fX1_hasRun z' x4 x5) (fun r17 _ => (if r17 = 0 then Bx else (gCp x2 x4 x5 40 40 (some (x5, G (va_cpy nu nu' x2.toNatClampNeg x4.toNatClampNeg x5.toNatClampNeg)))))))))) else Kx)) else Mx))) else Mx)))
    = (if b = 0 ∨ b' = 0 then Mx else if ¬ b = b' then Kx else if (0 ≤ x2.toInt ∧ 0 ≤ x5.toInt ∧ x2.toInt + x5.toInt ≤ q) ∧ (0 ≤ x4.toInt ∧ 0 ≤ x5.toInt ∧ x4.toInt + x5.toInt ≤ q') then some (x5, G (va_cpy nu nu' x2.toInt.toNat x4.toInt.toNat x5.toInt.toNat)) else Bx) := by
  subst e; subst e'
  unfold fX1_isMissing
  by_cases c1 : b = 0
  · rw [if_pos c1, bR_some, if_neg one_ne, if_pos (Or.inl c1)]
  rw [if_neg c1, bR_some, if_pos rfl]
  by_cases c2 : b' = 0
  · rw [if_pos c2, bR_some, if_neg one_ne, if_pos (Or.inr c2)]
  rw [if_neg c2, bR_some, if_pos rfl, if_neg (show ¬ (b = 0 ∨ b' = 0) from fun q => q.elim c1 c2)]
  by_cases c3 : b = b'
  · rw [if_pos c3, if_neg (fun q => q c3), hasRun_eq hq, bR_some, ite_b2, hasRun_eq hq', bR_some, ite_b2]
    by_cases c4 : 0 ≤ x2.toInt ∧ 0 ≤ x5.toInt ∧ x2.toInt + x5.toInt ≤ q
    · rw [if_pos c4]
      by_cases c5 : 0 ≤ x4.toInt ∧ 0 ≤ x5.toInt ∧ x4.toInt + x5.toInt ≤ q'
      · rw [if_pos c5, if_pos ⟨c4, c5⟩]
        unfold gCp
        have hc : ∀ x : Int32, x.toNatClampNeg = x.toInt.toNat := fun x => rfl
        rw [if_neg]
        · rfl
        · rw [hc, hc, hc, Int32.lt_iff_toInt_lt, Int32.lt_iff_toInt_lt, Int32.lt_iff_toInt_lt, show (0 : Int32).toInt = 0 from by decide]
          omega
      · rw [if_neg c5, if_neg (fun q => c5 q.2)]
    · rw [if_neg c4, if_neg (fun q => c4 q.1)]
  · rw [if_neg c3, if_pos c3]
theorem copy156 {k c m : Nat} (hk : k < 4) (hc : c + m ≤ 40) {mo : Nat → Int64} : ∀ (f i : Nat) (no : Nat → Int64), i ≤ m → m - i < f → ll7 (fX5_copy_156 bo so) f st no mo (nI k) (nI c) (nI m) (nI i) = some (nI m, (st, (fun j => if 40 * k + c + i ≤ j ∧ j < 40 * k + c + m then mo (j - (40 * k + c)) else no j), mo)) := by
  intro f
  induction f with
  | zero => intro i no _ h; exact absurd h (by omega)
  | succ f ih =>
    intro i no hi hf
    have ih := ih (i + 1)
    show fX5_copy_156 bo so (ll7 (fX5_copy_156 bo so) f) st no mo (nI k) (nI c) (nI m) (nI i) = _
    generalize ll7 (fX5_copy_156 bo so) f = ag at ih ⊢
    unfold fX5_copy_156
    rw [ite_le (by omega) (by omega)]
    by_cases d : m ≤ i
    · rw [if_pos d]
      have e : (fun j => if 40 * k + c + i ≤ j ∧ j < 40 * k + c + m then mo (j - (40 * k + c)) else no j) = no := by
        funext j
        rw [if_neg (by omega)]
      rw [e]
    · rw [if_neg d, idx_i, nI_add, gIn_nI (by omega) (by decide), gIn_nI (by omega) (by decide), nm_of, nI_1, nI_clamp (by omega), nI_clamp (by omega), ih _ (by omega) (by omega)]
      have e : (fun j => if 40 * k + c + (i + 1) ≤ j ∧ j < 40 * k + c + m then mo (j - (40 * k + c)) else vp_updL no (40 * k + c + i) (mo i) j) = (fun j => if 40 * k + c + i ≤ j ∧ j < 40 * k + c + m then mo (j - (40 * k + c)) else no j) := by
        funext j
        by_cases d2 : j = 40 * k + c + i
        · subst d2
          rw [if_neg (by omega), if_pos (by omega), pk_uLs]
          congr 1
          omega
        · rw [pk_uLn d2]
          by_cases d3 : 40 * k + c + i ≤ j ∧ j < 40 * k + c + m
          · rw [if_pos d3, if_pos (by omega)]
          · rw [if_neg d3, if_neg (by omega)]
      rw [e]
theorem copy119 {i a k c m : Nat} (hi : i < 4) (hk : k < 4) (ha : a + m ≤ 40) (hc : c + m ≤ 40) : ∀ (f x : Nat) (mo : Nat → Int64), x ≤ m → m - x < f → (∀ j, j < x → mo j = no (40 * i + a + j)) → Ret (ll9 (fX5_copy_119 bo so) f st no mo (nI i) (nI a) (nI k) (nI c) (nI m) (nI x)) (nI m) (fun r => r.1 = st ∧ ∀ j, r.2.1 j = if 40 * k + c ≤ j ∧ j < 40 * k + c + m then no (40 * i + a + (j - (40 * k + c))) else no j) := by
  intro f
  induction f with
  | zero => intro x mo _ h; exact absurd h (by omega)
  | succ f ih =>
    intro x mo hx hf hm
    have ih := ih (x + 1)
    show Ret (fX5_copy_119 bo so (ll9 (fX5_copy_119 bo so) f) st no mo (nI i) (nI a) (nI k) (nI c) (nI m) (nI x)) _ _
    generalize ll9 (fX5_copy_119 bo so) f = ag at ih ⊢
    unfold fX5_copy_119
    rw [ite_le (by omega) (by omega)]
    by_cases d : m ≤ x
    · have e := copy156 (bo := bo) (so := so) (st := st) (mo := mo) hk hc 1024 0 no (by omega) (by omega)
      have e : ll7 (fX5_copy_156 bo so) qF st no mo (nI k) (nI c) (nI m) 0 = _ := e
      rw [if_pos d, e]
      refine Ret.mk ⟨rfl, fun j => ?_⟩
      show (if 40 * k + c + 0 ≤ j ∧ j < 40 * k + c + m then mo (j - (40 * k + c)) else no j) = _
      by_cases d2 : 40 * k + c ≤ j ∧ j < 40 * k + c + m
      · rw [if_pos d2, if_pos (by omega)]; exact hm _ (by omega)
      · rw [if_neg d2, if_neg (by omega)]
    · rw [if_neg d, idx_i, nI_add, gIn_nI (by omega) (by decide), gIn_nI (by omega) (by decide), nm_of, nI_1, nI_clamp (by omega), nI_clamp (by omega)]
      refine ih _ (by omega) (by omega) (fun j hj => ?_)
      by_cases d2 : j = x
      · subst d2; rw [pk_uLs]
      · rw [pk_uLn d2]; exact hm j (by omega)
theorem copyM_r {mo : Nat → Int64} {i k q q' : Nat} (hi : i < 4) (hk : k < 4) (hq : q ≤ 40) (hq' : q' ≤ 40) (e : so i = nI q) (e' : so k = nI q') (x2 x4 x5 : Int32) :
    (bo i = 0 ∨ bo k = 0 → fX5_copy st bo so no mo (nI i) x2 (nI k) x4 x5 = some (-1000000006, (upd st 5 (st 5 + 1), no, mo))) ∧
    (¬ (bo i = 0 ∨ bo k = 0) → ¬ bo i = bo k → fX5_copy st bo so no mo (nI i) x2 (nI k) x4 x5 = some (-1000000003, (upd st 2 (st 2 + 1), no, mo))) ∧
    (¬ (bo i = 0 ∨ bo k = 0) → bo i = bo k → ¬ ((0 ≤ x2.toInt ∧ 0 ≤ x5.toInt ∧ x2.toInt + x5.toInt ≤ q) ∧ (0 ≤ x4.toInt ∧ 0 ≤ x5.toInt ∧ x4.toInt + x5.toInt ≤ q')) → fX5_copy st bo so no mo (nI i) x2 (nI k) x4 x5 = some (-1000000001, (upd st 0 (st 0 + 1), no, mo))) ∧
    (¬ (bo i = 0 ∨ bo k = 0) → bo i = bo k → (0 ≤ x2.toInt ∧ 0 ≤ x5.toInt ∧ x2.toInt + x5.toInt ≤ q) ∧ (0 ≤ x4.toInt ∧ 0 ≤ x5.toInt ∧ x4.toInt + x5.toInt ≤ q') → Ret (fX5_copy st bo so no mo (nI i) x2 (nI k) x4 x5) x5 (fun r => r.1 = st ∧ ∀ j, r.2.1 j = if 40 * k + x4.toInt.toNat ≤ j ∧ j < 40 * k + x4.toInt.toNat + x5.toInt.toNat then no (40 * i + x2.toInt.toNat + (j - (40 * k + x4.toInt.toNat))) else no j)) := by
  have e0 : (0 : Int32).toInt = 0 := by decide
  unfold fX5_copy fX5_copy_14 fX5_copy_39 fX5_copy_109
  rw [isOne_i i hi, isOne_i k hk, bR_some, if_neg one_ne, bR_some, if_neg one_ne, gIn_nI hi (by decide), gIn_nI hi (by decide), gIn_nI hi (by decide), gIn_nI hk (by decide), gIn_nI hk (by decide), gIn_nI hk (by decide), nI_clamp (show i < 2 ^ 31 by omega), nI_clamp (show k < 2 ^ 31 by omega), fns_6, fns_3, fns_1, bR_some, bR_some, bR_some, e, e']
  have hA : ∀ h : ¬ x2 < 0, (nI q - x2).toInt = (q : Int) - x2.toInt := by
    intro h
    rw [Int32.lt_iff_toInt_lt, e0] at h
    have := Int32.toInt_lt x2
    rw [i_sub (by rw [nI_toInt (by omega)]; omega) (by rw [nI_toInt (by omega)]; omega), nI_toInt (by omega)]
  have hB : ∀ h : ¬ x4 < 0, (nI q' - x4).toInt = (q' : Int) - x4.toInt := by
    intro h
    rw [Int32.lt_iff_toInt_lt, e0] at h
    have := Int32.toInt_lt x4
    rw [i_sub (by rw [nI_toInt (by omega)]; omega) (by rw [nI_toInt (by omega)]; omega), nI_toInt (by omega)]
  refine ⟨fun h => ?_, fun h h2 => ?_, fun h h2 h3 => ?_, fun h h2 h3 => ?_⟩
  · by_cases c : bo i = 0
    · rw [if_pos c]
    · rw [if_neg c, if_pos (h.resolve_left c)]
  · rw [if_neg (fun q => h (Or.inl q)), if_neg (fun q => h (Or.inr q)), if_neg h2]
  · rw [if_neg (fun q => h (Or.inl q)), if_neg (fun q => h (Or.inr q)), if_pos h2]
    by_cases c1 : x2 < 0
    · rw [if_pos c1]
    rw [if_neg c1]
    by_cases c2 : x4 < 0
    · rw [if_pos c2]
    rw [if_neg c2]
    by_cases c3 : x5 < 0
    · rw [if_pos c3]
    rw [if_neg c3]
    by_cases c4 : nI q - x2 < x5
    · rw [if_pos c4]
    rw [if_neg c4, if_neg]
    have a1 := hA c1
    have a2 := hB c2
    rw [Int32.lt_iff_toInt_lt] at c1 c2 c3 c4
    rw [Int32.le_iff_toInt_le]
    omega
  · obtain ⟨⟨p1, p2, p3⟩, p4, -, p6⟩ := h3
    have c1 : ¬ x2 < 0 := by rw [Int32.lt_iff_toInt_lt]; omega
    have c2 : ¬ x4 < 0 := by rw [Int32.lt_iff_toInt_lt]; omega
    have c3 : ¬ x5 < 0 := by rw [Int32.lt_iff_toInt_lt]; omega
    have a1 := hA c1
    have a2 := hB c2
    rw [if_neg (fun q => h (Or.inl q)), if_neg (fun q => h (Or.inr q)), if_pos h2, if_neg c1, if_neg c2, if_neg c3, if_neg (show ¬ nI q - x2 < x5 by rw [Int32.lt_iff_toInt_lt]; omega), if_pos (show x5 ≤ nI q' - x4 by rw [Int32.le_iff_toInt_le]; omega)]
    obtain ⟨a, ha, rfl⟩ := i_ex (x := x2) (n := 41) (by decide) p1 (by omega)
    obtain ⟨c, hc, rfl⟩ := i_ex (x := x4) (n := 41) (by decide) p4 (by omega)
    obtain ⟨m, hm, rfl⟩ := i_ex (x := x5) (n := 41) (by decide) p2 (by omega)
    rw [nI_toInt (by omega)] at p3 p6
    rw [nI_toInt (by omega)] at p3 p6
    rw [nI_toInt (by omega), nI_toInt (by omega), nI_toInt (by omega)]
    exact copy119 hi hk (by omega) (by omega) 1024 0 mo (by omega) (by omega) (fun j hj => absurd hj (by omega))
theorem R1.cpy {b z b' z' : Int32} {nu nu' : Nat → Int64} {i k a c m : Nat} (h : R1 b z nu bo so no i) (h' : R1 b' z' nu' bo so no k) (ha : a + m ≤ 40) {no' : Nat → Int64} (hn : ∀ j, no' j = if 40 * k + c ≤ j ∧ j < 40 * k + c + m then no (40 * i + a + (j - (40 * k + c))) else no j) : R1 b' z' (va_cpy nu nu' a c m) bo so no' k := by
  obtain ⟨h1, h2, h3, h4⟩ := h
  obtain ⟨g1, g2, g3, g4⟩ := h'
  refine ⟨g1, g2, g3, fun j hj => ?_⟩
  rw [hn]
  unfold va_cpy
  by_cases d : c ≤ j ∧ j < c + m
  · rw [if_pos d, if_pos (by omega), h4 _ (by omega)]
    congr 1
    omega
  · rw [if_neg d, if_neg (by omega)]
    exact g4 j hj
theorem op_copy {mo : Nat → Int64} (H : RS b0 z0 n0 b1 z1 n1 b2_ z2 n2 b3 z3 n3 bo so no) (F : FS fi st) (x1 x2 x3 x4 x5 : Int32) : Both (fX4_copy b0 z0 n0 b1 z1 n1 b2_ z2 n2 b3 z3 n3 fi x1 x2 x3 x4 x5) (fX5_copy st bo so no mo x1 x2 x3 x4 x5) (fun k1 k2 => RS b0 z0 k1.1 b1 z1 k1.2.1 b2_ z2 k1.2.2.1 b3 z3 k1.2.2.2.1 bo so k2.2.1 ∧ FS k1.2.2.2.2 k2.1) := by
  by_cases h : 0 ≤ x1.toInt ∧ x1.toInt ≤ 3
  · by_cases h3 : 0 ≤ x3.toInt ∧ x3.toInt ≤ 3
    · obtain ⟨i, hi, rfl⟩ := i_ex (x := x1) (n := 4) (by decide) h.1 (by omega)
      obtain ⟨k, hk, rfl⟩ := i_ex (x := x3) (n := 4) (by decide) h3.1 (by omega)
      clear h h3
      obtain ⟨H0, H1, H2, H3⟩ := H
      have key : ∀ {b z b' z' : Int32} {nu nu' : Nat → Int64} (Hi : R1 b z nu bo so no i) (Hk : R1 b' z' nu' bo so no k) (G : (Nat → Int64) → (Nat → Int64) × (Nat → Int64) × (Nat → Int64) × (Nat → Int64) × (Nat → Int32)) (hG : ∀ v, (G v).2.2.2.2 = fi) (hR : ∀ v no', (∀ j, (j < 40 * k ∨ 40 * k + 40 ≤ j) → no' j = no j) → R1 b' z' v bo so no' k → RS b0 z0 (G v).1 b1 z1 (G v).2.1 b2_ z2 (G v).2.2.1 b3 z3 (G v).2.2.2.1 bo so no'), Both (bR (fX1_isMissing b) (fun r9 _ => (if r9 = 0 then (bR (fX1_isMissing b') (fun r12 _ => (if r12 = 0 then ((if b = b' then (bR (fX1_hasRun z x2 x5) (fun r15 _ => (if r15 = 0 then (some (-1000000001, (n0, n1, n2, n3, upd fi 0 (fi 0 + 1)))) else (bR (fX1_hasRun z' x4 x5) (fun r17 _ => (if r17 = 0 then (some (-1000000001, (n0, n1, n2, n3, upd fi 0 (fi 0 + 1)))) else (gCp x2 x4 x5 40 40 (some (x5, G (va_cpy nu nu' x2.toNatClampNeg x4.toNatClampNeg x5.toNatClampNeg)))))))))) else (some (-1000000003, (n0, n1, n2, n3, upd fi 2 (fi 2 + 1)))))) else (some (-1000000006, (n0, n1, n2, n3, upd fi 5 (fi 5 + 1))))))) else (some (-1000000006, (n0, n1, n2, n3, upd fi 5 (fi 5 + 1))))))) (fX5_copy st bo so no mo (nI i) x2 (nI k) x4 x5) (fun k1 k2 => RS b0 z0 k1.1 b1 z1 k1.2.1 b2_ z2 k1.2.2.1 b3 z3 k1.2.2.2.1 bo so k2.2.1 ∧ FS k1.2.2.2.2 k2.1) := by
        intro b z b' z' nu nu' Hi Hk G hG hR
        obtain ⟨q, hq, ez, es⟩ := Hi.2.2.1
        obtain ⟨q', hq', ez', es'⟩ := Hk.2.2.1
        obtain ⟨m1, m2, m3, m4⟩ := copyM_r (st := st) (bo := bo) (so := so) (no := no) (mo := mo) hi hk hq hq' es es' x2 x4 x5
        rw [copyC_eq hq hq' ez ez' x2 x4 x5 G]
        rw [← Hi.1, ← Hk.1] at m1 m2 m3 m4
        by_cases c1 : b = 0 ∨ b' = 0
        · rw [if_pos c1, m1 c1]
          exact Both.mk ⟨⟨H0, H1, H2, H3⟩, F.up (by decide)⟩
        rw [if_neg c1]
        by_cases c2 : b = b'
        · rw [if_neg (fun q => q c2)]
          by_cases c3 : (0 ≤ x2.toInt ∧ 0 ≤ x5.toInt ∧ x2.toInt + x5.toInt ≤ q) ∧ (0 ≤ x4.toInt ∧ 0 ≤ x5.toInt ∧ x4.toInt + x5.toInt ≤ q')
          · rw [if_pos c3]
            obtain ⟨r, r1, r2, r3⟩ := m4 c1 c2 c3
            rw [r1]
            refine Both.mk ⟨hR _ _ (fun j hj => ?_) (R1.cpy Hi Hk (by omega) r3), by rw [hG, r2]; exact F⟩
            rw [r3, if_neg (by omega)]
          · rw [if_neg c3, m3 c1 c2 c3]
            exact Both.mk ⟨⟨H0, H1, H2, H3⟩, F.up (by decide)⟩
        · rw [if_pos c2, m2 c1 c2]
          exact Both.mk ⟨⟨H0, H1, H2, H3⟩, F.up (by decide)⟩
      unfold fX4_copy fX4_copy_14 fX4_copy_45 fX4_copy_111
      rw [isSheet_i i hi, isSheet_i k hk, bR_some, if_neg one_ne, bR_some, if_neg one_ne, fnd_1, fnd_3, fnd_6, bR_some, bR_some, bR_some]
      rcases (show i = 0 ∨ i = 1 ∨ i = 2 ∨ i = 3 by omega) with rfl | rfl | rfl | rfl
      · rw [sel4_0]
        rcases (show k = 0 ∨ k = 1 ∨ k = 2 ∨ k = 3 by omega) with rfl | rfl | rfl | rfl
        · exact key H0 H0 (fun v => (v, n1, n2, n3, fi)) (fun _ => rfl) (fun v no' h1 h2 => ⟨h2, H1.oth rfl rfl (fun j hj => h1 _ (by omega)), H2.oth rfl rfl (fun j hj => h1 _ (by omega)), H3.oth rfl rfl (fun j hj => h1 _ (by omega))⟩)
        · exact key H0 H1 (fun v => (n0, v, n2, n3, fi)) (fun _ => rfl) (fun v no' h1 h2 => ⟨H0.oth rfl rfl (fun j hj => h1 _ (by omega)), h2, H2.oth rfl rfl (fun j hj => h1 _ (by omega)), H3.oth rfl rfl (fun j hj => h1 _ (by omega))⟩)
        · exact key H0 H2 (fun v => (n0, n1, v, n3, fi)) (fun _ => rfl) (fun v no' h1 h2 => ⟨H0.oth rfl rfl (fun j hj => h1 _ (by omega)), H1.oth rfl rfl (fun j hj => h1 _ (by omega)), h2, H3.oth rfl rfl (fun j hj => h1 _ (by omega))⟩)
        · exact key H0 H3 (fun v => (n0, n1, n2, v, fi)) (fun _ => rfl) (fun v no' h1 h2 => ⟨H0.oth rfl rfl (fun j hj => h1 _ (by omega)), H1.oth rfl rfl (fun j hj => h1 _ (by omega)), H2.oth rfl rfl (fun j hj => h1 _ (by omega)), h2⟩)
      · rw [sel4_1]
        rcases (show k = 0 ∨ k = 1 ∨ k = 2 ∨ k = 3 by omega) with rfl | rfl | rfl | rfl
        · exact key H1 H0 (fun v => (v, n1, n2, n3, fi)) (fun _ => rfl) (fun v no' h1 h2 => ⟨h2, H1.oth rfl rfl (fun j hj => h1 _ (by omega)), H2.oth rfl rfl (fun j hj => h1 _ (by omega)), H3.oth rfl rfl (fun j hj => h1 _ (by omega))⟩)
        · exact key H1 H1 (fun v => (n0, v, n2, n3, fi)) (fun _ => rfl) (fun v no' h1 h2 => ⟨H0.oth rfl rfl (fun j hj => h1 _ (by omega)), h2, H2.oth rfl rfl (fun j hj => h1 _ (by omega)), H3.oth rfl rfl (fun j hj => h1 _ (by omega))⟩)
        · exact key H1 H2 (fun v => (n0, n1, v, n3, fi)) (fun _ => rfl) (fun v no' h1 h2 => ⟨H0.oth rfl rfl (fun j hj => h1 _ (by omega)), H1.oth rfl rfl (fun j hj => h1 _ (by omega)), h2, H3.oth rfl rfl (fun j hj => h1 _ (by omega))⟩)
        · exact key H1 H3 (fun v => (n0, n1, n2, v, fi)) (fun _ => rfl) (fun v no' h1 h2 => ⟨H0.oth rfl rfl (fun j hj => h1 _ (by omega)), H1.oth rfl rfl (fun j hj => h1 _ (by omega)), H2.oth rfl rfl (fun j hj => h1 _ (by omega)), h2⟩)
      · rw [sel4_2]
        rcases (show k = 0 ∨ k = 1 ∨ k = 2 ∨ k = 3 by omega) with rfl | rfl | rfl | rfl
        · exact key H2 H0 (fun v => (v, n1, n2, n3, fi)) (fun _ => rfl) (fun v no' h1 h2 => ⟨h2, H1.oth rfl rfl (fun j hj => h1 _ (by omega)), H2.oth rfl rfl (fun j hj => h1 _ (by omega)), H3.oth rfl rfl (fun j hj => h1 _ (by omega))⟩)
        · exact key H2 H1 (fun v => (n0, v, n2, n3, fi)) (fun _ => rfl) (fun v no' h1 h2 => ⟨H0.oth rfl rfl (fun j hj => h1 _ (by omega)), h2, H2.oth rfl rfl (fun j hj => h1 _ (by omega)), H3.oth rfl rfl (fun j hj => h1 _ (by omega))⟩)
        · exact key H2 H2 (fun v => (n0, n1, v, n3, fi)) (fun _ => rfl) (fun v no' h1 h2 => ⟨H0.oth rfl rfl (fun j hj => h1 _ (by omega)), H1.oth rfl rfl (fun j hj => h1 _ (by omega)), h2, H3.oth rfl rfl (fun j hj => h1 _ (by omega))⟩)
        · exact key H2 H3 (fun v => (n0, n1, n2, v, fi)) (fun _ => rfl) (fun v no' h1 h2 => ⟨H0.oth rfl rfl (fun j hj => h1 _ (by omega)), H1.oth rfl rfl (fun j hj => h1 _ (by omega)), H2.oth rfl rfl (fun j hj => h1 _ (by omega)), h2⟩)
      · rw [sel4_3]
        rcases (show k = 0 ∨ k = 1 ∨ k = 2 ∨ k = 3 by omega) with rfl | rfl | rfl | rfl
        · exact key H3 H0 (fun v => (v, n1, n2, n3, fi)) (fun _ => rfl) (fun v no' h1 h2 => ⟨h2, H1.oth rfl rfl (fun j hj => h1 _ (by omega)), H2.oth rfl rfl (fun j hj => h1 _ (by omega)), H3.oth rfl rfl (fun j hj => h1 _ (by omega))⟩)
        · exact key H3 H1 (fun v => (n0, v, n2, n3, fi)) (fun _ => rfl) (fun v no' h1 h2 => ⟨H0.oth rfl rfl (fun j hj => h1 _ (by omega)), h2, H2.oth rfl rfl (fun j hj => h1 _ (by omega)), H3.oth rfl rfl (fun j hj => h1 _ (by omega))⟩)
        · exact key H3 H2 (fun v => (n0, n1, v, n3, fi)) (fun _ => rfl) (fun v no' h1 h2 => ⟨H0.oth rfl rfl (fun j hj => h1 _ (by omega)), H1.oth rfl rfl (fun j hj => h1 _ (by omega)), h2, H3.oth rfl rfl (fun j hj => h1 _ (by omega))⟩)
        · exact key H3 H3 (fun v => (n0, n1, n2, v, fi)) (fun _ => rfl) (fun v no' h1 h2 => ⟨H0.oth rfl rfl (fun j hj => h1 _ (by omega)), H1.oth rfl rfl (fun j hj => h1 _ (by omega)), H2.oth rfl rfl (fun j hj => h1 _ (by omega)), h2⟩)
    · unfold fX4_copy fX5_copy fX4_copy_14 fX5_copy_14
      rw [isSheet_b2, isSheet_b2, isOne_b2, isOne_b2, bR_some, bR_some, bR_some, bR_some, ite_b2, ite_b2, ite_b2, ite_b2, if_pos h, if_pos h, if_neg h3, if_neg h3, fnd_1, fns_1, bR_some, bR_some]
      exact Both.mk ⟨H, F.up (by decide)⟩
  · unfold fX4_copy fX5_copy fX4_copy_14 fX5_copy_14
    rw [isSheet_b2, isOne_b2, bR_some, bR_some, ite_b2, ite_b2, if_neg h, if_neg h, fnd_1, fns_1, bR_some, bR_some]
    exact Both.mk ⟨H, F.up (by decide)⟩
end SHE
end
section
/-! sheets and lists -/
theorem ll9_u {β A1 A2 A3 A4 A5 A6 A7 A8 A9 : Type} (F : (A1 → A2 → A3 → A4 → A5 → A6 → A7 → A8 → A9 → Option β) → A1 → A2 → A3 → A4 → A5 → A6 → A7 → A8 → A9 → Option β) (n : Nat) (a1 : A1) (a2 : A2) (a3 : A3) (a4 : A4) (a5 : A5) (a6 : A6) (a7 : A7) (a8 : A8) (a9 : A9) : ll9 F (n + 1) a1 a2 a3 a4 a5 a6 a7 a8 a9 = F (ll9 F n) a1 a2 a3 a4 a5 a6 a7 a8 a9 := rfl
theorem ll6_u {β A1 A2 A3 A4 A5 A6 : Type} (F : (A1 → A2 → A3 → A4 → A5 → A6 → Option β) → A1 → A2 → A3 → A4 → A5 → A6 → Option β) (n : Nat) (a1 : A1) (a2 : A2) (a3 : A3) (a4 : A4) (a5 : A5) (a6 : A6) : ll6 F (n + 1) a1 a2 a3 a4 a5 a6 = F (ll6 F n) a1 a2 a3 a4 a5 a6 := rfl
section SHE2
variable {b0 z0 b1 z1 b2_ z2 b3 z3 : Int32} {n0 n1 n2 n3 : Nat → Int64} {bo so fi st : Nat → Int32} {no : Nat → Int64}
variable {sz li to : Int32} {ki co : Nat → Int32} {te : Nat → Int64} {s kn pile : Nat → Int32} {n l : Nat} {kd cc : Nat → Nat} {Hh : Nat → Nat → Bool}
theorem lays_loop0 (Hi : R1 b0 z0 n0 bo so no 0) (hn : n ≤ 8) (h0 : s 0 = nI n) : ∀ (f g v : Nat), g ≤ n → n - g < f → v < 2 ^ n → Both (ll5 (fX4_lays_21 (nI n) b0 z0 n0 b1 z1 n1 b2_ z2 n2 b3 z3 n3) f li fi (nI 0) (nI v) (nI g)) (ll5 (fX5_lays_21 bo so no) f s st (nI 0) (nI v) (nI g)) (fun k1 k2 => ∃ v, v < 2 ^ n ∧ k1 = (nI v, fi) ∧ k2 = (upd s 1 (nI v), st)) := by
  intro f
  obtain ⟨h1, h2, ⟨q, h3, h4, h5⟩, h6⟩ := Hi
  induction f with
  | zero => intro g v _ h; exact absurd h (by omega)
  | succ f ih =>
    intro g v hg hf hv
    have ih := ih (g + 1)
    show Both (fX4_lays_21 (nI n) b0 z0 n0 b1 z1 n1 b2_ z2 n2 b3 z3 n3 (ll5 (fX4_lays_21 (nI n) b0 z0 n0 b1 z1 n1 b2_ z2 n2 b3 z3 n3) f) li fi (nI 0) (nI v) (nI g)) (fX5_lays_21 bo so no (ll5 (fX5_lays_21 bo so no) f) s st (nI 0) (nI v) (nI g)) _
    generalize ll5 (fX4_lays_21 (nI n) b0 z0 n0 b1 z1 n1 b2_ z2 n2 b3 z3 n3) f = ag1 at ih ⊢
    generalize ll5 (fX5_lays_21 bo so no) f = ag2 at ih ⊢
    unfold fX4_lays_21 fX5_lays_21 fX4_lays_77 fX5_lays_77 fX4_lays_71 fX5_lays_69
    rw [h0, ite_le (by omega) (by omega), ite_le (by omega) (by omega)]
    by_cases c : n ≤ g
    · rw [if_pos c, if_pos c]
      exact Both.mk ⟨v, hv, rfl, rfl⟩
    · rw [if_neg c, if_neg c, sel4_0, gIn_nI (i := 0) (n := 4) (by decide) (by decide), nI_clamp (show 0 < 2 ^ 31 by decide), h5, h4, ite_le (by omega) (by omega), ite_le (by omega) (by omega)]
      by_cases e : q ≤ g
      · rw [if_pos e, if_pos e]
        exact Both.mk ⟨v, hv, rfl, rfl⟩
      · rw [if_neg e, if_neg e, gIn_nI (by omega) (by decide), idx_i, gIn_nI (by omega) (by decide), nI_clamp (by omega), nI_clamp (by omega), ← h6 g (by omega), nm_of, nm_of, nm_of, nm_of, nm_of, nm_of, nm_of, nI_1, bit_i g (by omega), fa_or, fa_lit 0, fa_or]
        by_cases z : lg_cmp (n0 g) 0 = nI 0
        · rw [if_pos z, if_pos z, Nat.or_zero]
          exact ih v (by omega) (by omega) hv
        · rw [if_neg z, if_neg z]
          exact ih _ (by omega) (by omega) (Nat.or_lt_two_pow hv (Nat.pow_lt_pow_right (by decide) (by omega)))
theorem lays_loop1 (Hi : R1 b1 z1 n1 bo so no 1) (hn : n ≤ 8) (h0 : s 0 = nI n) : ∀ (f g v : Nat), g ≤ n → n - g < f → v < 2 ^ n → Both (ll5 (fX4_lays_21 (nI n) b0 z0 n0 b1 z1 n1 b2_ z2 n2 b3 z3 n3) f li fi (nI 1) (nI v) (nI g)) (ll5 (fX5_lays_21 bo so no) f s st (nI 1) (nI v) (nI g)) (fun k1 k2 => ∃ v, v < 2 ^ n ∧ k1 = (nI v, fi) ∧ k2 = (upd s 1 (nI v), st)) := by
  intro f
  obtain ⟨h1, h2, ⟨q, h3, h4, h5⟩, h6⟩ := Hi
  induction f with
  | zero => intro g v _ h; exact absurd h (by omega)
  | succ f ih =>
    intro g v hg hf hv
    have ih := ih (g + 1)
    show Both (fX4_lays_21 (nI n) b0 z0 n0 b1 z1 n1 b2_ z2 n2 b3 z3 n3 (ll5 (fX4_lays_21 (nI n) b0 z0 n0 b1 z1 n1 b2_ z2 n2 b3 z3 n3) f) li fi (nI 1) (nI v) (nI g)) (fX5_lays_21 bo so no (ll5 (fX5_lays_21 bo so no) f) s st (nI 1) (nI v) (nI g)) _
    generalize ll5 (fX4_lays_21 (nI n) b0 z0 n0 b1 z1 n1 b2_ z2 n2 b3 z3 n3) f = ag1 at ih ⊢
    generalize ll5 (fX5_lays_21 bo so no) f = ag2 at ih ⊢
    unfold fX4_lays_21 fX5_lays_21 fX4_lays_77 fX5_lays_77 fX4_lays_71 fX5_lays_69
    rw [h0, ite_le (by omega) (by omega), ite_le (by omega) (by omega)]
    by_cases c : n ≤ g
    · rw [if_pos c, if_pos c]
      exact Both.mk ⟨v, hv, rfl, rfl⟩
    · rw [if_neg c, if_neg c, sel4_1, gIn_nI (i := 1) (n := 4) (by decide) (by decide), nI_clamp (show 1 < 2 ^ 31 by decide), h5, h4, ite_le (by omega) (by omega), ite_le (by omega) (by omega)]
      by_cases e : q ≤ g
      · rw [if_pos e, if_pos e]
        exact Both.mk ⟨v, hv, rfl, rfl⟩
      · rw [if_neg e, if_neg e, gIn_nI (by omega) (by decide), idx_i, gIn_nI (by omega) (by decide), nI_clamp (by omega), nI_clamp (by omega), ← h6 g (by omega), nm_of, nm_of, nm_of, nm_of, nm_of, nm_of, nm_of, nI_1, bit_i g (by omega), fa_or, fa_lit 0, fa_or]
        by_cases z : lg_cmp (n1 g) 0 = nI 0
        · rw [if_pos z, if_pos z, Nat.or_zero]
          exact ih v (by omega) (by omega) hv
        · rw [if_neg z, if_neg z]
          exact ih _ (by omega) (by omega) (Nat.or_lt_two_pow hv (Nat.pow_lt_pow_right (by decide) (by omega)))
theorem lays_loop2 (Hi : R1 b2_ z2 n2 bo so no 2) (hn : n ≤ 8) (h0 : s 0 = nI n) : ∀ (f g v : Nat), g ≤ n → n - g < f → v < 2 ^ n → Both (ll5 (fX4_lays_21 (nI n) b0 z0 n0 b1 z1 n1 b2_ z2 n2 b3 z3 n3) f li fi (nI 2) (nI v) (nI g)) (ll5 (fX5_lays_21 bo so no) f s st (nI 2) (nI v) (nI g)) (fun k1 k2 => ∃ v, v < 2 ^ n ∧ k1 = (nI v, fi) ∧ k2 = (upd s 1 (nI v), st)) := by
  intro f
  obtain ⟨h1, h2, ⟨q, h3, h4, h5⟩, h6⟩ := Hi
  induction f with
  | zero => intro g v _ h; exact absurd h (by omega)
  | succ f ih =>
    intro g v hg hf hv
    have ih := ih (g + 1)
    show Both (fX4_lays_21 (nI n) b0 z0 n0 b1 z1 n1 b2_ z2 n2 b3 z3 n3 (ll5 (fX4_lays_21 (nI n) b0 z0 n0 b1 z1 n1 b2_ z2 n2 b3 z3 n3) f) li fi (nI 2) (nI v) (nI g)) (fX5_lays_21 bo so no (ll5 (fX5_lays_21 bo so no) f) s st (nI 2) (nI v) (nI g)) _
    generalize ll5 (fX4_lays_21 (nI n) b0 z0 n0 b1 z1 n1 b2_ z2 n2 b3 z3 n3) f = ag1 at ih ⊢
    generalize ll5 (fX5_lays_21 bo so no) f = ag2 at ih ⊢
    unfold fX4_lays_21 fX5_lays_21 fX4_lays_77 fX5_lays_77 fX4_lays_71 fX5_lays_69
    rw [h0, ite_le (by omega) (by omega), ite_le (by omega) (by omega)]
    by_cases c : n ≤ g
    · rw [if_pos c, if_pos c]
      exact Both.mk ⟨v, hv, rfl, rfl⟩
    · rw [if_neg c, if_neg c, sel4_2, gIn_nI (i := 2) (n := 4) (by decide) (by decide), nI_clamp (show 2 < 2 ^ 31 by decide), h5, h4, ite_le (by omega) (by omega), ite_le (by omega) (by omega)]
      by_cases e : q ≤ g
      · rw [if_pos e, if_pos e]
        exact Both.mk ⟨v, hv, rfl, rfl⟩
      · rw [if_neg e, if_neg e, gIn_nI (by omega) (by decide), idx_i, gIn_nI (by omega) (by decide), nI_clamp (by omega), nI_clamp (by omega), ← h6 g (by omega), nm_of, nm_of, nm_of, nm_of, nm_of, nm_of, nm_of, nI_1, bit_i g (by omega), fa_or, fa_lit 0, fa_or]
        by_cases z : lg_cmp (n2 g) 0 = nI 0
        · rw [if_pos z, if_pos z, Nat.or_zero]
          exact ih v (by omega) (by omega) hv
        · rw [if_neg z, if_neg z]
          exact ih _ (by omega) (by omega) (Nat.or_lt_two_pow hv (Nat.pow_lt_pow_right (by decide) (by omega)))
theorem lays_loop3 (Hi : R1 b3 z3 n3 bo so no 3) (hn : n ≤ 8) (h0 : s 0 = nI n) : ∀ (f g v : Nat), g ≤ n → n - g < f → v < 2 ^ n → Both (ll5 (fX4_lays_21 (nI n) b0 z0 n0 b1 z1 n1 b2_ z2 n2 b3 z3 n3) f li fi (nI 3) (nI v) (nI g)) (ll5 (fX5_lays_21 bo so no) f s st (nI 3) (nI v) (nI g)) (fun k1 k2 => ∃ v, v < 2 ^ n ∧ k1 = (nI v, fi) ∧ k2 = (upd s 1 (nI v), st)) := by
  intro f
  obtain ⟨h1, h2, ⟨q, h3, h4, h5⟩, h6⟩ := Hi
  induction f with
  | zero => intro g v _ h; exact absurd h (by omega)
  | succ f ih =>
    intro g v hg hf hv
    have ih := ih (g + 1)
    show Both (fX4_lays_21 (nI n) b0 z0 n0 b1 z1 n1 b2_ z2 n2 b3 z3 n3 (ll5 (fX4_lays_21 (nI n) b0 z0 n0 b1 z1 n1 b2_ z2 n2 b3 z3 n3) f) li fi (nI 3) (nI v) (nI g)) (fX5_lays_21 bo so no (ll5 (fX5_lays_21 bo so no) f) s st (nI 3) (nI v) (nI g)) _
    generalize ll5 (fX4_lays_21 (nI n) b0 z0 n0 b1 z1 n1 b2_ z2 n2 b3 z3 n3) f = ag1 at ih ⊢
    generalize ll5 (fX5_lays_21 bo so no) f = ag2 at ih ⊢
    unfold fX4_lays_21 fX5_lays_21 fX4_lays_77 fX5_lays_77 fX4_lays_71 fX5_lays_69
    rw [h0, ite_le (by omega) (by omega), ite_le (by omega) (by omega)]
    by_cases c : n ≤ g
    · rw [if_pos c, if_pos c]
      exact Both.mk ⟨v, hv, rfl, rfl⟩
    · rw [if_neg c, if_neg c, sel4_3, gIn_nI (i := 3) (n := 4) (by decide) (by decide), nI_clamp (show 3 < 2 ^ 31 by decide), h5, h4, ite_le (by omega) (by omega), ite_le (by omega) (by omega)]
      by_cases e : q ≤ g
      · rw [if_pos e, if_pos e]
        exact Both.mk ⟨v, hv, rfl, rfl⟩
      · rw [if_neg e, if_neg e, gIn_nI (by omega) (by decide), idx_i, gIn_nI (by omega) (by decide), nI_clamp (by omega), nI_clamp (by omega), ← h6 g (by omega), nm_of, nm_of, nm_of, nm_of, nm_of, nm_of, nm_of, nI_1, bit_i g (by omega), fa_or, fa_lit 0, fa_or]
        by_cases z : lg_cmp (n3 g) 0 = nI 0
        · rw [if_pos z, if_pos z, Nat.or_zero]
          exact ih v (by omega) (by omega) hv
        · rw [if_neg z, if_neg z]
          exact ih _ (by omega) (by omega) (Nat.or_lt_two_pow hv (Nat.pow_lt_pow_right (by decide) (by omega)))
theorem op_lays (R : RA sz li to ki co te s n l kd cc Hh) (H : RS b0 z0 n0 b1 z1 n1 b2_ z2 n2 b3 z3 n3 bo so no) (F : FS fi st) (x1 : Int32) : Both (fX4_lays sz li b0 z0 n0 b1 z1 n1 b2_ z2 n2 b3 z3 n3 fi x1) (fX5_lays s st bo so no x1) (fun k1 k2 => (∃ l', RA sz k1.1 to ki co te k2.1 n l' kd cc Hh) ∧ FS k1.2 k2.2) := by
  have hn := R.1.1
  have R0 := R
  have hsz := R.1.2.1
  subst hsz
  by_cases h : 0 ≤ x1.toInt ∧ x1.toInt ≤ 3
  · obtain ⟨i, hi, rfl⟩ := i_ex (x := x1) (n := 4) (by decide) h.1 (by omega)
    clear h
    obtain ⟨H0, H1, H2, H3⟩ := H
    unfold fX4_lays fX5_lays
    rw [wrong_i hi, bR_some]
    rcases (show i = 0 ∨ i = 1 ∨ i = 2 ∨ i = 3 by omega) with rfl | rfl | rfl | rfl
    · rw [lack_0, bR_some, ← H0.1]
      by_cases hb : b0 = 0
      · rw [if_pos hb, if_neg (by decide), if_neg (by decide), fnd_6, fns_6, bR_some, bR_some]
        exact Both.mk ⟨⟨l, R0⟩, F.up (by decide)⟩
      · rw [if_neg hb, if_pos rfl, if_pos rfl]
        obtain ⟨r, k1, k2, q1, q2, v, hv, rfl, rfl⟩ := lays_loop0 (li := li) (fi := fi) (st := st) (b0 := b0) (z0 := z0) (n0 := n0) (b1 := b1) (z1 := z1) (n1 := n1) (b2_ := b2_) (z2 := z2) (n2 := n2) (b3 := b3) (z3 := z3) (n3 := n3) H0 hn R0.2.1.2.1 1024 0 0 (Nat.zero_le _) (by omega) Nat.one_le_two_pow
        have q1 : ll5 (fX4_lays_21 (nI n) b0 z0 n0 b1 z1 n1 b2_ z2 n2 b3 z3 n3) qF li fi (nI 0) 0 0 = some (r, (nI v, fi)) := q1
        have q2 : ll5 (fX5_lays_21 bo so no) qF s st (nI 0) 0 0 = some (r, (upd s 1 (nI v), st)) := q2
        rw [q1, q2]
        exact Both.mk ⟨⟨v, R0.list hv⟩, F⟩
    · rw [lack_1, bR_some, ← H1.1]
      by_cases hb : b1 = 0
      · rw [if_pos hb, if_neg (by decide), if_neg (by decide), fnd_6, fns_6, bR_some, bR_some]
        exact Both.mk ⟨⟨l, R0⟩, F.up (by decide)⟩
      · rw [if_neg hb, if_pos rfl, if_pos rfl]
        obtain ⟨r, k1, k2, q1, q2, v, hv, rfl, rfl⟩ := lays_loop1 (li := li) (fi := fi) (st := st) (b0 := b0) (z0 := z0) (n0 := n0) (b1 := b1) (z1 := z1) (n1 := n1) (b2_ := b2_) (z2 := z2) (n2 := n2) (b3 := b3) (z3 := z3) (n3 := n3) H1 hn R0.2.1.2.1 1024 0 0 (Nat.zero_le _) (by omega) Nat.one_le_two_pow
        have q1 : ll5 (fX4_lays_21 (nI n) b0 z0 n0 b1 z1 n1 b2_ z2 n2 b3 z3 n3) qF li fi (nI 1) 0 0 = some (r, (nI v, fi)) := q1
        have q2 : ll5 (fX5_lays_21 bo so no) qF s st (nI 1) 0 0 = some (r, (upd s 1 (nI v), st)) := q2
        rw [q1, q2]
        exact Both.mk ⟨⟨v, R0.list hv⟩, F⟩
    · rw [lack_2, bR_some, ← H2.1]
      by_cases hb : b2_ = 0
      · rw [if_pos hb, if_neg (by decide), if_neg (by decide), fnd_6, fns_6, bR_some, bR_some]
        exact Both.mk ⟨⟨l, R0⟩, F.up (by decide)⟩
      · rw [if_neg hb, if_pos rfl, if_pos rfl]
        obtain ⟨r, k1, k2, q1, q2, v, hv, rfl, rfl⟩ := lays_loop2 (li := li) (fi := fi) (st := st) (b0 := b0) (z0 := z0) (n0 := n0) (b1 := b1) (z1 := z1) (n1 := n1) (b2_ := b2_) (z2 := z2) (n2 := n2) (b3 := b3) (z3 := z3) (n3 := n3) H2 hn R0.2.1.2.1 1024 0 0 (Nat.zero_le _) (by omega) Nat.one_le_two_pow
        have q1 : ll5 (fX4_lays_21 (nI n) b0 z0 n0 b1 z1 n1 b2_ z2 n2 b3 z3 n3) qF li fi (nI 2) 0 0 = some (r, (nI v, fi)) := q1
        have q2 : ll5 (fX5_lays_21 bo so no) qF s st (nI 2) 0 0 = some (r, (upd s 1 (nI v), st)) := q2
        rw [q1, q2]
        exact Both.mk ⟨⟨v, R0.list hv⟩, F⟩
    · rw [lack_3, bR_some, ← H3.1]
      by_cases hb : b3 = 0
      · rw [if_pos hb, if_neg (by decide), if_neg (by decide), fnd_6, fns_6, bR_some, bR_some]
        exact Both.mk ⟨⟨l, R0⟩, F.up (by decide)⟩
      · rw [if_neg hb, if_pos rfl, if_pos rfl]
        obtain ⟨r, k1, k2, q1, q2, v, hv, rfl, rfl⟩ := lays_loop3 (li := li) (fi := fi) (st := st) (b0 := b0) (z0 := z0) (n0 := n0) (b1 := b1) (z1 := z1) (n1 := n1) (b2_ := b2_) (z2 := z2) (n2 := n2) (b3 := b3) (z3 := z3) (n3 := n3) H3 hn R0.2.1.2.1 1024 0 0 (Nat.zero_le _) (by omega) Nat.one_le_two_pow
        have q1 : ll5 (fX4_lays_21 (nI n) b0 z0 n0 b1 z1 n1 b2_ z2 n2 b3 z3 n3) qF li fi (nI 3) 0 0 = some (r, (nI v, fi)) := q1
        have q2 : ll5 (fX5_lays_21 bo so no) qF s st (nI 3) 0 0 = some (r, (upd s 1 (nI v), st)) := q2
        rw [q1, q2]
        exact Both.mk ⟨⟨v, R0.list hv⟩, F⟩
  · unfold fX4_lays fX5_lays
    rw [lackX h, wrongX h, bR_some, bR_some, if_neg (by decide), if_neg (by decide), fnd_1, fns_1, bR_some, bR_some]
    exact Both.mk ⟨⟨l, R0⟩, F.up (by decide)⟩
theorem book_loop0 (P : PC n kd Hh sz ki te) (M : PM n kd Hh s) : ∀ (f j a : Nat) (kn p : Nat → Int32) (n0 no : Nat → Int64), j ≤ 40 → 40 - j < f → a < 256 → RS b0 z0 n0 b1 z1 n1 b2_ z2 n2 b3 z3 n3 bo so no → KV n kd Hh kn → Both (ll9 (fX4_book_27 sz li ki te b0 z0 b1 z1 b2_ z2 b3 z3) f kn n0 n1 n2 n3 fi (nI 0) (nI a) (nI j)) (ll6 (fX5_book_26 s bo so) f st p no (nI 0) (nI a) (nI j)) (fun k1 k2 => RS b0 z0 k1.2.1 b1 z1 k1.2.2.1 b2_ z2 k1.2.2.2.1 b3 z3 k1.2.2.2.2.1 bo so k2.2.2 ∧ KV n kd Hh k1.1 ∧ k1.2.2.2.2.2 = fi ∧ k2.1 = st) := by
  intro f
  induction f with
  | zero => intro j a kn p n0 no _ h; exact absurd h (by omega)
  | succ f ih =>
    intro j a kn p n0 no hj hf ha H K
    have ih := ih (j + 1)
    rw [ll9_u, ll6_u]
    generalize ll9 (fX4_book_27 sz li ki te b0 z0 b1 z1 b2_ z2 b3 z3) f = ag1 at ih ⊢
    generalize ll6 (fX5_book_26 s bo so) f = ag2 at ih ⊢
    obtain ⟨H0, H1, H2, H3⟩ := id H
    obtain ⟨h1, h2, ⟨q, h3, h4, h5⟩, h6⟩ := id H0
    unfold fX4_book_27 fX5_book_26
    rw [sel4_0, gIn_nI (by decide) (by decide), gIn_nI (by decide) (by decide), gIn_nI (by decide) (by decide), nI_clamp (show 0 < 2 ^ 31 by decide), h5, h4, ite_le (by omega) (by omega), ite_le (by omega) (by omega)]
    by_cases e : q ≤ j
    · rw [if_pos e, if_pos e]
      exact Both.mk ⟨by rw [← h4]; exact H, K, rfl, rfl⟩
    · obtain ⟨k1, q1, q2⟩ := comers_r P K ha
      obtain ⟨k2, p1, -⟩ := would_r M ha p
      rw [if_neg e, if_neg e, put_eq _ _ (by omega), bR_some, q1, bR_some, nm_of, narrowed_eq, bR_some, idx_i, gIn_nI (by omega) (by decide), p1, bR_some, nm_of, nI_1, nI_clamp (by omega), ← h1, ← h4]
      exact ih _ k1 k2 _ _ (by omega) (by omega) (Wd_256 P.1 kd Hh a) ⟨H0.put, H1.oth rfl rfl (fun j hj => pk_uLn (by omega)), H2.oth rfl rfl (fun j hj => pk_uLn (by omega)), H3.oth rfl rfl (fun j hj => pk_uLn (by omega))⟩ q2
theorem book_loop1 (P : PC n kd Hh sz ki te) (M : PM n kd Hh s) : ∀ (f j a : Nat) (kn p : Nat → Int32) (n1 no : Nat → Int64), j ≤ 40 → 40 - j < f → a < 256 → RS b0 z0 n0 b1 z1 n1 b2_ z2 n2 b3 z3 n3 bo so no → KV n kd Hh kn → Both (ll9 (fX4_book_27 sz li ki te b0 z0 b1 z1 b2_ z2 b3 z3) f kn n0 n1 n2 n3 fi (nI 1) (nI a) (nI j)) (ll6 (fX5_book_26 s bo so) f st p no (nI 1) (nI a) (nI j)) (fun k1 k2 => RS b0 z0 k1.2.1 b1 z1 k1.2.2.1 b2_ z2 k1.2.2.2.1 b3 z3 k1.2.2.2.2.1 bo so k2.2.2 ∧ KV n kd Hh k1.1 ∧ k1.2.2.2.2.2 = fi ∧ k2.1 = st) := by
  intro f
  induction f with
  | zero => intro j a kn p n1 no _ h; exact absurd h (by omega)
  | succ f ih =>
    intro j a kn p n1 no hj hf ha H K
    have ih := ih (j + 1)
    rw [ll9_u, ll6_u]
    generalize ll9 (fX4_book_27 sz li ki te b0 z0 b1 z1 b2_ z2 b3 z3) f = ag1 at ih ⊢
    generalize ll6 (fX5_book_26 s bo so) f = ag2 at ih ⊢
    obtain ⟨H0, H1, H2, H3⟩ := id H
    obtain ⟨h1, h2, ⟨q, h3, h4, h5⟩, h6⟩ := id H1
    unfold fX4_book_27 fX5_book_26
    rw [sel4_1, gIn_nI (by decide) (by decide), gIn_nI (by decide) (by decide), gIn_nI (by decide) (by decide), nI_clamp (show 1 < 2 ^ 31 by decide), h5, h4, ite_le (by omega) (by omega), ite_le (by omega) (by omega)]
    by_cases e : q ≤ j
    · rw [if_pos e, if_pos e]
      exact Both.mk ⟨by rw [← h4]; exact H, K, rfl, rfl⟩
    · obtain ⟨k1, q1, q2⟩ := comers_r P K ha
      obtain ⟨k2, p1, -⟩ := would_r M ha p
      rw [if_neg e, if_neg e, put_eq _ _ (by omega), bR_some, q1, bR_some, nm_of, narrowed_eq, bR_some, idx_i, gIn_nI (by omega) (by decide), p1, bR_some, nm_of, nI_1, nI_clamp (by omega), ← h1, ← h4]
      exact ih _ k1 k2 _ _ (by omega) (by omega) (Wd_256 P.1 kd Hh a) ⟨H0.oth rfl rfl (fun j hj => pk_uLn (by omega)), H1.put, H2.oth rfl rfl (fun j hj => pk_uLn (by omega)), H3.oth rfl rfl (fun j hj => pk_uLn (by omega))⟩ q2
theorem book_loop2 (P : PC n kd Hh sz ki te) (M : PM n kd Hh s) : ∀ (f j a : Nat) (kn p : Nat → Int32) (n2 no : Nat → Int64), j ≤ 40 → 40 - j < f → a < 256 → RS b0 z0 n0 b1 z1 n1 b2_ z2 n2 b3 z3 n3 bo so no → KV n kd Hh kn → Both (ll9 (fX4_book_27 sz li ki te b0 z0 b1 z1 b2_ z2 b3 z3) f kn n0 n1 n2 n3 fi (nI 2) (nI a) (nI j)) (ll6 (fX5_book_26 s bo so) f st p no (nI 2) (nI a) (nI j)) (fun k1 k2 => RS b0 z0 k1.2.1 b1 z1 k1.2.2.1 b2_ z2 k1.2.2.2.1 b3 z3 k1.2.2.2.2.1 bo so k2.2.2 ∧ KV n kd Hh k1.1 ∧ k1.2.2.2.2.2 = fi ∧ k2.1 = st) := by
  intro f
  induction f with
  | zero => intro j a kn p n2 no _ h; exact absurd h (by omega)
  | succ f ih =>
    intro j a kn p n2 no hj hf ha H K
    have ih := ih (j + 1)
    rw [ll9_u, ll6_u]
    generalize ll9 (fX4_book_27 sz li ki te b0 z0 b1 z1 b2_ z2 b3 z3) f = ag1 at ih ⊢
    generalize ll6 (fX5_book_26 s bo so) f = ag2 at ih ⊢
    obtain ⟨H0, H1, H2, H3⟩ := id H
    obtain ⟨h1, h2, ⟨q, h3, h4, h5⟩, h6⟩ := id H2
    unfold fX4_book_27 fX5_book_26
    rw [sel4_2, gIn_nI (by decide) (by decide), gIn_nI (by decide) (by decide), gIn_nI (by decide) (by decide), nI_clamp (show 2 < 2 ^ 31 by decide), h5, h4, ite_le (by omega) (by omega), ite_le (by omega) (by omega)]
    by_cases e : q ≤ j
    · rw [if_pos e, if_pos e]
      exact Both.mk ⟨by rw [← h4]; exact H, K, rfl, rfl⟩
    · obtain ⟨k1, q1, q2⟩ := comers_r P K ha
      obtain ⟨k2, p1, -⟩ := would_r M ha p
      rw [if_neg e, if_neg e, put_eq _ _ (by omega), bR_some, q1, bR_some, nm_of, narrowed_eq, bR_some, idx_i, gIn_nI (by omega) (by decide), p1, bR_some, nm_of, nI_1, nI_clamp (by omega), ← h1, ← h4]
      exact ih _ k1 k2 _ _ (by omega) (by omega) (Wd_256 P.1 kd Hh a) ⟨H0.oth rfl rfl (fun j hj => pk_uLn (by omega)), H1.oth rfl rfl (fun j hj => pk_uLn (by omega)), H2.put, H3.oth rfl rfl (fun j hj => pk_uLn (by omega))⟩ q2
theorem book_loop3 (P : PC n kd Hh sz ki te) (M : PM n kd Hh s) : ∀ (f j a : Nat) (kn p : Nat → Int32) (n3 no : Nat → Int64), j ≤ 40 → 40 - j < f → a < 256 → RS b0 z0 n0 b1 z1 n1 b2_ z2 n2 b3 z3 n3 bo so no → KV n kd Hh kn → Both (ll9 (fX4_book_27 sz li ki te b0 z0 b1 z1 b2_ z2 b3 z3) f kn n0 n1 n2 n3 fi (nI 3) (nI a) (nI j)) (ll6 (fX5_book_26 s bo so) f st p no (nI 3) (nI a) (nI j)) (fun k1 k2 => RS b0 z0 k1.2.1 b1 z1 k1.2.2.1 b2_ z2 k1.2.2.2.1 b3 z3 k1.2.2.2.2.1 bo so k2.2.2 ∧ KV n kd Hh k1.1 ∧ k1.2.2.2.2.2 = fi ∧ k2.1 = st) := by
  intro f
  induction f with
  | zero => intro j a kn p n3 no _ h; exact absurd h (by omega)
  | succ f ih =>
    intro j a kn p n3 no hj hf ha H K
    have ih := ih (j + 1)
    rw [ll9_u, ll6_u]
    generalize ll9 (fX4_book_27 sz li ki te b0 z0 b1 z1 b2_ z2 b3 z3) f = ag1 at ih ⊢
    generalize ll6 (fX5_book_26 s bo so) f = ag2 at ih ⊢
    obtain ⟨H0, H1, H2, H3⟩ := id H
    obtain ⟨h1, h2, ⟨q, h3, h4, h5⟩, h6⟩ := id H3
    unfold fX4_book_27 fX5_book_26
    rw [sel4_3, gIn_nI (by decide) (by decide), gIn_nI (by decide) (by decide), gIn_nI (by decide) (by decide), nI_clamp (show 3 < 2 ^ 31 by decide), h5, h4, ite_le (by omega) (by omega), ite_le (by omega) (by omega)]
    by_cases e : q ≤ j
    · rw [if_pos e, if_pos e]
      exact Both.mk ⟨by rw [← h4]; exact H, K, rfl, rfl⟩
    · obtain ⟨k1, q1, q2⟩ := comers_r P K ha
      obtain ⟨k2, p1, -⟩ := would_r M ha p
      rw [if_neg e, if_neg e, put_eq _ _ (by omega), bR_some, q1, bR_some, nm_of, narrowed_eq, bR_some, idx_i, gIn_nI (by omega) (by decide), p1, bR_some, nm_of, nI_1, nI_clamp (by omega), ← h1, ← h4]
      exact ih _ k1 k2 _ _ (by omega) (by omega) (Wd_256 P.1 kd Hh a) ⟨H0.oth rfl rfl (fun j hj => pk_uLn (by omega)), H1.oth rfl rfl (fun j hj => pk_uLn (by omega)), H2.oth rfl rfl (fun j hj => pk_uLn (by omega)), H3.put⟩ q2
theorem op_book (R : RA sz li to ki co te s n l kd cc Hh) (K : KV n kd Hh kn) (H : RS b0 z0 n0 b1 z1 n1 b2_ z2 n2 b3 z3 n3 bo so no) (F : FS fi st) (x1 : Int32) : Both (fX4_book sz li ki te kn b0 z0 n0 b1 z1 n1 b2_ z2 n2 b3 z3 n3 fi x1) (fX5_book s st pile bo so no x1) (fun k1 k2 => RS b0 z0 k1.2.1 b1 z1 k1.2.2.1 b2_ z2 k1.2.2.2.1 b3 z3 k1.2.2.2.2.1 bo so k2.2.2 ∧ KV n kd Hh k1.1 ∧ FS k1.2.2.2.2.2 k2.1) := by
  have hl := R.l256
  obtain ⟨P, M, hL, -⟩ := R
  by_cases h : 0 ≤ x1.toInt ∧ x1.toInt ≤ 3
  · obtain ⟨i, hi, rfl⟩ := i_ex (x := x1) (n := 4) (by decide) h.1 (by omega)
    clear h
    unfold fX4_book fX5_book
    rw [wrong_i hi, bR_some, nm_of, hL.2.2, hL.2.1]
    rcases (show i = 0 ∨ i = 1 ∨ i = 2 ∨ i = 3 by omega) with rfl | rfl | rfl | rfl
    · rw [lack_0, bR_some, ← H.1.1]
      by_cases hb : b0 = 0
      · rw [if_pos hb, if_neg (by decide), if_neg (by decide), fnd_6, fns_6, bR_some, bR_some]
        exact Both.mk ⟨H, K, F.up (by decide)⟩
      · rw [if_neg hb, if_pos rfl, if_pos rfl]
        obtain ⟨r, k1, k2, q1, q2, q3, q4, q5, q6⟩ := book_loop0 (li := nI l) (fi := fi) (st := st) P M 1024 0 l kn pile n0 no (by omega) (by omega) hl H K
        have q1 : ll9 (fX4_book_27 sz (nI l) ki te b0 z0 b1 z1 b2_ z2 b3 z3) qF kn n0 n1 n2 n3 fi (nI 0) (nI l) 0 = some (r, k1) := q1
        have q2 : ll6 (fX5_book_26 s bo so) qF st pile no (nI 0) (nI l) 0 = some (r, k2) := q2
        rw [q1, q2]
        exact Both.mk ⟨q3, q4, by rw [q5, q6]; exact F⟩
    · rw [lack_1, bR_some, ← H.2.1.1]
      by_cases hb : b1 = 0
      · rw [if_pos hb, if_neg (by decide), if_neg (by decide), fnd_6, fns_6, bR_some, bR_some]
        exact Both.mk ⟨H, K, F.up (by decide)⟩
      · rw [if_neg hb, if_pos rfl, if_pos rfl]
        obtain ⟨r, k1, k2, q1, q2, q3, q4, q5, q6⟩ := book_loop1 (li := nI l) (fi := fi) (st := st) P M 1024 0 l kn pile n1 no (by omega) (by omega) hl H K
        have q1 : ll9 (fX4_book_27 sz (nI l) ki te b0 z0 b1 z1 b2_ z2 b3 z3) qF kn n0 n1 n2 n3 fi (nI 1) (nI l) 0 = some (r, k1) := q1
        have q2 : ll6 (fX5_book_26 s bo so) qF st pile no (nI 1) (nI l) 0 = some (r, k2) := q2
        rw [q1, q2]
        exact Both.mk ⟨q3, q4, by rw [q5, q6]; exact F⟩
    · rw [lack_2, bR_some, ← H.2.2.1.1]
      by_cases hb : b2_ = 0
      · rw [if_pos hb, if_neg (by decide), if_neg (by decide), fnd_6, fns_6, bR_some, bR_some]
        exact Both.mk ⟨H, K, F.up (by decide)⟩
      · rw [if_neg hb, if_pos rfl, if_pos rfl]
        obtain ⟨r, k1, k2, q1, q2, q3, q4, q5, q6⟩ := book_loop2 (li := nI l) (fi := fi) (st := st) P M 1024 0 l kn pile n2 no (by omega) (by omega) hl H K
        have q1 : ll9 (fX4_book_27 sz (nI l) ki te b0 z0 b1 z1 b2_ z2 b3 z3) qF kn n0 n1 n2 n3 fi (nI 2) (nI l) 0 = some (r, k1) := q1
        have q2 : ll6 (fX5_book_26 s bo so) qF st pile no (nI 2) (nI l) 0 = some (r, k2) := q2
        rw [q1, q2]
        exact Both.mk ⟨q3, q4, by rw [q5, q6]; exact F⟩
    · rw [lack_3, bR_some, ← H.2.2.2.1]
      by_cases hb : b3 = 0
      · rw [if_pos hb, if_neg (by decide), if_neg (by decide), fnd_6, fns_6, bR_some, bR_some]
        exact Both.mk ⟨H, K, F.up (by decide)⟩
      · rw [if_neg hb, if_pos rfl, if_pos rfl]
        obtain ⟨r, k1, k2, q1, q2, q3, q4, q5, q6⟩ := book_loop3 (li := nI l) (fi := fi) (st := st) P M 1024 0 l kn pile n3 no (by omega) (by omega) hl H K
        have q1 : ll9 (fX4_book_27 sz (nI l) ki te b0 z0 b1 z1 b2_ z2 b3 z3) qF kn n0 n1 n2 n3 fi (nI 3) (nI l) 0 = some (r, k1) := q1
        have q2 : ll6 (fX5_book_26 s bo so) qF st pile no (nI 3) (nI l) 0 = some (r, k2) := q2
        rw [q1, q2]
        exact Both.mk ⟨q3, q4, by rw [q5, q6]; exact F⟩
  · unfold fX4_book fX5_book
    rw [lackX h, wrongX h, bR_some, bR_some, if_neg (by decide), if_neg (by decide), fnd_1, fns_1, bR_some, bR_some]
    exact Both.mk ⟨H, K, F.up (by decide)⟩
/-! the reader comes to an answer -/
def Tot {α κ : Type} (o : Option (α × κ)) (Q : κ → Prop) : Prop := ∃ r k, o = some (r, k) ∧ Q k
theorem bitsAt_tot (b : Int32) (nu : Nat → Int64) {j : Nat} (hj : j < 40) : ∃ v, fX1_bitsAt b nu (nI j) = some (v, ()) := by
  unfold fX1_bitsAt
  rw [gIn_nI hj (by decide), gIn_nI hj (by decide), gIn_nI hj (by decide)]
  by_cases c : b = 8
  · rw [if_pos c]; exact ⟨_, rfl⟩
  · rw [if_neg c]
    by_cases c2 : b = 16
    · rw [if_pos c2]; exact ⟨_, rfl⟩
    · rw [if_neg c2]; exact ⟨_, rfl⟩
theorem listAt_tot (b : Int32) (nu : Nat → Int64) {j : Nat} (hj : j < 40) : ∃ v, v < 256 ∧ fX1_listAt b nu (nI j) = some (nI v, ()) := by
  unfold fX1_listAt
  obtain ⟨w, e⟩ := bitsAt_tot b nu hj
  obtain ⟨v, hv, e2⟩ := byte_ex w.toInt32
  rw [e, bR_some, e2]
  exact ⟨v, hv, rfl⟩
theorem holdsOnly_tot {b : Int32} {nu : Nat → Int64} {q : Nat} (hq : q ≤ 40) {y : Int32} : ∀ (f j : Nat), j ≤ q → q - j < f → ∃ v, ll2 (fX1_holdsOnly_2 b (nI q) nu) f y (nI j) = some (v, ()) := by
  intro f
  induction f with
  | zero => intro j _ h; exact absurd h (by omega)
  | succ f ih =>
    intro j hj hf
    have ih := ih (j + 1)
    show ∃ v, fX1_holdsOnly_2 b (nI q) nu (ll2 (fX1_holdsOnly_2 b (nI q) nu) f) y (nI j) = some (v, ())
    generalize ll2 (fX1_holdsOnly_2 b (nI q) nu) f = ag at ih ⊢
    unfold fX1_holdsOnly_2
    rw [ite_le (by omega) (by omega)]
    by_cases c : q ≤ j
    · rw [if_pos c]; exact ⟨_, rfl⟩
    · obtain ⟨w, e⟩ := bitsAt_tot b nu (show j < 40 by omega)
      rw [if_neg c, e, bR_some, nm_of, nI_1]
      split
      · exact ih (by omega) (by omega)
      · exact ⟨_, rfl⟩
theorem explains_tot (P : PC n kd Hh sz ki te) {b : Int32} {nu : Nat → Int64} {q g k : Nat} (hq : q ≤ 40) (hg : g < n) (hk : k < 6) : ∀ (f j : Nat) (kn : Nat → Int32), 1 ≤ j → j ≤ 41 → 41 - j < f → KV n kd Hh kn → Tot (ll4 (fX4_explains_3 sz ki te b (nI q) nu) f kn (nI g) (nI k) (nI j)) (KV n kd Hh) := by
  intro f
  induction f with
  | zero => intro j kn _ _ h; exact absurd h (by omega)
  | succ f ih =>
    intro j kn hj hj1 hf K
    have ih := ih (j + 1)
    show Tot (fX4_explains_3 sz ki te b (nI q) nu (ll4 (fX4_explains_3 sz ki te b (nI q) nu) f) kn (nI g) (nI k) (nI j)) _
    generalize ll4 (fX4_explains_3 sz ki te b (nI q) nu) f = ag at ih ⊢
    unfold fX4_explains_3
    by_cases c : nI q ≤ nI j
    · rw [if_pos c]; exact ⟨_, _, rfl, K⟩
    · have hj2 : j < 40 := by
        rw [nI_leI (by omega) (by omega)] at c
        omega
      obtain ⟨v, hv, e⟩ := listAt_tot b nu (show j - 1 < 40 by omega)
      obtain ⟨v2, hv2, e2⟩ := listAt_tot b nu hj2
      obtain ⟨k1, q1, q2⟩ := comersAs_r P K hg hk hv
      rw [if_neg c, fa_lit 1, nI_sub1 hj, e, bR_some, q1, bR_some, e2, bR_some, nm_of, nI_add]
      split
      · exact ih k1 (by omega) (by omega) (by omega) q2
      · exact ⟨_, _, rfl, q2⟩
theorem read57_0 (P : PC n kd Hh sz ki te) (Hi : R1 b0 z0 n0 bo so no 0) {g : Nat} (hg : g < n) {ag42 : (Nat → Int32) → (Nat → Int32) → Int32 → Int32 → Int32 → Option (Int32 × (Nat → Int32) × (Nat → Int32))} (hag : ∀ kn y, KV n kd Hh kn → Tot (ag42 kn fi (nI 0) y (nI (g + 1))) (fun k => KV n kd Hh k.1 ∧ k.2 = fi)) : ∀ (f k : Nat) (y : Int32) (kn : Nat → Int32), k ≤ 6 → 6 - k < f → KV n kd Hh kn → Tot (ll6 (fX4_read_57 sz ki te b0 z0 n0 b1 z1 n1 b2_ z2 n2 b3 z3 n3 ag42) f kn fi (nI 0) y (nI g) (nI k)) (fun k => KV n kd Hh k.1 ∧ k.2 = fi) := by
  intro f
  obtain ⟨h1, h2, ⟨q, h3, h4, h5⟩, h6⟩ := Hi
  have hn := P.1
  induction f with
  | zero => intro k y kn _ h; exact absurd h (by omega)
  | succ f ih =>
    intro k y kn hk hf K
    have ih := ih (k + 1)
    show Tot (fX4_read_57 sz ki te b0 z0 n0 b1 z1 n1 b2_ z2 n2 b3 z3 n3 ag42 (ll6 (fX4_read_57 sz ki te b0 z0 n0 b1 z1 n1 b2_ z2 n2 b3 z3 n3 ag42) f) kn fi (nI 0) y (nI g) (nI k)) _
    generalize ll6 (fX4_read_57 sz ki te b0 z0 n0 b1 z1 n1 b2_ z2 n2 b3 z3 n3 ag42) f = ag at ih ⊢
    unfold fX4_read_57
    rw [fa_lit 6, ite_le (by decide) (by omega)]
    by_cases c : 6 ≤ k
    · rw [if_pos c, nm_of, nI_1]
      exact hag kn y K
    · rw [if_neg c, sel4_0]
      obtain ⟨r, k1, q1, q2⟩ := explains_tot (b := b0) (nu := n0) P h3 hg (show k < 6 by omega) 1024 1 kn (by omega) (by omega) (by omega) K
      have q1 : fX4_explains sz ki te kn b0 z0 n0 (nI g) (nI k) = some (r, k1) := by rw [h4]; exact q1
      rw [q1, bR_some]
      unfold fX4_oneIf
      split
      · rw [bR_some, nm_of, nm_of, nI_1]; exact ih _ k1 (by omega) (by omega) q2
      · rw [bR_some, nm_of, nm_of, nI_1]; exact ih _ k1 (by omega) (by omega) q2
theorem read42_0 (P : PC n kd Hh sz ki te) (Hi : R1 b0 z0 n0 bo so no 0) : ∀ (f g : Nat) (y : Int32) (kn : Nat → Int32), g ≤ n → n - g < f → KV n kd Hh kn → Tot (ll5 (fX4_read_42 sz ki te b0 z0 n0 b1 z1 n1 b2_ z2 n2 b3 z3 n3) f kn fi (nI 0) y (nI g)) (fun k => KV n kd Hh k.1 ∧ k.2 = fi) := by
  intro f
  have hn := P.1
  induction f with
  | zero => intro g y kn _ h; exact absurd h (by omega)
  | succ f ih =>
    intro g y kn hg hf K
    have ih := ih (g + 1)
    show Tot (fX4_read_42 sz ki te b0 z0 n0 b1 z1 n1 b2_ z2 n2 b3 z3 n3 (ll5 (fX4_read_42 sz ki te b0 z0 n0 b1 z1 n1 b2_ z2 n2 b3 z3 n3) f) kn fi (nI 0) y (nI g)) _
    generalize ll5 (fX4_read_42 sz ki te b0 z0 n0 b1 z1 n1 b2_ z2 n2 b3 z3 n3) f = ag at ih ⊢
    unfold fX4_read_42
    have e : (if sz ≤ nI g then some (y, (kn, fi)) else ll6 (fX4_read_57 sz ki te b0 z0 n0 b1 z1 n1 b2_ z2 n2 b3 z3 n3 ag) qF kn fi (nI 0) y (nI g) 0) = (if n ≤ g then some (y, (kn, fi)) else ll6 (fX4_read_57 sz ki te b0 z0 n0 b1 z1 n1 b2_ z2 n2 b3 z3 n3 ag) qF kn fi (nI 0) y (nI g) 0) := by
      rw [P.2.1]
      exact ite_le (by omega) (by omega) _ _
    rw [e]
    by_cases c : n ≤ g
    · rw [if_pos c]; exact ⟨_, _, rfl, K, rfl⟩
    · rw [if_neg c]
      exact read57_0 P Hi (by omega) (fun kn y K => ih y kn (by omega) (by omega) K) 1024 0 y kn (by omega) (by omega) K
theorem read57_1 (P : PC n kd Hh sz ki te) (Hi : R1 b1 z1 n1 bo so no 1) {g : Nat} (hg : g < n) {ag42 : (Nat → Int32) → (Nat → Int32) → Int32 → Int32 → Int32 → Option (Int32 × (Nat → Int32) × (Nat → Int32))} (hag : ∀ kn y, KV n kd Hh kn → Tot (ag42 kn fi (nI 1) y (nI (g + 1))) (fun k => KV n kd Hh k.1 ∧ k.2 = fi)) : ∀ (f k : Nat) (y : Int32) (kn : Nat → Int32), k ≤ 6 → 6 - k < f → KV n kd Hh kn → Tot (ll6 (fX4_read_57 sz ki te b0 z0 n0 b1 z1 n1 b2_ z2 n2 b3 z3 n3 ag42) f kn fi (nI 1) y (nI g) (nI k)) (fun k => KV n kd Hh k.1 ∧ k.2 = fi) := by
  intro f
  obtain ⟨h1, h2, ⟨q, h3, h4, h5⟩, h6⟩ := Hi
  have hn := P.1
  induction f with
  | zero => intro k y kn _ h; exact absurd h (by omega)
  | succ f ih =>
    intro k y kn hk hf K
    have ih := ih (k + 1)
    show Tot (fX4_read_57 sz ki te b0 z0 n0 b1 z1 n1 b2_ z2 n2 b3 z3 n3 ag42 (ll6 (fX4_read_57 sz ki te b0 z0 n0 b1 z1 n1 b2_ z2 n2 b3 z3 n3 ag42) f) kn fi (nI 1) y (nI g) (nI k)) _
    generalize ll6 (fX4_read_57 sz ki te b0 z0 n0 b1 z1 n1 b2_ z2 n2 b3 z3 n3 ag42) f = ag at ih ⊢
    unfold fX4_read_57
    rw [fa_lit 6, ite_le (by decide) (by omega)]
    by_cases c : 6 ≤ k
    · rw [if_pos c, nm_of, nI_1]
      exact hag kn y K
    · rw [if_neg c, sel4_1]
      obtain ⟨r, k1, q1, q2⟩ := explains_tot (b := b1) (nu := n1) P h3 hg (show k < 6 by omega) 1024 1 kn (by omega) (by omega) (by omega) K
      have q1 : fX4_explains sz ki te kn b1 z1 n1 (nI g) (nI k) = some (r, k1) := by rw [h4]; exact q1
      rw [q1, bR_some]
      unfold fX4_oneIf
      split
      · rw [bR_some, nm_of, nm_of, nI_1]; exact ih _ k1 (by omega) (by omega) q2
      · rw [bR_some, nm_of, nm_of, nI_1]; exact ih _ k1 (by omega) (by omega) q2
theorem read42_1 (P : PC n kd Hh sz ki te) (Hi : R1 b1 z1 n1 bo so no 1) : ∀ (f g : Nat) (y : Int32) (kn : Nat → Int32), g ≤ n → n - g < f → KV n kd Hh kn → Tot (ll5 (fX4_read_42 sz ki te b0 z0 n0 b1 z1 n1 b2_ z2 n2 b3 z3 n3) f kn fi (nI 1) y (nI g)) (fun k => KV n kd Hh k.1 ∧ k.2 = fi) := by
  intro f
  have hn := P.1
  induction f with
  | zero => intro g y kn _ h; exact absurd h (by omega)
  | succ f ih =>
    intro g y kn hg hf K
    have ih := ih (g + 1)
    show Tot (fX4_read_42 sz ki te b0 z0 n0 b1 z1 n1 b2_ z2 n2 b3 z3 n3 (ll5 (fX4_read_42 sz ki te b0 z0 n0 b1 z1 n1 b2_ z2 n2 b3 z3 n3) f) kn fi (nI 1) y (nI g)) _
    generalize ll5 (fX4_read_42 sz ki te b0 z0 n0 b1 z1 n1 b2_ z2 n2 b3 z3 n3) f = ag at ih ⊢
    unfold fX4_read_42
    have e : (if sz ≤ nI g then some (y, (kn, fi)) else ll6 (fX4_read_57 sz ki te b0 z0 n0 b1 z1 n1 b2_ z2 n2 b3 z3 n3 ag) qF kn fi (nI 1) y (nI g) 0) = (if n ≤ g then some (y, (kn, fi)) else ll6 (fX4_read_57 sz ki te b0 z0 n0 b1 z1 n1 b2_ z2 n2 b3 z3 n3 ag) qF kn fi (nI 1) y (nI g) 0) := by
      rw [P.2.1]
      exact ite_le (by omega) (by omega) _ _
    rw [e]
    by_cases c : n ≤ g
    · rw [if_pos c]; exact ⟨_, _, rfl, K, rfl⟩
    · rw [if_neg c]
      exact read57_1 P Hi (by omega) (fun kn y K => ih y kn (by omega) (by omega) K) 1024 0 y kn (by omega) (by omega) K
theorem read57_2 (P : PC n kd Hh sz ki te) (Hi : R1 b2_ z2 n2 bo so no 2) {g : Nat} (hg : g < n) {ag42 : (Nat → Int32) → (Nat → Int32) → Int32 → Int32 → Int32 → Option (Int32 × (Nat → Int32) × (Nat → Int32))} (hag : ∀ kn y, KV n kd Hh kn → Tot (ag42 kn fi (nI 2) y (nI (g + 1))) (fun k => KV n kd Hh k.1 ∧ k.2 = fi)) : ∀ (f k : Nat) (y : Int32) (kn : Nat → Int32), k ≤ 6 → 6 - k < f → KV n kd Hh kn → Tot (ll6 (fX4_read_57 sz ki te b0 z0 n0 b1 z1 n1 b2_ z2 n2 b3 z3 n3 ag42) f kn fi (nI 2) y (nI g) (nI k)) (fun k => KV n kd Hh k.1 ∧ k.2 = fi) := by
  intro f
  obtain ⟨h1, h2, ⟨q, h3, h4, h5⟩, h6⟩ := Hi
  have hn := P.1
  induction f with
  | zero => intro k y kn _ h; exact absurd h (by omega)
  | succ f ih =>
    intro k y kn hk hf K
    have ih := ih (k + 1)
    show Tot (fX4_read_57 sz ki te b0 z0 n0 b1 z1 n1 b2_ z2 n2 b3 z3 n3 ag42 (ll6 (fX4_read_57 sz ki te b0 z0 n0 b1 z1 n1 b2_ z2 n2 b3 z3 n3 ag42) f) kn fi (nI 2) y (nI g) (nI k)) _
    generalize ll6 (fX4_read_57 sz ki te b0 z0 n0 b1 z1 n1 b2_ z2 n2 b3 z3 n3 ag42) f = ag at ih ⊢
    unfold fX4_read_57
    rw [fa_lit 6, ite_le (by decide) (by omega)]
    by_cases c : 6 ≤ k
    · rw [if_pos c, nm_of, nI_1]
      exact hag kn y K
    · rw [if_neg c, sel4_2]
      obtain ⟨r, k1, q1, q2⟩ := explains_tot (b := b2_) (nu := n2) P h3 hg (show k < 6 by omega) 1024 1 kn (by omega) (by omega) (by omega) K
      have q1 : fX4_explains sz ki te kn b2_ z2 n2 (nI g) (nI k) = some (r, k1) := by rw [h4]; exact q1
      rw [q1, bR_some]
      unfold fX4_oneIf
      split
      · rw [bR_some, nm_of, nm_of, nI_1]; exact ih _ k1 (by omega) (by omega) q2
      · rw [bR_some, nm_of, nm_of, nI_1]; exact ih _ k1 (by omega) (by omega) q2
theorem read42_2 (P : PC n kd Hh sz ki te) (Hi : R1 b2_ z2 n2 bo so no 2) : ∀ (f g : Nat) (y : Int32) (kn : Nat → Int32), g ≤ n → n - g < f → KV n kd Hh kn → Tot (ll5 (fX4_read_42 sz ki te b0 z0 n0 b1 z1 n1 b2_ z2 n2 b3 z3 n3) f kn fi (nI 2) y (nI g)) (fun k => KV n kd Hh k.1 ∧ k.2 = fi) := by
  intro f
  have hn := P.1
  induction f with
  | zero => intro g y kn _ h; exact absurd h (by omega)
  | succ f ih =>
    intro g y kn hg hf K
    have ih := ih (g + 1)
    show Tot (fX4_read_42 sz ki te b0 z0 n0 b1 z1 n1 b2_ z2 n2 b3 z3 n3 (ll5 (fX4_read_42 sz ki te b0 z0 n0 b1 z1 n1 b2_ z2 n2 b3 z3 n3) f) kn fi (nI 2) y (nI g)) _
    generalize ll5 (fX4_read_42 sz ki te b0 z0 n0 b1 z1 n1 b2_ z2 n2 b3 z3 n3) f = ag at ih ⊢
    unfold fX4_read_42
    have e : (if sz ≤ nI g then some (y, (kn, fi)) else ll6 (fX4_read_57 sz ki te b0 z0 n0 b1 z1 n1 b2_ z2 n2 b3 z3 n3 ag) qF kn fi (nI 2) y (nI g) 0) = (if n ≤ g then some (y, (kn, fi)) else ll6 (fX4_read_57 sz ki te b0 z0 n0 b1 z1 n1 b2_ z2 n2 b3 z3 n3 ag) qF kn fi (nI 2) y (nI g) 0) := by
      rw [P.2.1]
      exact ite_le (by omega) (by omega) _ _
    rw [e]
    by_cases c : n ≤ g
    · rw [if_pos c]; exact ⟨_, _, rfl, K, rfl⟩
    · rw [if_neg c]
      exact read57_2 P Hi (by omega) (fun kn y K => ih y kn (by omega) (by omega) K) 1024 0 y kn (by omega) (by omega) K
theorem read57_3 (P : PC n kd Hh sz ki te) (Hi : R1 b3 z3 n3 bo so no 3) {g : Nat} (hg : g < n) {ag42 : (Nat → Int32) → (Nat → Int32) → Int32 → Int32 → Int32 → Option (Int32 × (Nat → Int32) × (Nat → Int32))} (hag : ∀ kn y, KV n kd Hh kn → Tot (ag42 kn fi (nI 3) y (nI (g + 1))) (fun k => KV n kd Hh k.1 ∧ k.2 = fi)) : ∀ (f k : Nat) (y : Int32) (kn : Nat → Int32), k ≤ 6 → 6 - k < f → KV n kd Hh kn → Tot (ll6 (fX4_read_57 sz ki te b0 z0 n0 b1 z1 n1 b2_ z2 n2 b3 z3 n3 ag42) f kn fi (nI 3) y (nI g) (nI k)) (fun k => KV n kd Hh k.1 ∧ k.2 = fi) := by
  intro f
  obtain ⟨h1, h2, ⟨q, h3, h4, h5⟩, h6⟩ := Hi
  have hn := P.1
  induction f with
  | zero => intro k y kn _ h; exact absurd h (by omega)
  | succ f ih =>
    intro k y kn hk hf K
    have ih := ih (k + 1)
    show Tot (fX4_read_57 sz ki te b0 z0 n0 b1 z1 n1 b2_ z2 n2 b3 z3 n3 ag42 (ll6 (fX4_read_57 sz ki te b0 z0 n0 b1 z1 n1 b2_ z2 n2 b3 z3 n3 ag42) f) kn fi (nI 3) y (nI g) (nI k)) _
    generalize ll6 (fX4_read_57 sz ki te b0 z0 n0 b1 z1 n1 b2_ z2 n2 b3 z3 n3 ag42) f = ag at ih ⊢
    unfold fX4_read_57
    rw [fa_lit 6, ite_le (by decide) (by omega)]
    by_cases c : 6 ≤ k
    · rw [if_pos c, nm_of, nI_1]
      exact hag kn y K
    · rw [if_neg c, sel4_3]
      obtain ⟨r, k1, q1, q2⟩ := explains_tot (b := b3) (nu := n3) P h3 hg (show k < 6 by omega) 1024 1 kn (by omega) (by omega) (by omega) K
      have q1 : fX4_explains sz ki te kn b3 z3 n3 (nI g) (nI k) = some (r, k1) := by rw [h4]; exact q1
      rw [q1, bR_some]
      unfold fX4_oneIf
      split
      · rw [bR_some, nm_of, nm_of, nI_1]; exact ih _ k1 (by omega) (by omega) q2
      · rw [bR_some, nm_of, nm_of, nI_1]; exact ih _ k1 (by omega) (by omega) q2
theorem read42_3 (P : PC n kd Hh sz ki te) (Hi : R1 b3 z3 n3 bo so no 3) : ∀ (f g : Nat) (y : Int32) (kn : Nat → Int32), g ≤ n → n - g < f → KV n kd Hh kn → Tot (ll5 (fX4_read_42 sz ki te b0 z0 n0 b1 z1 n1 b2_ z2 n2 b3 z3 n3) f kn fi (nI 3) y (nI g)) (fun k => KV n kd Hh k.1 ∧ k.2 = fi) := by
  intro f
  have hn := P.1
  induction f with
  | zero => intro g y kn _ h; exact absurd h (by omega)
  | succ f ih =>
    intro g y kn hg hf K
    have ih := ih (g + 1)
    show Tot (fX4_read_42 sz ki te b0 z0 n0 b1 z1 n1 b2_ z2 n2 b3 z3 n3 (ll5 (fX4_read_42 sz ki te b0 z0 n0 b1 z1 n1 b2_ z2 n2 b3 z3 n3) f) kn fi (nI 3) y (nI g)) _
    generalize ll5 (fX4_read_42 sz ki te b0 z0 n0 b1 z1 n1 b2_ z2 n2 b3 z3 n3) f = ag at ih ⊢
    unfold fX4_read_42
    have e : (if sz ≤ nI g then some (y, (kn, fi)) else ll6 (fX4_read_57 sz ki te b0 z0 n0 b1 z1 n1 b2_ z2 n2 b3 z3 n3 ag) qF kn fi (nI 3) y (nI g) 0) = (if n ≤ g then some (y, (kn, fi)) else ll6 (fX4_read_57 sz ki te b0 z0 n0 b1 z1 n1 b2_ z2 n2 b3 z3 n3 ag) qF kn fi (nI 3) y (nI g) 0) := by
      rw [P.2.1]
      exact ite_le (by omega) (by omega) _ _
    rw [e]
    by_cases c : n ≤ g
    · rw [if_pos c]; exact ⟨_, _, rfl, K, rfl⟩
    · rw [if_neg c]
      exact read57_3 P Hi (by omega) (fun kn y K => ih y kn (by omega) (by omega) K) 1024 0 y kn (by omega) (by omega) K
theorem isList_L (M : PM n kd Hh s) (v : Int64) : fX5_isList s v = some (b2 (0 ≤ v.toInt ∧ v.toInt < (2 ^ n : Nat)), ()) := by
  unfold fX5_isList
  rw [lists_m M, bR_some, in_b2, bR_some, gB_b2, nl1_i n (by have := M.1; omega)]
  rw [b2_congr (show ((0 : Int64).toInt ≤ v.toInt ∧ v.toInt ≤ ((2 ^ n : Nat) : Int) - 1) ↔ (0 ≤ v.toInt ∧ v.toInt < (2 ^ n : Nat)) from by
    rw [show (0 : Int64).toInt = 0 from by decide]; omega)]
theorem list_L {v : Int64} {N : Nat} (hN : N ≤ 256) (h : 0 ≤ v.toInt ∧ v.toInt < N) : ∃ a, a < N ∧ v.toInt32 = nI a := by
  refine ⟨v.toInt.toNat, by omega, ?_⟩
  have e : v = lN v.toInt.toNat := Int64.toInt_inj.mp (by rw [lN_toInt (by omega)]; omega)
  rw [← lN_i, ← e]
theorem isRow_tot (M : PM n kd Hh s) {i q : Nat} (hi : i < 4) (hq : q ≤ 40) (hs : so i = nI q) : ∀ (f j : Nat) (p : Nat → Int32), j ≤ q → q - j < f → (0 < j → 0 ≤ (no (40 * i + j - 1)).toInt ∧ (no (40 * i + j - 1)).toInt < (2 ^ n : Nat)) → Tot (ll3 (fX5_isRow_2 s so no) f p (nI i) (nI j)) (fun _ => True) := by
  intro f
  have hN := two_le M.1
  induction f with
  | zero => intro j p _ h; exact absurd h (by omega)
  | succ f ih =>
    intro j p hj hf hp
    have ih := ih (j + 1)
    show Tot (fX5_isRow_2 s so no (ll3 (fX5_isRow_2 s so no) f) p (nI i) (nI j)) _
    generalize ll3 (fX5_isRow_2 s so no) f = ag at ih ⊢
    unfold fX5_isRow_2 fX5_isRow_62
    rw [gIn_nI hi (by decide), nI_clamp (by omega), hs, ite_le (by omega) (by omega)]
    by_cases c : q ≤ j
    · rw [if_pos c]; exact ⟨_, _, rfl, trivial⟩
    · rw [if_neg c, idx_i, gIn_nI (by omega) (by decide), nI_clamp (by omega), nm_of, isList_L M, bR_some, ite_b2]
      by_cases d : 0 ≤ (no (40 * i + j)).toInt ∧ (no (40 * i + j)).toInt < (2 ^ n : Nat)
      · have hnext : 0 < j + 1 → 0 ≤ (no (40 * i + (j + 1) - 1)).toInt ∧ (no (40 * i + (j + 1) - 1)).toInt < (2 ^ n : Nat) := by
          intro _
          rw [show 40 * i + (j + 1) - 1 = 40 * i + j by omega]
          exact d
        rw [if_pos d, nm_of, nI_1 j]
        by_cases e : j = 0
        · subst e
          rw [if_pos (by decide)]
          exact ih p (by omega) (by omega) hnext
        · have hj0 : ¬ nI j ≤ 0 := fun q => e (by have := (nI_leI (b := 0) (by omega) (by decide)).mp q; omega)
          obtain ⟨a, ha, ea⟩ := list_L hN (hp (by omega))
          obtain ⟨k1, q1, -⟩ := would_r M (show a < 256 by omega) p
          rw [if_neg hj0, fa_lit 1, nI_sub1 (by omega), gIn_nI (by omega) (by decide), nI_clamp (by omega), ea, q1, bR_some, nm_of]
          split
          · exact ih k1 (by omega) (by omega) hnext
          · exact ⟨_, _, rfl, trivial⟩
      · rw [if_neg d]; exact ⟨_, _, rfl, trivial⟩
theorem read44_tot (M : PM n kd Hh s) {i q g : Nat} (hi : i < 4) (hq : q ≤ 40) (hs : so i = nI q) (hg : g < n) {ag21 : (Nat → Int32) → (Nat → Int32) → (Nat → Int32) → Int32 → Int32 → Int32 → Option (Int32 × (Nat → Int32) × (Nat → Int32) × (Nat → Int32))} (hag : ∀ p y, Tot (ag21 s st p (nI i) y (nI (g + 1))) (fun k => k.1 = s ∧ k.2.1 = st)) : ∀ (f k : Nat) (y v : Int32) (p : Nat → Int32), k ≤ 6 → 6 - k < f → Tot (ll8 (fX5_read_44 bo so no ag21) f (upd s (2 + 3 * g) v) st p (nI i) y (nI g) (nI (kd g)) (nI k)) (fun k => k.1 = s ∧ k.2.1 = st) := by
  intro f
  have hn := M.1
  induction f with
  | zero => intro k y v p _ h; exact absurd h (by omega)
  | succ f ih =>
    intro k y v p hk hf
    have ih := ih (k + 1)
    show Tot (fX5_read_44 bo so no ag21 (ll8 (fX5_read_44 bo so no ag21) f) (upd s (2 + 3 * g) v) st p (nI i) y (nI g) (nI (kd g)) (nI k)) _
    generalize ll8 (fX5_read_44 bo so no ag21) f = ag at ih ⊢
    unfold fX5_read_44 fX5_read_78
    have e : 2 + 3 * nI g = nI (2 + 3 * g) := by rw [fa_lit 2, fa_lit 3, nI_mulL, nI_add]
    rw [e, gIn_nI (by omega) (by decide), gIn_nI (by omega) (by decide), nI_clamp (by omega), upd_upd, upd_upd, fa_lit 6, ite_le (by decide) (by omega)]
    by_cases c : 6 ≤ k
    · rw [if_pos c, upd_self (M.2.2.1 g hg).2, nm_of, nI_1]
      exact hag p y
    · rw [if_neg c]
      obtain ⟨r, k1, q1, -⟩ := isRow_tot (no := no) (so := so) (PM_kind M hg (show k < 6 by omega)) hi hq hs 1024 0 p (by omega) (by omega) (fun h => absurd h (by omega))
      have q1 : fX5_isRow (upd s (2 + 3 * g) (nI k)) p so no (nI i) = some (r, k1) := q1
      rw [q1, bR_some]
      split
      · rw [nm_of, nm_of, nI_1]; exact ih _ _ k1 (by omega) (by omega)
      · rw [nm_of, nm_of, nI_1]; exact ih _ _ k1 (by omega) (by omega)
theorem read21_tot (M : PM n kd Hh s) {i q : Nat} (hi : i < 4) (hq : q ≤ 40) (hs : so i = nI q) : ∀ (f g : Nat) (y : Int32) (p : Nat → Int32), g ≤ n → n - g < f → Tot (ll6 (fX5_read_21 bo so no) f s st p (nI i) y (nI g)) (fun k => k.1 = s ∧ k.2.1 = st) := by
  intro f
  have hn := M.1
  induction f with
  | zero => intro g y p _ h; exact absurd h (by omega)
  | succ f ih =>
    intro g y p hg hf
    have ih := ih (g + 1)
    show Tot (fX5_read_21 bo so no (ll6 (fX5_read_21 bo so no) f) s st p (nI i) y (nI g)) _
    generalize ll6 (fX5_read_21 bo so no) f = ag at ih ⊢
    unfold fX5_read_21
    rw [M.2.1, ite_le (by omega) (by omega)]
    by_cases c : n ≤ g
    · rw [if_pos c]; exact ⟨_, _, rfl, rfl, rfl⟩
    · rw [if_neg c, its_0 s (by omega), bR_some, (M.2.2.1 g (by omega)).2]
      have := read44_tot (st := st) (bo := bo) (no := no) M hi hq hs (show g < n by omega) (ag21 := ag) (fun p y => ih y p (by omega) (by omega)) 1024 0 y (nI (kd g)) p (by omega) (by omega)
      rw [upd_self (M.2.2.1 g (by omega)).2] at this
      exact this
theorem op_read (R : RA sz li to ki co te s n l kd cc Hh) (K : KV n kd Hh kn) (H : RS b0 z0 n0 b1 z1 n1 b2_ z2 n2 b3 z3 n3 bo so no) (F : FS fi st) (x1 : Int32) : ∃ r1 k1 r2 k2, fX4_read sz ki te kn b0 z0 n0 b1 z1 n1 b2_ z2 n2 b3 z3 n3 fi x1 = some (r1, k1) ∧ fX5_read s st pile bo so no x1 = some (r2, k2) ∧ KV n kd Hh k1.1 ∧ k2.1 = s ∧ FS k1.2 k2.2.1 := by
  obtain ⟨P, M, -⟩ := R
  have hn := P.1
  by_cases h : 0 ≤ x1.toInt ∧ x1.toInt ≤ 3
  · obtain ⟨i, hi, rfl⟩ := i_ex (x := x1) (n := 4) (by decide) h.1 (by omega)
    clear h
    unfold fX4_read fX5_read
    rw [wrong_i hi, bR_some, every_p P]
    rcases (show i = 0 ∨ i = 1 ∨ i = 2 ∨ i = 3 by omega) with rfl | rfl | rfl | rfl
    · obtain ⟨h1, h2, ⟨q, h3, h4, h5⟩, h6⟩ := id H.1
      rw [lack_0, bR_some, ← h1]
      by_cases hb : b0 = 0
      · rw [if_pos hb, if_neg (by decide), if_neg (by decide), fnd_6, fns_6, bR_some, bR_some]
        exact ⟨_, _, _, _, rfl, rfl, K, rfl, F.up (by decide)⟩
      · rw [if_neg hb, if_pos rfl, if_pos rfl, sel4_0, bR_some]
        obtain ⟨r2, k2, p1, p2, p3⟩ := read21_tot (st := st) (bo := bo) (no := no) M hi h3 h5 1024 0 0 pile (Nat.zero_le _) (by omega)
        have p1 : ll6 (fX5_read_21 bo so no) qF s st pile (nI 0) 0 0 = some (r2, k2) := p1
        obtain ⟨v, e⟩ := holdsOnly_tot (b := b0) (nu := n0) h3 (y := nI (2 ^ n - 1)) 1024 0 (Nat.zero_le _) (by omega)
        have e : fX1_holdsOnly b0 z0 n0 (nI (2 ^ n - 1)) = some (v, ()) := by rw [h4]; exact e
        rw [p1, e, bR_some]
        by_cases hv : v = 0
        · rw [if_pos hv]
          exact ⟨_, _, _, _, rfl, rfl, K, p2, by rw [p3]; exact F⟩
        · rw [if_neg hv]
          obtain ⟨r1, k1, q1, q2, q3⟩ := read42_0 (fi := fi) (b0 := b0) (z0 := z0) (n0 := n0) (b1 := b1) (z1 := z1) (n1 := n1) (b2_ := b2_) (z2 := z2) (n2 := n2) (b3 := b3) (z3 := z3) (n3 := n3) P H.1 1024 0 0 kn (Nat.zero_le _) (by omega) K
          have q1 : ll5 (fX4_read_42 sz ki te b0 z0 n0 b1 z1 n1 b2_ z2 n2 b3 z3 n3) qF kn fi (nI 0) 0 0 = some (r1, k1) := q1
          rw [q1]
          exact ⟨_, _, _, _, rfl, rfl, q2, p2, by rw [q3, p3]; exact F⟩
    · obtain ⟨h1, h2, ⟨q, h3, h4, h5⟩, h6⟩ := id H.2.1
      rw [lack_1, bR_some, ← h1]
      by_cases hb : b1 = 0
      · rw [if_pos hb, if_neg (by decide), if_neg (by decide), fnd_6, fns_6, bR_some, bR_some]
        exact ⟨_, _, _, _, rfl, rfl, K, rfl, F.up (by decide)⟩
      · rw [if_neg hb, if_pos rfl, if_pos rfl, sel4_1, bR_some]
        obtain ⟨r2, k2, p1, p2, p3⟩ := read21_tot (st := st) (bo := bo) (no := no) M hi h3 h5 1024 0 0 pile (Nat.zero_le _) (by omega)
        have p1 : ll6 (fX5_read_21 bo so no) qF s st pile (nI 1) 0 0 = some (r2, k2) := p1
        obtain ⟨v, e⟩ := holdsOnly_tot (b := b1) (nu := n1) h3 (y := nI (2 ^ n - 1)) 1024 0 (Nat.zero_le _) (by omega)
        have e : fX1_holdsOnly b1 z1 n1 (nI (2 ^ n - 1)) = some (v, ()) := by rw [h4]; exact e
        rw [p1, e, bR_some]
        by_cases hv : v = 0
        · rw [if_pos hv]
          exact ⟨_, _, _, _, rfl, rfl, K, p2, by rw [p3]; exact F⟩
        · rw [if_neg hv]
          obtain ⟨r1, k1, q1, q2, q3⟩ := read42_1 (fi := fi) (b0 := b0) (z0 := z0) (n0 := n0) (b1 := b1) (z1 := z1) (n1 := n1) (b2_ := b2_) (z2 := z2) (n2 := n2) (b3 := b3) (z3 := z3) (n3 := n3) P H.2.1 1024 0 0 kn (Nat.zero_le _) (by omega) K
          have q1 : ll5 (fX4_read_42 sz ki te b0 z0 n0 b1 z1 n1 b2_ z2 n2 b3 z3 n3) qF kn fi (nI 1) 0 0 = some (r1, k1) := q1
          rw [q1]
          exact ⟨_, _, _, _, rfl, rfl, q2, p2, by rw [q3, p3]; exact F⟩
    · obtain ⟨h1, h2, ⟨q, h3, h4, h5⟩, h6⟩ := id H.2.2.1
      rw [lack_2, bR_some, ← h1]
      by_cases hb : b2_ = 0
      · rw [if_pos hb, if_neg (by decide), if_neg (by decide), fnd_6, fns_6, bR_some, bR_some]
        exact ⟨_, _, _, _, rfl, rfl, K, rfl, F.up (by decide)⟩
      · rw [if_neg hb, if_pos rfl, if_pos rfl, sel4_2, bR_some]
        obtain ⟨r2, k2, p1, p2, p3⟩ := read21_tot (st := st) (bo := bo) (no := no) M hi h3 h5 1024 0 0 pile (Nat.zero_le _) (by omega)
        have p1 : ll6 (fX5_read_21 bo so no) qF s st pile (nI 2) 0 0 = some (r2, k2) := p1
        obtain ⟨v, e⟩ := holdsOnly_tot (b := b2_) (nu := n2) h3 (y := nI (2 ^ n - 1)) 1024 0 (Nat.zero_le _) (by omega)
        have e : fX1_holdsOnly b2_ z2 n2 (nI (2 ^ n - 1)) = some (v, ()) := by rw [h4]; exact e
        rw [p1, e, bR_some]
        by_cases hv : v = 0
        · rw [if_pos hv]
          exact ⟨_, _, _, _, rfl, rfl, K, p2, by rw [p3]; exact F⟩
        · rw [if_neg hv]
          obtain ⟨r1, k1, q1, q2, q3⟩ := read42_2 (fi := fi) (b0 := b0) (z0 := z0) (n0 := n0) (b1 := b1) (z1 := z1) (n1 := n1) (b2_ := b2_) (z2 := z2) (n2 := n2) (b3 := b3) (z3 := z3) (n3 := n3) P H.2.2.1 1024 0 0 kn (Nat.zero_le _) (by omega) K
          have q1 : ll5 (fX4_read_42 sz ki te b0 z0 n0 b1 z1 n1 b2_ z2 n2 b3 z3 n3) qF kn fi (nI 2) 0 0 = some (r1, k1) := q1
          rw [q1]
          exact ⟨_, _, _, _, rfl, rfl, q2, p2, by rw [q3, p3]; exact F⟩
    · obtain ⟨h1, h2, ⟨q, h3, h4, h5⟩, h6⟩ := id H.2.2.2
      rw [lack_3, bR_some, ← h1]
      by_cases hb : b3 = 0
      · rw [if_pos hb, if_neg (by decide), if_neg (by decide), fnd_6, fns_6, bR_some, bR_some]
        exact ⟨_, _, _, _, rfl, rfl, K, rfl, F.up (by decide)⟩
      · rw [if_neg hb, if_pos rfl, if_pos rfl, sel4_3, bR_some]
        obtain ⟨r2, k2, p1, p2, p3⟩ := read21_tot (st := st) (bo := bo) (no := no) M hi h3 h5 1024 0 0 pile (Nat.zero_le _) (by omega)
        have p1 : ll6 (fX5_read_21 bo so no) qF s st pile (nI 3) 0 0 = some (r2, k2) := p1
        obtain ⟨v, e⟩ := holdsOnly_tot (b := b3) (nu := n3) h3 (y := nI (2 ^ n - 1)) 1024 0 (Nat.zero_le _) (by omega)
        have e : fX1_holdsOnly b3 z3 n3 (nI (2 ^ n - 1)) = some (v, ()) := by rw [h4]; exact e
        rw [p1, e, bR_some]
        by_cases hv : v = 0
        · rw [if_pos hv]
          exact ⟨_, _, _, _, rfl, rfl, K, p2, by rw [p3]; exact F⟩
        · rw [if_neg hv]
          obtain ⟨r1, k1, q1, q2, q3⟩ := read42_3 (fi := fi) (b0 := b0) (z0 := z0) (n0 := n0) (b1 := b1) (z1 := z1) (n1 := n1) (b2_ := b2_) (z2 := z2) (n2 := n2) (b3 := b3) (z3 := z3) (n3 := n3) P H.2.2.2 1024 0 0 kn (Nat.zero_le _) (by omega) K
          have q1 : ll5 (fX4_read_42 sz ki te b0 z0 n0 b1 z1 n1 b2_ z2 n2 b3 z3 n3) qF kn fi (nI 3) 0 0 = some (r1, k1) := q1
          rw [q1]
          exact ⟨_, _, _, _, rfl, rfl, q2, p2, by rw [q3, p3]; exact F⟩
  · unfold fX4_read fX5_read
    rw [lackX h, wrongX h, bR_some, bR_some, if_neg (by decide), if_neg (by decide), fnd_1, fns_1, bR_some, bR_some]
    exact ⟨_, _, _, _, rfl, rfl, K, rfl, F.up (by decide)⟩
end SHE2
end
