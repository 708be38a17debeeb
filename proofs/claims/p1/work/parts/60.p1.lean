/-! one call on a fresh object -/
abbrev z0 : Nat → Int32 := fun _ => 0
abbrev zL : Nat → Int64 := fun _ => 0
abbrev zT : Nat → Int64 := fillF 32 (-1) (fun _ => 0)
abbrev zK : Nat → Int32 := fillF 256 (-1) (fun _ => 0)
theorem has_0 (x : Int32) : fX0_has 0 x = some (0, ()) := by
  rw [has_b2, b2_f]
  have e : (0 : Int32).toInt = 0 := by decide
  rw [e]; omega
theorem isG_0 (x : Int32) : fX5_isGuest z0 x = some (0, ()) := by
  unfold fX5_isGuest
  rw [in_b2, bR_some, gB_b2, b2_f]
  have e1 : (0 : Int64).toInt = 0 := by decide
  have e2 : ((z0 0 - 1).toInt64).toInt = -1 := by decide
  rw [e1, e2]; omega
theorem i_sub {x y : Int32} (h1 : -2147483648 ≤ x.toInt - y.toInt) (h2 : x.toInt - y.toInt ≤ 2147483647) : (x - y).toInt = x.toInt - y.toInt := by
  rw [Int32.toInt_sub, Int.bmod_eq_of_le (by omega) (by omega)]
theorem x_fst {α κ : Type} {o : Option (α × κ)} {r : α} (h : o.map Prod.fst = some r) : ∃ k, o = some (r, k) := by
  cases o with
  | none => cases h
  | some q => obtain ⟨a, b⟩ := q; cases h; exact ⟨b, rfl⟩
theorem x_map {α β : Type} {o : Option α} {f : α → β} {r : β} (h : o.map f = some r) : ∃ k, o = some k ∧ f k = r := by
  cases o with
  | none => cases h
  | some q => exact ⟨q, rfl, Option.some.inj h⟩
theorem lack_t {x : Int32} (h : 0 ≤ x.toInt ∧ x.toInt ≤ 3) : fX4_sheetLack 0 0 0 0 x = some (-1000000006, ()) := by
  obtain ⟨k, hk, rfl⟩ := i_ex (x := x) (n := 4) (by decide) h.1 (by omega)
  match k, hk with
  | 0, _ => rfl
  | 1, _ => rfl
  | 2, _ => rfl
  | 3, _ => rfl
  | k + 4, h => exact absurd h (by omega)
theorem lack_f {x : Int32} (h : ¬ (0 ≤ x.toInt ∧ x.toInt ≤ 3)) : fX4_sheetLack 0 0 0 0 x = some (-1000000001, ()) := by
  unfold fX4_sheetLack
  rw [isSheet_b2, bR_some, ite_b2, if_neg h]
theorem wrong_t {x : Int32} (h : 0 ≤ x.toInt ∧ x.toInt ≤ 3) : fX5_wrong z0 x = some (-1000000006, ()) := by
  obtain ⟨k, hk, rfl⟩ := i_ex (x := x) (n := 4) (by decide) h.1 (by omega)
  match k, hk with
  | 0, _ => rfl
  | 1, _ => rfl
  | 2, _ => rfl
  | 3, _ => rfl
  | k + 4, h => exact absurd h (by omega)
theorem wrong_f {x : Int32} (h : ¬ (0 ≤ x.toInt ∧ x.toInt ≤ 3)) : fX5_wrong z0 x = some (-1000000001, ()) := by
  unfold fX5_wrong
  rw [isOne_b2, bR_some, ite_b2, if_neg h]
theorem sheet_loop (s : Nat) (hs : s < 4) : ∀ (n k : Nat) (st bo so : Nat → Int32) (nu : Nat → Int64), k ≤ 40 → 40 - k < n → ∃ nu', ll6 fX5_sheet_85 n st bo so nu (nI s) (nI k) = some (so s, (st, bo, so, nu'))
  | 0, k, st, bo, so, nu, _, h => absurd h (by omega)
  | n + 1, k, st, bo, so, nu, hk, hn => by
    have ih := sheet_loop s hs n (k + 1) st bo so
    show ∃ nu', fX5_sheet_85 (ll6 fX5_sheet_85 n) st bo so nu (nI s) (nI k) = _
    generalize ll6 fX5_sheet_85 n = ag at ih ⊢
    unfold fX5_sheet_85
    by_cases c : 40 ≤ k
    · rw [if_pos (show (40 : Int32) ≤ nI k from nI_le (a := 40) c (by omega)), gIn_nI hs (by decide), nI_clamp (by omega)]
      exact ⟨nu, rfl⟩
    · rw [if_neg (show ¬ (40 : Int32) ≤ nI k from nI_ge (b := 40) (by omega) (by decide)), show (40 : Int32) * nI s + nI k = nI (40 * s + k) from by rw [← nI_add]; exact congrArg (· + nI k) (Int32.ofNat_mul 40 s).symm, gIn_nI (by omega) (by decide), nm_of, nI_1]
      exact ih _ (by omega) (by omega)
theorem z_sheet36 {x1 x2 x3 : Int32} (h : 0 ≤ x1.toInt ∧ x1.toInt ≤ 3) : (fX4_sheet_36 0 0 zL 0 0 zL 0 0 zL 0 0 zL z0 x1 x2 x3).map Prod.fst = (fX5_sheet_36 z0 z0 z0 zL x1 x2 x3).map Prod.fst ∧ (fX4_sheet_36 0 0 zL 0 0 zL 0 0 zL 0 0 zL z0 x1 x2 x3).isSome = true := by
  unfold fX4_sheet_36 fX5_sheet_36
  by_cases h1 : 0 ≤ x3
  · rw [if_pos h1, if_pos h1]
    by_cases h2 : x3 ≤ 40
    · rw [if_pos h2, if_pos h2]
      have hl : fX1_lay 0 0 zL x2 x3 = some (if x2 = 0 then 0 else x3, (x2, (if x2 = 0 then 0 else x3), fillF 40 0 zL)) := by
        unfold fX1_lay fX1_lay_15
        rw [fillL 40 (by decide)]
        by_cases c : x2 = 0
        · rw [if_pos c, if_pos c]; rfl
        · rw [if_neg c, if_neg c]; rfl
      rw [hl]
      obtain ⟨k, hk, rfl⟩ := i_ex (x := x1) (n := 4) (by decide) h.1 (by omega)
      have hm : ∃ q, (gIn (nI k) 4 (if x2 = 0 then fX5_sheet_81 z0 (upd z0 (nI k).toNatClampNeg x2) z0 zL (nI k) 0 (nI k) else fX5_sheet_81 z0 (upd z0 (nI k).toNatClampNeg x2) z0 zL (nI k) x3 (nI k))) = some (if x2 = 0 then 0 else x3, q) := by
        rw [gIn_nI hk (by decide)]
        unfold fX5_sheet_81
        rw [gIn_nI hk (by decide), gIn_nI hk (by decide), nI_clamp (by omega)]
        by_cases c : x2 = 0
        · rw [if_pos c, if_pos c]
          obtain ⟨nu, e⟩ := sheet_loop k hk 1024 0 z0 (upd z0 k x2) (upd z0 k 0) zL (by omega) (by omega)
          rw [nI_0, pk_us] at e
          exact ⟨_, e⟩
        · rw [if_neg c, if_neg c]
          obtain ⟨nu, e⟩ := sheet_loop k hk 1024 0 z0 (upd z0 k x2) (upd z0 k x3) zL (by omega) (by omega)
          rw [nI_0, pk_us] at e
          exact ⟨_, e⟩
      obtain ⟨q, e⟩ := hm
      rw [e]
      match k, hk with
      | 0, _ => exact ⟨rfl, rfl⟩
      | 1, _ => exact ⟨rfl, rfl⟩
      | 2, _ => exact ⟨rfl, rfl⟩
      | 3, _ => exact ⟨rfl, rfl⟩
      | k + 4, h => exact absurd h (by omega)
    · rw [if_neg h2, if_neg h2]
      exact ⟨rfl, rfl⟩
  · rw [if_neg h1, if_neg h1]
    exact ⟨rfl, rfl⟩
theorem isSet_0 (x : Int32) : fX0_isSet 0 x = some (b2 (x.toInt = 0), ()) := by
  unfold fX0_isSet
  have e0 : (0 : Int32).toInt = 0 := by decide
  have e1 : (jshl 1 0).toInt = 1 := by decide
  by_cases h1 : x < 0
  · rw [if_pos h1, b2_f]
    rw [Int32.lt_iff_toInt_lt] at h1; omega
  · rw [if_neg h1]
    rw [Int32.lt_iff_toInt_lt] at h1
    show (if jshl 1 0 ≤ x then some ((0 : Int32), ()) else some (1, ())) = _
    by_cases h2 : jshl 1 0 ≤ x
    · rw [if_pos h2, b2_f]
      rw [Int32.le_iff_toInt_le] at h2; omega
    · rw [if_neg h2, b2_t]
      rw [Int32.le_iff_toInt_le] at h2; omega
theorem isList_0 (x : Int32) : fX5_isList z0 x.toInt64 = some (b2 (x.toInt = 0), ()) := by
  unfold fX5_isList fX5_lists
  rw [bR_some, in_32 x 0 0 (by decide) (by decide), bR_some, gB_b2]
  by_cases h : x.toInt = 0
  · rw [b2_t h, b2_t (by omega)]
  · rw [b2_f h, b2_f (by omega)]
theorem i_zero {x : Int32} (h : x.toInt = 0) : x = 0 := Int32.toInt_inj.mp (by rw [h]; rfl)
theorem z_guest (x1 : Int32) (x2 : Int32) : (fX4_guest 0 z0 z0 zK z0 x1 x2).map Prod.fst = (fX5_guest z0 z0 x1 x2).map Prod.fst ∧ (fX4_guest 0 z0 z0 zK z0 x1 x2).isSome = true := by
  unfold fX4_guest fX5_guest
  rw [isKind_b2, isCost_b2, in_32 x1 0 5 (by decide) (by decide), in_32 x2 0 99 (by decide) (by decide), bR_some, bR_some, bR_some, bR_some, ite_b2, ite_b2, ite_b2, ite_b2]
  by_cases h1 : 0 ≤ x1.toInt ∧ x1.toInt ≤ 5
  · by_cases h2 : 0 ≤ x2.toInt ∧ x2.toInt ≤ 99
    · rw [if_pos h1, if_pos h1, if_pos h2, if_pos h2]
      have hw : fX0_welcome 0 z0 z0 zK x1 x2 = some (0, (1, upd z0 0 x1, upd z0 0 x2, fillF 256 (-1) zK)) := by
        unfold fX0_welcome
        rw [fillI 256 (by decide)]
        rfl
      rw [hw, if_neg (by decide), if_neg (by decide), nm_of, gIn_of (vinK (by decide +kernel)), gIn_of (vinK (by decide +kernel)), gIn_of (vinK (by decide +kernel)), pk_us, pk_un (by decide +kernel), pk_un (by decide +kernel), pk_un (by decide +kernel)]
      exact ⟨rfl, rfl⟩
    · rw [if_pos h1, if_pos h1, if_neg h2, if_neg h2]
      exact ⟨rfl, rfl⟩
  · rw [if_neg h1, if_neg h1]
    exact ⟨rfl, rfl⟩
theorem z_of (x1 : Int32) (x2 : Int32) : (fX4_of 0 0 z0 z0 zT zK z0 x1 x2).map Prod.fst = (fX5_of z0 z0 z0 x1 x2).map Prod.fst ∧ (fX4_of 0 0 z0 z0 zT zK z0 x1 x2).isSome = true := by
  unfold fX4_of fX5_of
  rw [has_0, isG_0]
  exact ⟨rfl, rfl⟩
theorem z_cost (x1 : Int32) (x2 : Int32) : (fX4_cost 0 z0 z0 x1 x2).map Prod.fst = (fX5_cost z0 z0 x1 x2).map Prod.fst ∧ (fX4_cost 0 z0 z0 x1 x2).isSome = true := by
  unfold fX4_cost fX5_cost
  rw [has_0, isG_0]
  exact ⟨rfl, rfl⟩
theorem z_turn (x1 : Int32) (x2 : Int32) : (fX4_turn 0 z0 zK z0 x1 x2).map Prod.fst = (fX5_turn z0 z0 x1 x2).map Prod.fst ∧ (fX4_turn 0 z0 zK z0 x1 x2).isSome = true := by
  unfold fX4_turn fX5_turn
  rw [has_0, isG_0]
  exact ⟨rfl, rfl⟩
theorem z_as (x1 : Int32) (x2 : Int32) : (fX4_as 0 z0 z0 z0 x1 x2).map Prod.fst = (fX5_as z0 z0 x1 x2).map Prod.fst ∧ (fX4_as 0 z0 z0 z0 x1 x2).isSome = true := by
  unfold fX4_as fX5_as
  rw [has_0, isG_0]
  exact ⟨rfl, rfl⟩
theorem z_term (x1 : Int32) : (fX4_term 0 0 zT zK 0 0 (-1) 0 0 z0 z0 x1).map Prod.fst = (fX5_term 0 0 0 0 0 z0 z0 z0 z0 x1).map Prod.fst ∧ (fX4_term 0 0 zT zK 0 0 (-1) 0 0 z0 z0 x1).isSome = true := by
  unfold fX4_term fX5_term
  rw [has_0, isG_0]
  exact ⟨rfl, rfl⟩
theorem z_feed (x1 : Int32) (x2 : Int32) : (fX4_feed 0 z0 z0 x1 x2).map Prod.fst = (fX5_feed 0 z0 z0 x1 x2).map Prod.fst ∧ (fX4_feed 0 z0 z0 x1 x2).isSome = true := by
  unfold fX4_feed fX5_feed
  have e1 : (1 : Int32).toInt = 1 := by decide
  have e4 : (4 : Int32).toInt = 4 := by decide
  rw [in_32 x2 1 4 (by decide) (by decide), bR_some, ite_b2]
  by_cases h1 : x2 < 1
  · rw [if_pos h1, if_neg (by rw [Int32.lt_iff_toInt_lt] at h1; omega)]
    exact ⟨rfl, rfl⟩
  · rw [if_neg h1]
    by_cases h2 : x2 ≤ 4
    · rw [if_pos h2, if_pos (show 1 ≤ x2.toInt ∧ x2.toInt ≤ 4 from by rw [Int32.lt_iff_toInt_lt] at h1; rw [Int32.le_iff_toInt_le] at h2; omega)]
      rw [Int32.lt_iff_toInt_lt] at h1
      rw [Int32.le_iff_toInt_le] at h2
      obtain ⟨k, hk, rfl⟩ := i_ex (x := x2) (n := 5) (by decide) (by omega) (by omega)
      rw [nI_toInt (by omega)] at h1
      match k, hk with
      | 0, _ => exact absurd (by decide) h1
      | 1, _ => exact ⟨rfl, rfl⟩
      | 2, _ => exact ⟨rfl, rfl⟩
      | 3, _ => exact ⟨rfl, rfl⟩
      | 4, _ => exact ⟨rfl, rfl⟩
      | k + 5, h => exact absurd h (by omega)
    · rw [if_neg h2, if_neg (by rw [Int32.le_iff_toInt_le] at h2; omega)]
      exact ⟨rfl, rfl⟩
theorem z_wipe : (fX4_wipe 0).map Prod.fst = (fX5_wipe 0).map Prod.fst ∧ (fX4_wipe 0).isSome = true := by
  decide +kernel
theorem z_list (x1 : Int32) : (fX4_list 0 0 z0 x1).map Prod.fst = (fX5_list z0 z0 x1).map Prod.fst ∧ (fX4_list 0 0 z0 x1).isSome = true := by
  unfold fX4_list fX5_list
  rw [isSet_0, isList_0, bR_some, bR_some, ite_b2, ite_b2]
  by_cases h : x1.toInt = 0
  · rw [if_pos h, if_pos h]
    exact ⟨rfl, rfl⟩
  · rw [if_neg h, if_neg h]
    exact ⟨rfl, rfl⟩
theorem z_now (x1 : Int32) : (fX4_now 0 0 z0 z0 zT zK z0 x1).map Prod.fst = (fX5_now z0 z0 z0 x1).map Prod.fst ∧ (fX4_now 0 0 z0 z0 zT zK z0 x1).isSome = true := by
  have key : ∀ k, k < 5 → (fX4_now 0 0 z0 z0 zT zK z0 (nI k)).map Prod.fst = (fX5_now z0 z0 z0 (nI k)).map Prod.fst ∧ (fX4_now 0 0 z0 z0 zT zK z0 (nI k)).isSome = true := by decide +kernel
  by_cases h : x1.toInt < 0 ∨ 4 < x1.toInt
  · unfold fX4_now fX5_now
    rw [if_pos h, if_pos h]
    exact ⟨rfl, rfl⟩
  · obtain ⟨k, hk, rfl⟩ := i_ex (x := x1) (n := 5) (by decide) (by omega) (by omega)
    exact key k hk
theorem z_call (x1 : Int32) : (fX4_call 0 0 z0 zT zK z0 x1).map Prod.fst = (fX5_call z0 z0 z0 x1).map Prod.fst ∧ (fX4_call 0 0 z0 zT zK z0 x1).isSome = true := by
  unfold fX4_call fX5_call
  rw [has_0, isG_0]
  exact ⟨rfl, rfl⟩
theorem z_calls (x1 : Int32) : (fX4_calls 0 0 z0 zT zK z0 x1).map Prod.fst = (fX5_calls z0 z0 z0 x1).map Prod.fst ∧ (fX4_calls 0 0 z0 zT zK z0 x1).isSome = true := by
  have key : ∀ k, k < 20 → (fX4_calls 0 0 z0 zT zK z0 (nI k + 1)).map Prod.fst = (fX5_calls z0 z0 z0 (nI k + 1)).map Prod.fst ∧ (fX4_calls 0 0 z0 zT zK z0 (nI k + 1)).isSome = true := by decide +kernel
  have el : (1 : Int32).toInt = 1 := by decide
  have eh : (20 : Int32).toInt = 20 := by decide
  by_cases h : 1 ≤ x1.toInt ∧ x1.toInt ≤ 20
  · obtain ⟨k, hk, e⟩ := i_ex (x := x1 - 1) (n := 20) (by decide) (by rw [i_sub (by rw [el]; omega) (by rw [el]; omega), el]; omega) (by rw [i_sub (by rw [el]; omega) (by rw [el]; omega), el]; omega)
    have e2 : x1 = nI k + 1 := by rw [← e]; exact (Int32.sub_add_cancel _ _).symm
    rw [e2]
    exact key k hk
  · unfold fX4_calls fX5_calls
    rw [in_32 x1 1 20 (by decide) (by decide), bR_some, ite_b2, if_neg h]
    by_cases h1 : x1.toInt < 1
    · have g1 : x1 < 1 := by rw [Int32.lt_iff_toInt_lt]; omega
      rw [if_pos g1]
      exact ⟨rfl, rfl⟩
    · have g1 : ¬ x1 < 1 := by rw [Int32.lt_iff_toInt_lt]; omega
      have g2 : 20 < x1 := by rw [Int32.lt_iff_toInt_lt]; omega
      have g3 : ¬ x1 ≤ 20 := by rw [Int32.le_iff_toInt_le]; omega
      first | rw [if_neg g1, if_pos g2] | rw [if_neg g1, if_neg g3]
      exact ⟨rfl, rfl⟩
theorem z_rounds (x1 : Int32) : (fX4_rounds 0 0 z0 zT zK z0 x1).map Prod.fst = (fX5_rounds z0 z0 z0 x1).map Prod.fst ∧ (fX4_rounds 0 0 z0 zT zK z0 x1).isSome = true := by
  have key : ∀ k, k < 64 → (fX4_rounds 0 0 z0 zT zK z0 (nI k + 1)).map Prod.fst = (fX5_rounds z0 z0 z0 (nI k + 1)).map Prod.fst ∧ (fX4_rounds 0 0 z0 zT zK z0 (nI k + 1)).isSome = true := by decide +kernel
  have el : (1 : Int32).toInt = 1 := by decide
  have eh : (64 : Int32).toInt = 64 := by decide
  by_cases h : 1 ≤ x1.toInt ∧ x1.toInt ≤ 64
  · obtain ⟨k, hk, e⟩ := i_ex (x := x1 - 1) (n := 64) (by decide) (by rw [i_sub (by rw [el]; omega) (by rw [el]; omega), el]; omega) (by rw [i_sub (by rw [el]; omega) (by rw [el]; omega), el]; omega)
    have e2 : x1 = nI k + 1 := by rw [← e]; exact (Int32.sub_add_cancel _ _).symm
    rw [e2]
    exact key k hk
  · unfold fX4_rounds fX5_rounds
    rw [in_32 x1 1 64 (by decide) (by decide), bR_some, ite_b2, if_neg h]
    by_cases h1 : x1.toInt < 1
    · have g1 : x1 < 1 := by rw [Int32.lt_iff_toInt_lt]; omega
      rw [if_pos g1]
      exact ⟨rfl, rfl⟩
    · have g1 : ¬ x1 < 1 := by rw [Int32.lt_iff_toInt_lt]; omega
      have g2 : 64 < x1 := by rw [Int32.lt_iff_toInt_lt]; omega
      have g3 : ¬ x1 ≤ 64 := by rw [Int32.le_iff_toInt_le]; omega
      first | rw [if_neg g1, if_pos g2] | rw [if_neg g1, if_neg g3]
      exact ⟨rfl, rfl⟩
theorem z_on (x1 : Int32) : (fX4_on 0 0 z0 zT zK z0 x1).map Prod.fst = (fX5_on z0 z0 z0 x1).map Prod.fst ∧ (fX4_on 0 0 z0 zT zK z0 x1).isSome = true := by
  have key : ∀ k, k < 65 → (fX4_on 0 0 z0 zT zK z0 (nI k + 0)).map Prod.fst = (fX5_on z0 z0 z0 (nI k + 0)).map Prod.fst ∧ (fX4_on 0 0 z0 zT zK z0 (nI k + 0)).isSome = true := by decide +kernel
  have el : (0 : Int32).toInt = 0 := by decide
  have eh : (64 : Int32).toInt = 64 := by decide
  by_cases h : 0 ≤ x1.toInt ∧ x1.toInt ≤ 64
  · obtain ⟨k, hk, e⟩ := i_ex (x := x1 - 0) (n := 65) (by decide) (by rw [i_sub (by rw [el]; omega) (by rw [el]; omega), el]; omega) (by rw [i_sub (by rw [el]; omega) (by rw [el]; omega), el]; omega)
    have e2 : x1 = nI k + 0 := by rw [← e]; exact (Int32.sub_add_cancel _ _).symm
    rw [e2]
    exact key k hk
  · unfold fX4_on fX5_on
    rw [in_32 x1 0 64 (by decide) (by decide), bR_some, ite_b2, if_neg h]
    by_cases h1 : x1.toInt < 0
    · have g1 : x1 < 0 := by rw [Int32.lt_iff_toInt_lt]; omega
      rw [if_pos g1]
      exact ⟨rfl, rfl⟩
    · have g1 : ¬ x1 < 0 := by rw [Int32.lt_iff_toInt_lt]; omega
      have g2 : 64 < x1 := by rw [Int32.lt_iff_toInt_lt]; omega
      have g3 : ¬ x1 ≤ 64 := by rw [Int32.le_iff_toInt_le]; omega
      first | rw [if_neg g1, if_pos g2] | rw [if_neg g1, if_neg g3]
      exact ⟨rfl, rfl⟩
theorem z_when : (fX4_when 0 0 z0 zT zK z0).map Prod.fst = (fX5_when z0 z0 z0 z0).map Prod.fst ∧ (fX4_when 0 0 z0 zT zK z0).isSome = true := by
  decide +kernel
theorem z_ring (x1 : Int32) : (fX4_ring 0 0 z0 zT zK z0 x1).map Prod.fst = (fX5_ring z0 z0 z0 z0 z0 x1).map Prod.fst ∧ (fX4_ring 0 0 z0 zT zK z0 x1).isSome = true := by
  have key : ∀ k, k < 2 → (fX4_ring 0 0 z0 zT zK z0 (nI k)).map Prod.fst = (fX5_ring z0 z0 z0 z0 z0 (nI k)).map Prod.fst ∧ (fX4_ring 0 0 z0 zT zK z0 (nI k)).isSome = true := by decide +kernel
  by_cases h : 0 ≤ x1.toInt ∧ x1.toInt ≤ 1
  · obtain ⟨k, hk, rfl⟩ := i_ex (x := x1) (n := 2) (by decide) (by omega) (by omega)
    exact key k hk
  · unfold fX4_ring fX5_ring
    rw [in_32 x1 0 1 (by decide) (by decide), bR_some, ite_b2, if_neg h, if_neg (fun e => h (by rw [e]; decide)), if_neg (fun e => h (by rw [e]; decide))]
    exact ⟨rfl, rfl⟩
theorem z_fewest : (fX4_fewest 0 0 z0 zT zK z0 z0 z0 z0).map Prod.fst = (fX5_fewest z0 z0 z0 z0).map Prod.fst ∧ (fX4_fewest 0 0 z0 zT zK z0 z0 z0 z0).isSome = true := by
  decide +kernel
theorem z_first : (fX4_first 0 0 z0 zT zK z0 z0 z0 z0).map Prod.fst = (fX5_first z0 z0 z0 z0).map Prod.fst ∧ (fX4_first 0 0 z0 zT zK z0 z0 z0 z0).isSome = true := by
  decide +kernel
theorem z_settled : (fX4_settled 0 z0 zT zK).map Prod.fst = (fX5_settled z0 z0 z0).map Prod.fst ∧ (fX4_settled 0 z0 zT zK).isSome = true := by
  decide +kernel
theorem z_ith (x1 : Int32) : (fX4_ith 0 z0 zT zK z0 x1).map Prod.fst = (fX5_ith z0 z0 z0 z0 x1).map Prod.fst ∧ (fX4_ith 0 z0 zT zK z0 x1).isSome = true := by
  unfold fX4_ith fX5_ith
  by_cases h : 0 ≤ x1
  · rw [if_pos h, if_pos h]
    obtain ⟨K, hK⟩ := x_fst (o := fX0_isSettled 0 z0 zT zK 0) (r := 1) (by decide +kernel)
    obtain ⟨k, hk, hk0⟩ := x_map (o := fX5_looksAll z0 z0 z0) (f := fun k => k.2 0) (r := 0) (by decide +kernel)
    have c : ll5 (fX4_ith_15 0 z0 zT) qF zK z0 x1 0 0 = if (0 : Int32) = x1 then some (0, (K, z0)) else some (-1000000004, (K, upd z0 3 (z0 3 + 1))) := by
      show fX4_ith_15 0 z0 zT (ll5 (fX4_ith_15 0 z0 zT) 1023) zK z0 x1 0 0 = _
      unfold fX4_ith_15
      rw [hK]
      rfl
    have d : ll5 (fX5_ith_19 z0) qF z0 k.1 k.2 x1 0 = if x1 = 0 then some (0, (z0, k.1, k.2)) else some (-1000000004, (upd z0 3 (z0 3 + 1), k.1, k.2)) := by
      show fX5_ith_19 z0 (ll5 (fX5_ith_19 z0) 1023) z0 k.1 k.2 x1 0 = _
      unfold fX5_ith_19
      show (if k.2 0 = 0 then _ else _) = _
      rw [if_pos hk0]
      rfl
    rw [hk, c]
    show _ = (ll5 (fX5_ith_19 z0) qF z0 k.1 k.2 x1 0).map Prod.fst ∧ _
    rw [d]
    by_cases e : x1 = 0
    · rw [if_pos e, if_pos e.symm]
      exact ⟨rfl, rfl⟩
    · rw [if_neg e, if_neg (fun q => e q.symm)]
      exact ⟨rfl, rfl⟩
  · rw [if_neg h, if_neg h]
    exact ⟨rfl, rfl⟩
theorem z_sure (x1 : Int32) : (fX4_sure 0 z0 zT zK z0 x1).map Prod.fst = (fX5_sure z0 z0 z0 z0 x1).map Prod.fst ∧ (fX4_sure 0 z0 zT zK z0 x1).isSome = true := by
  have key : ∀ k, k < 4 → (fX4_sure 0 z0 zT zK z0 (nI k + 0)).map Prod.fst = (fX5_sure z0 z0 z0 z0 (nI k + 0)).map Prod.fst ∧ (fX4_sure 0 z0 zT zK z0 (nI k + 0)).isSome = true := by decide +kernel
  have el : (0 : Int32).toInt = 0 := by decide
  have eh : (3 : Int32).toInt = 3 := by decide
  by_cases h : 0 ≤ x1.toInt ∧ x1.toInt ≤ 3
  · obtain ⟨k, hk, e⟩ := i_ex (x := x1 - 0) (n := 4) (by decide) (by rw [i_sub (by rw [el]; omega) (by rw [el]; omega), el]; omega) (by rw [i_sub (by rw [el]; omega) (by rw [el]; omega), el]; omega)
    have e2 : x1 = nI k + 0 := by rw [← e]; exact (Int32.sub_add_cancel _ _).symm
    rw [e2]
    exact key k hk
  · unfold fX4_sure fX5_sure
    rw [in_32 x1 0 3 (by decide) (by decide), bR_some, ite_b2, if_neg h]
    by_cases h1 : x1.toInt < 0
    · have g1 : x1 < 0 := by rw [Int32.lt_iff_toInt_lt]; omega
      rw [if_pos g1]
      exact ⟨rfl, rfl⟩
    · have g1 : ¬ x1 < 0 := by rw [Int32.lt_iff_toInt_lt]; omega
      have g2 : 3 < x1 := by rw [Int32.lt_iff_toInt_lt]; omega
      have g3 : ¬ x1 ≤ 3 := by rw [Int32.le_iff_toInt_le]; omega
      first | rw [if_neg g1, if_pos g2] | rw [if_neg g1, if_neg g3]
      exact ⟨rfl, rfl⟩
theorem z_basin : (fX4_basin 0 z0 zT zK).map Prod.fst = (fX5_basin z0 z0 z0 z0).map Prod.fst ∧ (fX4_basin 0 z0 zT zK).isSome = true := by
  decide +kernel
theorem z_odds (x1 : Int32) (x2 : Int32) : (fX4_odds 0 z0 zT zK z0 x1 x2).map Prod.fst = (fX5_odds z0 z0 z0 z0 z0 x1 x2).map Prod.fst ∧ (fX4_odds 0 z0 zT zK z0 x1 x2).isSome = true := by
  unfold fX4_odds fX5_odds
  rw [has_0, isG_0]
  exact ⟨rfl, rfl⟩
theorem z_last (x1 : Int32) : (fX4_last 0 z0 zT zK z0 x1).map Prod.fst = (fX5_last z0 z0 z0 z0 x1).map Prod.fst ∧ (fX4_last 0 z0 zT zK z0 x1).isSome = true := by
  have key : (fX4_last 0 z0 zT zK z0 0).map Prod.fst = (fX5_last z0 z0 z0 z0 0).map Prod.fst ∧ (fX4_last 0 z0 zT zK z0 0).isSome = true := by decide +kernel
  by_cases h : x1.toInt = 0
  · rw [i_zero h]
    exact key
  · unfold fX4_last fX5_last
    rw [isSet_0, isList_0, bR_some, bR_some, ite_b2, ite_b2, if_neg h, if_neg h]
    exact ⟨rfl, rfl⟩
theorem z_buys (x1 : Int32) : (fX4_buys 0 z0 z0 zT zK z0 x1).map Prod.fst = (fX5_buys z0 z0 z0 z0 x1).map Prod.fst ∧ (fX4_buys 0 z0 z0 zT zK z0 x1).isSome = true := by
  have key : ∀ k, k < 9 → (fX4_buys 0 z0 z0 zT zK z0 (nI k + 0)).map Prod.fst = (fX5_buys z0 z0 z0 z0 (nI k + 0)).map Prod.fst ∧ (fX4_buys 0 z0 z0 zT zK z0 (nI k + 0)).isSome = true := by decide +kernel
  have el : (0 : Int32).toInt = 0 := by decide
  have eh : (8 : Int32).toInt = 8 := by decide
  by_cases h : 0 ≤ x1.toInt ∧ x1.toInt ≤ 8
  · obtain ⟨k, hk, e⟩ := i_ex (x := x1 - 0) (n := 9) (by decide) (by rw [i_sub (by rw [el]; omega) (by rw [el]; omega), el]; omega) (by rw [i_sub (by rw [el]; omega) (by rw [el]; omega), el]; omega)
    have e2 : x1 = nI k + 0 := by rw [← e]; exact (Int32.sub_add_cancel _ _).symm
    rw [e2]
    exact key k hk
  · unfold fX4_buys fX5_buys
    rw [in_32 x1 0 8 (by decide) (by decide), bR_some, ite_b2, if_neg h]
    by_cases h1 : x1.toInt < 0
    · have g1 : x1 < 0 := by rw [Int32.lt_iff_toInt_lt]; omega
      rw [if_pos g1]
      exact ⟨rfl, rfl⟩
    · have g1 : ¬ x1 < 0 := by rw [Int32.lt_iff_toInt_lt]; omega
      have g2 : 8 < x1 := by rw [Int32.lt_iff_toInt_lt]; omega
      have g3 : ¬ x1 ≤ 8 := by rw [Int32.le_iff_toInt_le]; omega
      first | rw [if_neg g1, if_pos g2] | rw [if_neg g1, if_neg g3]
      exact ⟨rfl, rfl⟩
theorem z_price (x1 : Int32) : (fX4_price 0 z0 z0 zT zK z0 x1).map Prod.fst = (fX5_price z0 z0 z0 z0 x1).map Prod.fst ∧ (fX4_price 0 z0 z0 zT zK z0 x1).isSome = true := by
  have key : ∀ k, k < 9 → (fX4_price 0 z0 z0 zT zK z0 (nI k + 0)).map Prod.fst = (fX5_price z0 z0 z0 z0 (nI k + 0)).map Prod.fst ∧ (fX4_price 0 z0 z0 zT zK z0 (nI k + 0)).isSome = true := by decide +kernel
  have el : (0 : Int32).toInt = 0 := by decide
  have eh : (8 : Int32).toInt = 8 := by decide
  by_cases h : 0 ≤ x1.toInt ∧ x1.toInt ≤ 8
  · obtain ⟨k, hk, e⟩ := i_ex (x := x1 - 0) (n := 9) (by decide) (by rw [i_sub (by rw [el]; omega) (by rw [el]; omega), el]; omega) (by rw [i_sub (by rw [el]; omega) (by rw [el]; omega), el]; omega)
    have e2 : x1 = nI k + 0 := by rw [← e]; exact (Int32.sub_add_cancel _ _).symm
    rw [e2]
    exact key k hk
  · unfold fX4_price fX5_price
    rw [in_32 x1 0 8 (by decide) (by decide), bR_some, ite_b2, if_neg h]
    by_cases h1 : x1.toInt < 0
    · have g1 : x1 < 0 := by rw [Int32.lt_iff_toInt_lt]; omega
      rw [if_pos g1]
      exact ⟨rfl, rfl⟩
    · have g1 : ¬ x1 < 0 := by rw [Int32.lt_iff_toInt_lt]; omega
      have g2 : 8 < x1 := by rw [Int32.lt_iff_toInt_lt]; omega
      have g3 : ¬ x1 ≤ 8 := by rw [Int32.le_iff_toInt_le]; omega
      first | rw [if_neg g1, if_pos g2] | rw [if_neg g1, if_neg g3]
      exact ⟨rfl, rfl⟩
theorem z_spoils : (fX4_spoils 0 z0 zT zK z0).map Prod.fst = (fX5_spoils z0 z0 z0 z0).map Prod.fst ∧ (fX4_spoils 0 z0 zT zK z0).isSome = true := by
  decide +kernel
theorem z_invites (x1 : Int32) (x2 : Int32) : (fX4_invites 0 z0 zT zK z0 x1 x2).map Prod.fst = (fX5_invites z0 z0 z0 z0 x1 x2).map Prod.fst ∧ (fX4_invites 0 z0 zT zK z0 x1 x2).isSome = true := by
  have key : ∀ k, k < 9 → ∀ j, j < 9 → (fX4_invites 0 z0 zT zK z0 (nI k) (nI j)).map Prod.fst = (fX5_invites z0 z0 z0 z0 (nI k) (nI j)).map Prod.fst ∧ (fX4_invites 0 z0 zT zK z0 (nI k) (nI j)).isSome = true := by decide +kernel
  have e0 : (0 : Int32).toInt = 0 := by decide
  have e8 : (8 : Int32).toInt = 8 := by decide
  by_cases h : (0 ≤ x1.toInt ∧ x1.toInt ≤ 8) ∧ (0 ≤ x2.toInt ∧ x2.toInt ≤ 8)
  · obtain ⟨k, hk, rfl⟩ := i_ex (x := x1) (n := 9) (by decide) (by omega) (by omega)
    obtain ⟨j, hj, rfl⟩ := i_ex (x := x2) (n := 9) (by decide) (by omega) (by omega)
    exact key k hk j hj
  · have hm : fX5_invites z0 z0 z0 z0 x1 x2 = fX5_invites_29 z0 z0 z0 z0 := by
      unfold fX5_invites
      rw [in_32 x1 0 8 (by decide) (by decide), in_32 x2 0 8 (by decide) (by decide), bR_some, bR_some, ite_b2, ite_b2]
      by_cases c : 0 ≤ x1.toInt ∧ x1.toInt ≤ 8
      · rw [if_pos c, if_neg (fun q => h ⟨c, q⟩)]
      · rw [if_neg c]
    have hc : fX4_invites 0 z0 zT zK z0 x1 x2 = fX4_invites_15 0 z0 zT zK z0 := by
      unfold fX4_invites
      by_cases c1 : x1 < 0
      · rw [if_pos c1]
      rw [if_neg c1]
      by_cases c2 : 8 < x2
      · rw [if_pos c2]
      rw [if_neg c2, if_neg]
      rw [Int32.lt_iff_toInt_lt] at c1 c2
      rw [Int32.le_iff_toInt_le]
      omega
    rw [hm, hc]
    exact ⟨rfl, rfl⟩
theorem z_against (x1 : Int32) (x2 : Int32) : (fX4_against 0 z0 zT zK z0 x1 x2).map Prod.fst = (fX5_against z0 z0 z0 z0 x1 x2).map Prod.fst ∧ (fX4_against 0 z0 zT zK z0 x1 x2).isSome = true := by
  unfold fX4_against fX5_against
  rw [has_0, isG_0]
  exact ⟨rfl, rfl⟩
theorem z_minds (x1 : Int32) : (fX4_minds 0 z0 zT zK z0 x1).map Prod.fst = (fX5_minds z0 z0 z0 z0 x1).map Prod.fst ∧ (fX4_minds 0 z0 zT zK z0 x1).isSome = true := by
  unfold fX4_minds fX5_minds
  rw [has_0, isG_0]
  exact ⟨rfl, rfl⟩
theorem z_kind (x1 : Int32) : (fX4_kind 0 z0 zT zK z0 x1).map Prod.fst = (fX5_kind z0 z0 z0 z0 x1).map Prod.fst ∧ (fX4_kind 0 z0 zT zK z0 x1).isSome = true := by
  unfold fX4_kind fX5_kind
  rw [has_0, isG_0]
  exact ⟨rfl, rfl⟩
theorem z_sheet (x1 : Int32) (x2 : Int32) (x3 : Int32) : (fX4_sheet 0 0 zL 0 0 zL 0 0 zL 0 0 zL z0 x1 x2 x3).map Prod.fst = (fX5_sheet z0 z0 z0 zL x1 x2 x3).map Prod.fst ∧ (fX4_sheet 0 0 zL 0 0 zL 0 0 zL 0 0 zL z0 x1 x2 x3).isSome = true := by
  unfold fX4_sheet fX5_sheet
  rw [isSheet_b2, isOne_b2, bR_some, bR_some, ite_b2, ite_b2]
  by_cases h : 0 ≤ x1.toInt ∧ x1.toInt ≤ 3
  · rw [if_pos h, if_pos h]
    by_cases c0 : x2 = 0
    · rw [if_pos c0, if_pos c0]; exact z_sheet36 h
    rw [if_neg c0, if_neg c0]
    by_cases c0 : x2 = 8
    · rw [if_pos c0, if_pos c0]; exact z_sheet36 h
    rw [if_neg c0, if_neg c0]
    by_cases c0 : x2 = 16
    · rw [if_pos c0, if_pos c0]; exact z_sheet36 h
    rw [if_neg c0, if_neg c0]
    by_cases c0 : x2 = 64
    · rw [if_pos c0, if_pos c0]; exact z_sheet36 h
    rw [if_neg c0, if_neg c0]
    exact ⟨rfl, rfl⟩
  · rw [if_neg h, if_neg h]
    exact ⟨rfl, rfl⟩
theorem z_write (x1 : Int32) (x2 : Int32) (x3 : Int64) : (fX4_write 0 0 zL 0 0 zL 0 0 zL 0 0 zL z0 x1 x2 x3).map Prod.fst = (fX5_write z0 z0 z0 zL x1 x2 x3).map Prod.fst ∧ (fX4_write 0 0 zL 0 0 zL 0 0 zL 0 0 zL z0 x1 x2 x3).isSome = true := by
  unfold fX4_write fX5_write
  by_cases h : 0 ≤ x1.toInt ∧ x1.toInt ≤ 3
  · rw [lack_t h, wrong_t h, bR_some, bR_some, if_neg (by decide), if_neg (by decide), fnd_6, fns_6]
    exact ⟨rfl, rfl⟩
  · rw [lack_f h, wrong_f h, bR_some, bR_some, if_neg (by decide), if_neg (by decide), fnd_1, fns_1]
    exact ⟨rfl, rfl⟩
theorem z_copy (x1 : Int32) (x2 : Int32) (x3 : Int32) (x4 : Int32) (x5 : Int32) : (fX4_copy 0 0 zL 0 0 zL 0 0 zL 0 0 zL z0 x1 x2 x3 x4 x5).map Prod.fst = (fX5_copy z0 z0 z0 zL zL x1 x2 x3 x4 x5).map Prod.fst ∧ (fX4_copy 0 0 zL 0 0 zL 0 0 zL 0 0 zL z0 x1 x2 x3 x4 x5).isSome = true := by
  unfold fX4_copy fX5_copy
  rw [isSheet_b2, isSheet_b2, isOne_b2, isOne_b2, bR_some, bR_some, bR_some, bR_some, ite_b2, ite_b2, ite_b2, ite_b2]
  by_cases h : 0 ≤ x1.toInt ∧ x1.toInt ≤ 3
  · rw [if_pos h, if_pos h]
    by_cases h3 : 0 ≤ x3.toInt ∧ x3.toInt ≤ 3
    · rw [if_pos h3, if_pos h3]
      obtain ⟨k, hk, rfl⟩ := i_ex (x := x1) (n := 4) (by decide) h.1 (by omega)
      match k, hk with
      | 0, _ => exact ⟨rfl, rfl⟩
      | 1, _ => exact ⟨rfl, rfl⟩
      | 2, _ => exact ⟨rfl, rfl⟩
      | 3, _ => exact ⟨rfl, rfl⟩
      | k + 4, h => exact absurd h (by omega)
    · rw [if_neg h3, if_neg h3]
      exact ⟨rfl, rfl⟩
  · rw [if_neg h, if_neg h]
    exact ⟨rfl, rfl⟩
theorem z_lays (x1 : Int32) : (fX4_lays 0 0 0 0 zL 0 0 zL 0 0 zL 0 0 zL z0 x1).map Prod.fst = (fX5_lays z0 z0 z0 z0 zL x1).map Prod.fst ∧ (fX4_lays 0 0 0 0 zL 0 0 zL 0 0 zL 0 0 zL z0 x1).isSome = true := by
  unfold fX4_lays fX5_lays
  by_cases h : 0 ≤ x1.toInt ∧ x1.toInt ≤ 3
  · rw [lack_t h, wrong_t h, bR_some, bR_some, if_neg (by decide), if_neg (by decide), fnd_6, fns_6]
    exact ⟨rfl, rfl⟩
  · rw [lack_f h, wrong_f h, bR_some, bR_some, if_neg (by decide), if_neg (by decide), fnd_1, fns_1]
    exact ⟨rfl, rfl⟩
theorem z_book (x1 : Int32) : (fX4_book 0 0 z0 zT zK 0 0 zL 0 0 zL 0 0 zL 0 0 zL z0 x1).map Prod.fst = (fX5_book z0 z0 z0 z0 z0 zL x1).map Prod.fst ∧ (fX4_book 0 0 z0 zT zK 0 0 zL 0 0 zL 0 0 zL 0 0 zL z0 x1).isSome = true := by
  unfold fX4_book fX5_book
  by_cases h : 0 ≤ x1.toInt ∧ x1.toInt ≤ 3
  · rw [lack_t h, wrong_t h, bR_some, bR_some, if_neg (by decide), if_neg (by decide), fnd_6, fns_6]
    exact ⟨rfl, rfl⟩
  · rw [lack_f h, wrong_f h, bR_some, bR_some, if_neg (by decide), if_neg (by decide), fnd_1, fns_1]
    exact ⟨rfl, rfl⟩
theorem z_read (x1 : Int32) : (fX4_read 0 z0 zT zK 0 0 zL 0 0 zL 0 0 zL 0 0 zL z0 x1).map Prod.fst = (fX5_read z0 z0 z0 z0 z0 zL x1).map Prod.fst ∧ (fX4_read 0 z0 zT zK 0 0 zL 0 0 zL 0 0 zL 0 0 zL z0 x1).isSome = true := by
  unfold fX4_read fX5_read
  by_cases h : 0 ≤ x1.toInt ∧ x1.toInt ≤ 3
  · rw [lack_t h, wrong_t h, bR_some, bR_some, if_neg (by decide), if_neg (by decide), fnd_6, fns_6]
    exact ⟨rfl, rfl⟩
  · rw [lack_f h, wrong_f h, bR_some, bR_some, if_neg (by decide), if_neg (by decide), fnd_1, fns_1]
    exact ⟨rfl, rfl⟩
theorem z_image : (fX4_image 0 0 0 0 z0 z0 zT 0 0 0 z0 z0 zT zK).map Prod.fst = (fX5_image 0 z0 z0).map Prod.fst ∧ (fX4_image 0 0 0 0 z0 z0 zT 0 0 0 z0 z0 zT zK).isSome = true := by
  decide +kernel
theorem z_undo : (fX4_undo 0 0 0 0 z0 z0 zT zK 0 0 0 z0 z0 zT z0).map Prod.fst = (fX5_undo 0 z0 z0 z0).map Prod.fst ∧ (fX4_undo 0 0 0 0 z0 z0 zT zK 0 0 0 z0 z0 zT z0).isSome = true := by
  decide +kernel
theorem z_tear : (fX4_tear 0).map Prod.fst = (fX5_tear 0).map Prod.fst ∧ (fX4_tear 0).isSome = true := by
  decide +kernel
theorem z_count (x1 : Int32) : (fX4_count 0 0 z0 0 z0 x1).map Prod.fst = (fX5_count 0 z0 z0 x1).map Prod.fst ∧ (fX4_count 0 0 z0 0 z0 x1).isSome = true := by
  have key : ∀ k, k < 4 → (fX4_count 0 0 z0 0 z0 (nI k)).map Prod.fst = (fX5_count 0 z0 z0 (nI k)).map Prod.fst ∧ (fX4_count 0 0 z0 0 z0 (nI k)).isSome = true := by decide +kernel
  by_cases h : x1.toInt < 0 ∨ 3 < x1.toInt
  · have e : fX5_count 0 z0 z0 x1 = bR (fX5_finds z0 (-1000000001)) (fun r k => some (r, k)) := by
      show fX5_count_4 0 z0 (ll4 (fX5_count_4 0 z0) 1023) z0 x1 0 0 = _
      unfold fX5_count_4
      rw [if_pos (by decide), if_pos h]
    rw [e]
    unfold fX4_count
    rw [if_pos h]
    exact ⟨rfl, rfl⟩
  · obtain ⟨k, hk, rfl⟩ := i_ex (x := x1) (n := 4) (by decide) (by omega) (by omega)
    exact key k hk
theorem z_status (x1 : Int32) : (fX4_status z0 x1).map Prod.fst = (fX5_status z0 x1).map Prod.fst ∧ (fX4_status z0 x1).isSome = true := by
  have key : ∀ k, k < 8 → (fX4_status z0 (nI k + (-1))).map Prod.fst = (fX5_status z0 (nI k + (-1))).map Prod.fst ∧ (fX4_status z0 (nI k + (-1))).isSome = true := by decide +kernel
  have el : ((-1) : Int32).toInt = -1 := by decide
  have eh : (7 : Int32).toInt = 7 := by decide
  by_cases h : -1 ≤ x1.toInt ∧ x1.toInt ≤ 6
  · obtain ⟨k, hk, e⟩ := i_ex (x := x1 - (-1)) (n := 8) (by decide) (by rw [i_sub (by rw [el]; omega) (by rw [el]; omega), el]; omega) (by rw [i_sub (by rw [el]; omega) (by rw [el]; omega), el]; omega)
    have e2 : x1 = nI k + (-1) := by rw [← e]; exact (Int32.sub_add_cancel _ _).symm
    rw [e2]
    exact key k hk
  · unfold fX4_status fX5_status
    rw [in_32 x1 (-1) 6 (by decide) (by decide), bR_some, ite_b2, if_neg h]
    by_cases h1 : x1 < -1
    · rw [if_pos h1]
      exact ⟨rfl, rfl⟩
    · rw [if_neg h1, if_neg (by rw [Int32.lt_iff_toInt_lt] at h1 ⊢; omega)]
      exact ⟨rfl, rfl⟩
