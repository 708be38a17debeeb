section
/-! a term read: the class's words beside the reference's steps -/
/-- by list l, out of four words -/
def LV (V : Nat → Int64) (l : Nat) : Bool := (V (l / 64)).toBitVec.getLsbD (l % 64)
/-- the byte to be read next -/
def pk (t : Nat) (B : Nat → Nat) (k : Nat) : Int32 := if k < t then nI (B k) else -1
section PARSE
variable {t g : Nat} {B : Nat → Nat} {by_ ta : Nat → Int32}
/-- bytes of both -/
def RB (t : Nat) (B : Nat → Nat) (by_ ta : Nat → Int32) : Prop := t ≤ 60 ∧ ∀ j, j < t → B j < 256 ∧ by_ j = nI (B j) ∧ ta j = nI (B j)
theorem sign_nf (H : RB t B by_ ta) {k : Nat} (hk : k ≤ t) : fX2_sign (nI t) (nI k) (-1) by_ = some (pk t B k, ()) := by
  have ht := H.1
  unfold fX2_sign pk
  rw [if_pos rfl, ite_le (by omega) (by omega)]
  by_cases c : t ≤ k
  · rw [if_pos c, if_neg (by omega)]
  · rw [if_neg c, gIn_nI (by omega) (by decide), nI_clamp (by omega), if_pos (by omega), (H.2 k (by omega)).2.1]
theorem look_nf (H : RB t B by_ ta) {k : Nat} (hk : k ≤ t) : fX5_look (nI t) (nI k) ta = some (pk t B k, ()) := by
  have ht := H.1
  unfold fX5_look pk
  rw [ite_le (by omega) (by omega)]
  by_cases c : t ≤ k
  · rw [if_pos c, if_neg (by omega)]
  · rw [if_neg c, gIn_nI (by omega) (by decide), nI_clamp (by omega), if_pos (by omega), (H.2 k (by omega)).2.2]
theorem pk_less {k c : Nat} (hc : c < 2 ^ 31) (h : pk t B k = nI c) : k < t := by
  unfold pk at h
  by_cases d : k < t
  · exact d
  · rw [if_neg d] at h; exact absurd h.symm (nI_m1 hc)
theorem nI_z (k : Nat) : nI k + 0 = nI k := by simp
theorem passes_t (H : RB t B by_ ta) {k : Nat} {c : Int32} (hk : k ≤ t) (h : pk t B k = c) : fX2_passes (nI t) (nI k) (-1) by_ c = some (1, nI (k + 1)) := by
  unfold fX2_passes fX2_passes_13
  rw [sign_nf H hk, bR_some, if_pos h, oneIf_1, bR_some, nm_of, nI_1]
  rfl
theorem passes_f (H : RB t B by_ ta) {k : Nat} {c : Int32} (hk : k ≤ t) (h : ¬ pk t B k = c) : fX2_passes (nI t) (nI k) (-1) by_ c = some (0, nI k) := by
  unfold fX2_passes fX2_passes_13
  rw [sign_nf H hk, bR_some, if_neg h, oneIf_0, bR_some, nm_of, nI_z]
  rfl
theorem passes_x {p f c : Int32} (hf : ¬ f = -1) (hc : ¬ (-1 : Int32) = c) : fX2_passes (nI t) p f by_ c = some (0, p + 0) := by
  unfold fX2_passes fX2_passes_13 fX2_sign
  rw [if_neg hf, bR_some, if_neg hc, oneIf_0, bR_some, nm_of]
  rfl
theorem fail_nf (p : Int32) : fX2_fail p (-1) = some (0, p) := by unfold fX2_fail; rw [if_pos rfl]
theorem fail_x {p f : Int32} (hf : ¬ f = -1) : fX2_fail p f = some (0, f) := by unfold fX2_fail; rw [if_neg hf]
theorem faulty_nf (a : Int32) : fX5_faulty a (-1) = some a := by unfold fX5_faulty fX5_faulty_19; rw [if_neg (by decide)]
theorem faulty_x {a : Int32} {q : Nat} (hq : q < 2 ^ 31) : fX5_faulty a (nI q) = some (nI q) := by unfold fX5_faulty fX5_faulty_19; rw [if_pos (nI_0le hq)]
/-- steps and words so far go with each other -/
def Good (g t k m : Nat) (st : Nat → Int32) (k' m' : Nat) (st' : Nat → Int32) (V : Nat → Int64) (cs : Nat → Nat) : Prop :=
  k < k' ∧ k' ≤ t ∧ m < m' ∧ m' + k ≤ m + k' ∧ (∀ j, j < m → st' j = st j) ∧ (∀ j, m ≤ j → j < m' → cs j < 143 ∧ st' j = nI (cs j)) ∧ ∀ l, l < 256 → Seg (pop (clr l g)) l cs m (m' - m) (LV V l)
/-- it is read well -/
def NFp (g t o k m : Nat) (st : Nat → Int32) (oC : Nat → Option (Int64 × Int32 × Int32)) (oM : Option (Int32 × Int32 × Int32 × Int32 × (Nat → Int32))) : Prop :=
  ∃ (k' m' : Nat) (st' : Nat → Int32) (V : Nat → Int64) (cs : Nat → Nat), oM = some (nI k', -1, nI m', nI o, st') ∧ (∀ w, w < 4 → oC w = some (V w, (nI k', -1))) ∧ Good g t k m st k' m' st' V cs
/-- a fault at q -/
def FAp (t o k m : Nat) (oC : Nat → Option (Int64 × Int32 × Int32)) (oM : Option (Int32 × Int32 × Int32 × Int32 × (Nat → Int32))) : Prop :=
  ∃ (a' : Int32) (q m' : Nat) (st' : Nat → Int32), oM = some (a', nI q, nI m', nI o, st') ∧ (∀ w, w < 4 → ∃ v p, oC w = some (v, (p, nI q))) ∧ k ≤ q ∧ q ≤ t ∧ m ≤ m' ∧ m' + k ≤ m + q
/-- the word of those lists on which one is -/
def lw (c w : Nat) : Int64 := if 6 ≤ c then (if w.testBit (c - 6) then -1 else 0) else q_tb c
theorem lw_bit : ∀ c, c < 8 → ∀ l, l < 256 → LV (lw c) l = l.testBit c := by decide +kernel
theorem listsWith_eq : ∀ c, c < 8 → ∀ w, w < 4 → fX2_listsWith (nI w) (nI c) = some (lw c w, ()) := by decide +kernel
/-- whether so many others go with a sign and a digit -/
def cmpB (sg d o : Nat) : Bool := if sg = 60 then decide (o < d) else if sg = 61 then decide (o = d) else decide (d < o)
theorem one_bit : ∀ i, i < 64 → (jlshl 1 (nI i)).toBitVec = BitVec.twoPow 64 i := by decide +kernel
theorem lwo_loop {w sg d : Nat} (hg : g < 8) (hw : w < 4) (hs : sg = 60 ∨ sg = 61 ∨ sg = 62) (hd : d < 10) : ∀ (f i : Nat) (y : Int64), i ≤ 64 → 64 - i < f → (∀ j, j < 64 → y.toBitVec.getLsbD j = (decide (j < i) && cmpB sg d (pop (clr (64 * w + j) g)))) → ∃ y', ll4 (fX2_listsWhereOthers_5 (nI g) (nI w)) f (nI sg) (nI d) y (nI i) = some (y', ()) ∧ ∀ j, j < 64 → y'.toBitVec.getLsbD j = cmpB sg d (pop (clr (64 * w + j) g)) := by
  intro f
  induction f with
  | zero => intro i y _ h; exact absurd h (by omega)
  | succ f ih =>
    intro i y hi hf hy
    have ih := ih (i + 1)
    show ∃ y', fX2_listsWhereOthers_5 (nI g) (nI w) (ll4 (fX2_listsWhereOthers_5 (nI g) (nI w)) f) (nI sg) (nI d) y (nI i) = some (y', ()) ∧ _
    generalize ll4 (fX2_listsWhereOthers_5 (nI g) (nI w)) f = ag at ih ⊢
    unfold fX2_listsWhereOthers_5
    rw [show (if (64 : Int32) ≤ nI i then some (y, ()) else _) = (if 64 ≤ i then some (y, ()) else _) from ite_le (a := 64) (by decide) (by omega) _ _]
    by_cases c : 64 ≤ i
    · rw [if_pos c]
      refine ⟨y, rfl, fun j hj => ?_⟩
      rw [hy j hj, decide_eq_true (by omega), Bool.true_and]
    · have e : nI w * 64 + nI i = nI (64 * w + i) := by rw [fa_lit 64, nI_mulL, nI_add, Nat.mul_comm]
      have hp := pop_le (clr (64 * w + i) g)
      rw [if_neg c, nm_of, e, clr_i (by omega) hg, pop_i _ (clr_lt (by omega)), bR_some]
      have e91t : fX2_listsWhereOthers_91 (nI g) (nI w) ag 1 (nI sg) (nI d) y (nI i) = ag (nI sg) (nI d) (y ||| jlshl 1 (nI i)) (nI (i + 1)) := by
        unfold fX2_listsWhereOthers_91 fX2_listsWhereOthers_107
        rw [if_neg one_ne, nm_of, nm_of, nI_1]
      have e91f : fX2_listsWhereOthers_91 (nI g) (nI w) ag 0 (nI sg) (nI d) y (nI i) = ag (nI sg) (nI d) (y ||| 0) (nI (i + 1)) := by
        unfold fX2_listsWhereOthers_91 fX2_listsWhereOthers_107
        rw [if_pos rfl, nm_of, nm_of, nI_1]
      have key : ∀ b : Bool, cmpB sg d (pop (clr (64 * w + i) g)) = b → ∃ y', (if b then ag (nI sg) (nI d) (y ||| jlshl 1 (nI i)) (nI (i + 1)) else ag (nI sg) (nI d) (y ||| 0) (nI (i + 1))) = some (y', ()) ∧ ∀ j, j < 64 → y'.toBitVec.getLsbD j = cmpB sg d (pop (clr (64 * w + j) g)) := by
        intro b hb
        cases b with
        | true =>
          refine ih _ (by omega) (by omega) (fun j hj => ?_)
          rw [Int64.toBitVec_or, one_bit i (by omega), BitVec.getLsbD_or, hy j hj, BitVec.getLsbD_twoPow]
          by_cases z : j = i
          · subst z; rw [hb]; simp; omega
          · by_cases z2 : j < i
            · rw [decide_eq_true z2, decide_eq_true (show j < i + 1 by omega)]
              simp
              intro q; omega
            · rw [decide_eq_false z2, decide_eq_false (show ¬ j < i + 1 by omega)]
              simp
              omega
        | false =>
          refine ih _ (by omega) (by omega) (fun j hj => ?_)
          rw [Int64.toBitVec_or, show (0 : Int64).toBitVec = 0#64 from rfl, BitVec.or_zero, hy j hj]
          by_cases z : j = i
          · subst z; rw [hb]; simp
          · by_cases z2 : j < i
            · rw [decide_eq_true z2, decide_eq_true (show j < i + 1 by omega)]
            · rw [decide_eq_false z2, decide_eq_false (show ¬ j < i + 1 by omega)]
      rw [e91t, e91f]
      have k := key _ rfl
      unfold cmpB at k
      rcases hs with rfl | rfl | rfl
      · rw [if_pos (show 60 = 60 from rfl)] at k
        rw [if_pos (show nI 60 = 60 from rfl), ite_le (by omega) (by omega)]
        by_cases z : d ≤ pop (clr (64 * w + i) g)
        · rw [if_pos z]
          rw [decide_eq_false (by omega)] at k
          exact k
        · rw [if_neg z]
          rw [decide_eq_true (by omega)] at k
          exact k
      · rw [if_neg (show ¬ 61 = 60 by decide), if_pos (show 61 = 61 from rfl)] at k
        rw [if_neg (show ¬ nI 61 = 60 by decide), if_pos (show nI 61 = 61 from rfl), ite_eqN (by omega) (by omega)]
        by_cases z : pop (clr (64 * w + i) g) = d
        · rw [if_pos z]
          rw [decide_eq_true z] at k
          exact k
        · rw [if_neg z]
          rw [decide_eq_false z] at k
          exact k
      · rw [if_neg (show ¬ 62 = 60 by decide), if_neg (show ¬ 62 = 61 by decide)] at k
        rw [if_neg (show ¬ nI 62 = 60 by decide), if_neg (show ¬ nI 62 = 61 by decide), ite_le (by omega) (by omega)]
        by_cases z : pop (clr (64 * w + i) g) ≤ d
        · rw [if_pos z]
          rw [decide_eq_false (by omega)] at k
          exact k
        · rw [if_neg z]
          rw [decide_eq_true (by omega)] at k
          exact k
theorem lwo_ex {sg d : Nat} (hg : g < 8) (hs : sg = 60 ∨ sg = 61 ∨ sg = 62) (hd : d < 10) : ∃ V : Nat → Int64, (∀ w, w < 4 → fX2_listsWhereOthers (nI g) (nI w) (nI sg) (nI d) = some (V w, ())) ∧ ∀ l, l < 256 → LV V l = cmpB sg d (pop (clr l g)) := by
  have h : ∀ w, ∃ v : Int64, w < 4 → fX2_listsWhereOthers (nI g) (nI w) (nI sg) (nI d) = some (v, ()) ∧ ∀ j, j < 64 → v.toBitVec.getLsbD j = cmpB sg d (pop (clr (64 * w + j) g)) := by
    intro w
    by_cases hw : w < 4
    · obtain ⟨v, e, hv⟩ := lwo_loop (g := g) hg hw hs hd 1024 0 0 (by omega) (by omega) (fun j hj => by simp)
      exact ⟨v, fun _ => ⟨e, hv⟩⟩
    · exact ⟨0, fun q => absurd q hw⟩
  refine ⟨fun w => (h w).choose, fun w hw => ((h w).choose_spec hw).1, fun l hl => ?_⟩
  have := ((h (l / 64)).choose_spec (by omega)).2 (l % 64) (Nat.mod_lt _ (by decide))
  unfold LV
  rw [this, show 64 * (l / 64) + l % 64 = l from Nat.div_add_mod l 64]
end PARSE
end
section
section PARSE2
variable {t g : Nat} {B : Nat → Nat} {by_ ta : Nat → Int32}
abbrev TC : Type := Int32 → Int32 → Int32 → Int32 → Int32 → (Nat → Int32) → Int32 → Option (Int64 × Int32 × Int32)
abbrev TM : Type := Int32 → Int32 → Int32 → Int32 → Int32 → (Nat → Int32) → (Nat → Int32) → Option (Int32 × Int32 × Int32 × Int32 × (Nat → Int32))
def SP (g t : Nat) (by_ ta : Nat → Int32) (o : Nat) (fC : TC) (fM : TM) : Prop := ∀ (k m : Nat) (st : Nat → Int32), m ≤ k → k ≤ t → NFp g t o k m st (fun w => fC (nI t) (nI k) (-1) (nI g) (nI w) by_ (nI o)) (fM (nI t) (nI k) (-1) (nI m) (nI o) ta st) ∨ FAp t o k m (fun w => fC (nI t) (nI k) (-1) (nI g) (nI w) by_ (nI o)) (fM (nI t) (nI k) (-1) (nI m) (nI o) ta st)
theorem LV_and (V W : Nat → Int64) (l : Nat) : LV (fun w => V w &&& W w) l = (LV V l && LV W l) := by
  unfold LV
  rw [Int64.toBitVec_and, BitVec.getLsbD_and]
theorem LV_or (V W : Nat → Int64) (l : Nat) : LV (fun w => V w ||| W w) l = (LV V l || LV W l) := by
  unfold LV
  rw [Int64.toBitVec_or, BitVec.getLsbD_or]
theorem LV_not (V : Nat → Int64) (l : Nat) : LV (fun w => V w ^^^ (-1)) l = !LV V l := by
  unfold LV
  rw [Int64.toBitVec_xor, BitVec.getLsbD_xor, (by decide +kernel : ∀ i, i < 64 → (-1 : Int64).toBitVec.getLsbD i = true) (l % 64) (Nat.mod_lt _ (by decide)), Bool.xor_true]
theorem Good.bin {k0 m0 k m k2 m2 c : Nat} {st0 st st2 : Nat → Int32} {V V2 V3 : Nat → Int64} {cs cs2 : Nat → Nat} (h : Good g t k0 m0 st0 k m st V cs) (h2 : Good g t (k + 1) m st k2 m2 st2 V2 cs2) (hc : c = 141 ∨ c = 142) (hV : ∀ l, LV V3 l = if c = 141 then LV V l && LV V2 l else LV V l || LV V2 l) : Good g t k0 m0 st0 k2 (m2 + 1) (upd st2 m2 (nI c)) V3 (fun j => if j < m then cs j else if j < m2 then cs2 j else c) := by
  obtain ⟨a1, a2, a3, a4, a5, a6, a7⟩ := h
  obtain ⟨b1, b2, b3, b4, b5, b6, b7⟩ := h2
  refine ⟨by omega, b2, by omega, by omega, fun j hj => ?_, fun j h1 h2 => ?_, fun l hl => ?_⟩
  · rw [pk_un (by omega), b5 j (by omega), a5 j hj]
  · show (if j < m then cs j else if j < m2 then cs2 j else c) < 143 ∧ _ = nI (if j < m then cs j else if j < m2 then cs2 j else c)
    by_cases d : j < m
    · rw [if_pos d, pk_un (by omega), b5 j d]; exact a6 j h1 d
    · rw [if_neg d]
      by_cases e : j < m2
      · rw [if_pos e, pk_un (by omega)]; exact b6 j (by omega) e
      · have e2 : j = m2 := by omega
        rw [if_neg e, e2, pk_us]; exact ⟨by omega, rfl⟩
  · have s1 := (a7 l hl).congr (ds := fun j => if j < m then cs j else if j < m2 then cs2 j else c) (fun j h1 h2 => if_pos (by omega))
    have s2 := (b7 l hl).congr (ds := fun j => if j < m then cs j else if j < m2 then cs2 j else c) (fun j h1 h2 => by
      show (if j < m then cs j else if j < m2 then cs2 j else c) = cs2 j
      rw [if_neg (by omega), if_pos (by omega)])
    have e : m0 + (m - m0) = m := by omega
    have s2 : Seg (pop (clr l g)) l (fun j => if j < m then cs j else if j < m2 then cs2 j else c) (m0 + (m - m0)) (m2 - m) (LV V2 l) := by rw [e]; exact s2
    have s3 := s1.bin s2 (c := c) (by
      show (if m0 + (m - m0) + (m2 - m) < m then _ else if m0 + (m - m0) + (m2 - m) < m2 then _ else c) = c
      rw [if_neg (by omega), if_neg (by omega)]) (by omega)
    rw [show m2 + 1 - m0 = m - m0 + (m2 - m) + 1 by omega, hV l]
    exact s3
theorem every_loop (H : RB t B by_ ta) {o : Nat} {gU : TC} {gM : TM} (hU : SP g t by_ ta o gU gM) {k0 m0 : Nat} {st0 : Nat → Int32} (h0 : m0 ≤ k0) : ∀ (f c k m : Nat) (st : Nat → Int32) (V : Nat → Int64) (cs : Nat → Nat), Good g t k0 m0 st0 k m st V cs → c < k → t - k + 1 < f → NFp g t o k0 m0 st0 (fun w => ll5 (fX2_allOf_9 gU (nI t) (nI g) (nI w) by_) f (nI k) (-1) (nI o) (V w) (nI c)) (ll5 (fX5_every_4 gM (nI t) ta) f (nI k) (-1) (nI m) (nI o) st) ∨ FAp t o k0 m0 (fun w => ll5 (fX2_allOf_9 gU (nI t) (nI g) (nI w) by_) f (nI k) (-1) (nI o) (V w) (nI c)) (ll5 (fX5_every_4 gM (nI t) ta) f (nI k) (-1) (nI m) (nI o) st) := by
  intro f
  have ht := H.1
  induction f with
  | zero => intro c k m st V cs _ _ h; exact absurd h (by omega)
  | succ f ih =>
    intro c k m st V cs G hc hf
    have ih := ih (c + 1)
    obtain ⟨f', rfl⟩ : ∃ f', f = f' + 1 := ⟨f - 1, by omega⟩
    have hx : ∀ w (p q : Int32) (y : Int64) (n : Int32), ¬ q = -1 → ∃ v p', ll5 (fX2_allOf_9 gU (nI t) (nI g) (nI w) by_) (f' + 1) p q (nI o) y n = some (v, (p', q)) := by
      intro w p q y n hq
      show ∃ v p', fX2_allOf_9 gU (nI t) (nI g) (nI w) by_ (ll5 (fX2_allOf_9 gU (nI t) (nI g) (nI w) by_) f') p q (nI o) y n = some (v, (p', q))
      unfold fX2_allOf_9
      by_cases c : (60 : Int32) ≤ n
      · rw [if_pos c]; exact ⟨_, _, rfl⟩
      · rw [if_neg c, passes_x hq (by decide), bR_some, if_pos rfl]; exact ⟨_, _, rfl⟩
    have hxM : ∀ (a : Int32) (q : Nat) (x y : Int32) (z : Nat → Int32), q < 2 ^ 31 → ll5 (fX5_every_4 gM (nI t) ta) (f' + 1) a (nI q) x y z = some (a, nI q, x, y, z) := by
      intro a q x y z hq
      show fX5_every_4 gM (nI t) ta (ll5 (fX5_every_4 gM (nI t) ta) f') a (nI q) x y z = _
      unfold fX5_every_4
      rw [if_pos (nI_0le hq)]
    have eC : ∀ w, ll5 (fX2_allOf_9 gU (nI t) (nI g) (nI w) by_) (f' + 1 + 1) (nI k) (-1) (nI o) (V w) (nI c) = fX2_allOf_9 gU (nI t) (nI g) (nI w) by_ (ll5 (fX2_allOf_9 gU (nI t) (nI g) (nI w) by_) (f' + 1)) (nI k) (-1) (nI o) (V w) (nI c) := fun w => rfl
    have eM : ll5 (fX5_every_4 gM (nI t) ta) (f' + 1 + 1) (nI k) (-1) (nI m) (nI o) st = fX5_every_4 gM (nI t) ta (ll5 (fX5_every_4 gM (nI t) ta) (f' + 1)) (nI k) (-1) (nI m) (nI o) st := rfl
    obtain ⟨a1, a2, a3, a4, a5⟩ := id G
    rw [eM]
    simp only [eC]
    by_cases hb : pk t B k = 38
    · have hk : k < t := pk_less (c := 38) (by decide) hb
      have u := hU (k + 1) m st (by omega) (by omega)
      have eC2 : ∀ w, fX2_allOf_9 gU (nI t) (nI g) (nI w) by_ (ll5 (fX2_allOf_9 gU (nI t) (nI g) (nI w) by_) (f' + 1)) (nI k) (-1) (nI o) (V w) (nI c) = bR (gU (nI t) (nI (k + 1)) (-1) (nI g) (nI w) by_ (nI o)) (fun r4 k4 => ll5 (fX2_allOf_9 gU (nI t) (nI g) (nI w) by_) (f' + 1) k4.1 k4.2 (nI o) (V w &&& r4) (nI (c + 1))) := by
        intro w
        unfold fX2_allOf_9
        rw [if_neg (show ¬ (60 : Int32) ≤ nI c from fun q => absurd ((nI_leI (a := 60) (by decide) (by omega)).mp q) (by omega)), passes_t H (by omega) hb, bR_some, if_neg one_ne]
        simp only [nm_of, nI_1]
      have eM2 : fX5_every_4 gM (nI t) ta (ll5 (fX5_every_4 gM (nI t) ta) (f' + 1)) (nI k) (-1) (nI m) (nI o) st = bV (gM (nI t) (nI (k + 1)) (-1) (nI m) (nI o) ta st) (fun k5 => gIn k5.2.2.1 64 (ll5 (fX5_every_4 gM (nI t) ta) (f' + 1) k5.1 k5.2.1 (k5.2.2.1 + 1) k5.2.2.2.1 (upd k5.2.2.2.2 k5.2.2.1.toNatClampNeg 141))) := by
        unfold fX5_every_4
        rw [if_neg (by decide), look_nf H (by omega), bR_some, if_pos hb]
        simp only [nm_of, nI_1]
      rw [eM2]
      simp only [eC2]
      rcases u with ⟨k2, m2, st2, V2, cs2, u1, u2, u3⟩ | ⟨a', q, m2, st2, u1, u2, u3, u4, u5, u6⟩
      · have h2 := u3.2.1
        have h4 := u3.2.2.2.1
        have h1 := u3.1
        rw [u1, bV_some]
        show NFp g t o k0 m0 st0 _ (gIn (nI m2) 64 (ll5 (fX5_every_4 gM (nI t) ta) (f' + 1) (nI k2) (-1) (nI m2 + 1) (nI o) (upd st2 (nI m2).toNatClampNeg 141))) ∨ FAp t o k0 m0 _ (gIn (nI m2) 64 (ll5 (fX5_every_4 gM (nI t) ta) (f' + 1) (nI k2) (-1) (nI m2 + 1) (nI o) (upd st2 (nI m2).toNatClampNeg 141)))
        rw [gIn_nI (by omega) (by decide), nI_clamp (by omega), nI_1]
        have G2 := Good.bin (V3 := fun w => V w &&& V2 w) (c := 141) G u3 (Or.inl rfl) (fun l => by rw [LV_and, if_pos rfl])
        have r := ih k2 (m2 + 1) _ _ _ G2 (by omega) (by omega)
        rcases r with ⟨k3, m3, st3, V3, cs3, r1, r2, r3⟩ | ⟨a3', q3, m3, st3, r1, r2, r3⟩
        · exact Or.inl ⟨k3, m3, st3, V3, cs3, r1, fun w hw => (bR_of _ (u2 w hw)).trans (r2 w hw), r3⟩
        · exact Or.inr ⟨a3', q3, m3, st3, r1, fun w hw => (r2 w hw).elim (fun v hv => hv.elim (fun p hp => ⟨v, p, (bR_of _ (u2 w hw)).trans hp⟩)), r3⟩
      · rw [u1, bV_some]
        show NFp g t o k0 m0 st0 _ (gIn (nI m2) 64 (ll5 (fX5_every_4 gM (nI t) ta) (f' + 1) a' (nI q) (nI m2 + 1) (nI o) (upd st2 (nI m2).toNatClampNeg 141))) ∨ FAp t o k0 m0 _ (gIn (nI m2) 64 (ll5 (fX5_every_4 gM (nI t) ta) (f' + 1) a' (nI q) (nI m2 + 1) (nI o) (upd st2 (nI m2).toNatClampNeg 141)))
        rw [gIn_nI (by omega) (by decide), nI_1, hxM _ _ _ _ _ (by omega)]
        refine Or.inr ⟨a', q, m2 + 1, _, rfl, fun w hw => ?_, by omega, u4, by omega, by omega⟩
        obtain ⟨v, p, e⟩ := u2 w hw
        obtain ⟨v2, p2, e2⟩ := hx w p (nI q) (V w &&& v) (nI (c + 1)) (nI_m1 (by omega))
        exact ⟨v2, p2, (bR_of _ e).trans e2⟩
    · have eC2 : ∀ w, fX2_allOf_9 gU (nI t) (nI g) (nI w) by_ (ll5 (fX2_allOf_9 gU (nI t) (nI g) (nI w) by_) (f' + 1)) (nI k) (-1) (nI o) (V w) (nI c) = some (V w, (nI k, -1)) := by
        intro w
        unfold fX2_allOf_9
        rw [if_neg (show ¬ (60 : Int32) ≤ nI c from fun q => absurd ((nI_leI (a := 60) (by decide) (by omega)).mp q) (by omega)), passes_f H (by omega) hb, bR_some, if_pos rfl]
      have eM2 : fX5_every_4 gM (nI t) ta (ll5 (fX5_every_4 gM (nI t) ta) (f' + 1)) (nI k) (-1) (nI m) (nI o) st = some (nI k, -1, nI m, nI o, st) := by
        unfold fX5_every_4
        rw [if_neg (by decide), look_nf H (by omega), bR_some, if_neg hb]
      exact Or.inl ⟨k, m, st, V, cs, eM2, fun w _ => eC2 w, G⟩
theorem every_sp (H : RB t B by_ ta) {o : Nat} {gU : TC} {gM : TM} (hU : SP g t by_ ta o gU gM) : SP g t by_ ta o (fX2_allOf gU) (fX5_every gM) := by
  intro k m st hm hk
  have ht := H.1
  unfold fX2_allOf fX5_every
  rcases hU k m st hm hk with ⟨k2, m2, st2, V2, cs2, u1, u2, u3⟩ | ⟨a', q, m2, st2, u1, u2, u3, u4, u5, u6⟩
  · rw [u1, bV_some]
    have r := every_loop H hU hm 1024 0 k2 m2 st2 V2 cs2 u3 (by have := u3.1; omega) (by omega)
    rcases r with ⟨k3, m3, st3, V3, cs3, r1, r2, r3⟩ | ⟨a3', q3, m3, st3, r1, r2, r3⟩
    · exact Or.inl ⟨k3, m3, st3, V3, cs3, r1, fun w hw => (bR_of _ (u2 w hw)).trans (r2 w hw), r3⟩
    · exact Or.inr ⟨a3', q3, m3, st3, r1, fun w hw => (r2 w hw).elim (fun v hv => hv.elim (fun p hp => ⟨v, p, (bR_of _ (u2 w hw)).trans hp⟩)), r3⟩
  · rw [u1, bV_some]
    refine Or.inr ⟨a', q, m2, st2, ?_, fun w hw => ?_, u3, u4, u5, u6⟩
    · show fX5_every_4 gM (nI t) ta (ll5 (fX5_every_4 gM (nI t) ta) 1023) a' (nI q) (nI m2) (nI o) st2 = _
      unfold fX5_every_4
      rw [if_pos (nI_0le (by omega))]
    · obtain ⟨v, p, e⟩ := u2 w hw
      have e2 : fX2_allOf_9 gU (nI t) (nI g) (nI w) by_ (ll5 (fX2_allOf_9 gU (nI t) (nI g) (nI w) by_) 1023) p (nI q) (nI o) v 0 = some (v, (p + 0, nI q)) := by
        unfold fX2_allOf_9
        rw [if_neg (by decide), passes_x (nI_m1 (by omega)) (by decide), bR_some, if_pos rfl]
      exact ⟨v, p + 0, (bR_of _ e).trans e2⟩
theorem any_loop (H : RB t B by_ ta) {o : Nat} {gU : TC} {gM : TM} (hU : SP g t by_ ta o gU gM) {k0 m0 : Nat} {st0 : Nat → Int32} (h0 : m0 ≤ k0) : ∀ (f c k m : Nat) (st : Nat → Int32) (V : Nat → Int64) (cs : Nat → Nat), Good g t k0 m0 st0 k m st V cs → c < k → t - k + 1 < f → NFp g t o k0 m0 st0 (fun w => ll5 (fX2_anyOf_9 gU (nI t) (nI g) (nI w) by_) f (nI k) (-1) (nI o) (V w) (nI c)) (ll5 (fX5_any_4 gM (nI t) ta) f (nI k) (-1) (nI m) (nI o) st) ∨ FAp t o k0 m0 (fun w => ll5 (fX2_anyOf_9 gU (nI t) (nI g) (nI w) by_) f (nI k) (-1) (nI o) (V w) (nI c)) (ll5 (fX5_any_4 gM (nI t) ta) f (nI k) (-1) (nI m) (nI o) st) := by
  intro f
  have ht := H.1
  induction f with
  | zero => intro c k m st V cs _ _ h; exact absurd h (by omega)
  | succ f ih =>
    intro c k m st V cs G hc hf
    have ih := ih (c + 1)
    obtain ⟨f', rfl⟩ : ∃ f', f = f' + 1 := ⟨f - 1, by omega⟩
    have hx : ∀ w (p q : Int32) (y : Int64) (n : Int32), ¬ q = -1 → ∃ v p', ll5 (fX2_anyOf_9 gU (nI t) (nI g) (nI w) by_) (f' + 1) p q (nI o) y n = some (v, (p', q)) := by
      intro w p q y n hq
      show ∃ v p', fX2_anyOf_9 gU (nI t) (nI g) (nI w) by_ (ll5 (fX2_anyOf_9 gU (nI t) (nI g) (nI w) by_) f') p q (nI o) y n = some (v, (p', q))
      unfold fX2_anyOf_9
      by_cases c : (60 : Int32) ≤ n
      · rw [if_pos c]; exact ⟨_, _, rfl⟩
      · rw [if_neg c, passes_x hq (by decide), bR_some, if_pos rfl]; exact ⟨_, _, rfl⟩
    have hxM : ∀ (a : Int32) (q : Nat) (x y : Int32) (z : Nat → Int32), q < 2 ^ 31 → ll5 (fX5_any_4 gM (nI t) ta) (f' + 1) a (nI q) x y z = some (a, nI q, x, y, z) := by
      intro a q x y z hq
      show fX5_any_4 gM (nI t) ta (ll5 (fX5_any_4 gM (nI t) ta) f') a (nI q) x y z = _
      unfold fX5_any_4
      rw [if_pos (nI_0le hq)]
    have eC : ∀ w, ll5 (fX2_anyOf_9 gU (nI t) (nI g) (nI w) by_) (f' + 1 + 1) (nI k) (-1) (nI o) (V w) (nI c) = fX2_anyOf_9 gU (nI t) (nI g) (nI w) by_ (ll5 (fX2_anyOf_9 gU (nI t) (nI g) (nI w) by_) (f' + 1)) (nI k) (-1) (nI o) (V w) (nI c) := fun w => rfl
    have eM : ll5 (fX5_any_4 gM (nI t) ta) (f' + 1 + 1) (nI k) (-1) (nI m) (nI o) st = fX5_any_4 gM (nI t) ta (ll5 (fX5_any_4 gM (nI t) ta) (f' + 1)) (nI k) (-1) (nI m) (nI o) st := rfl
    obtain ⟨a1, a2, a3, a4, a5⟩ := id G
    rw [eM]
    simp only [eC]
    by_cases hb : pk t B k = 124
    · have hk : k < t := pk_less (c := 124) (by decide) hb
      have u := hU (k + 1) m st (by omega) (by omega)
      have eC2 : ∀ w, fX2_anyOf_9 gU (nI t) (nI g) (nI w) by_ (ll5 (fX2_anyOf_9 gU (nI t) (nI g) (nI w) by_) (f' + 1)) (nI k) (-1) (nI o) (V w) (nI c) = bR (gU (nI t) (nI (k + 1)) (-1) (nI g) (nI w) by_ (nI o)) (fun r4 k4 => ll5 (fX2_anyOf_9 gU (nI t) (nI g) (nI w) by_) (f' + 1) k4.1 k4.2 (nI o) (V w ||| r4) (nI (c + 1))) := by
        intro w
        unfold fX2_anyOf_9
        rw [if_neg (show ¬ (60 : Int32) ≤ nI c from fun q => absurd ((nI_leI (a := 60) (by decide) (by omega)).mp q) (by omega)), passes_t H (by omega) hb, bR_some, if_neg one_ne]
        simp only [nm_of, nI_1]
      have eM2 : fX5_any_4 gM (nI t) ta (ll5 (fX5_any_4 gM (nI t) ta) (f' + 1)) (nI k) (-1) (nI m) (nI o) st = bV (gM (nI t) (nI (k + 1)) (-1) (nI m) (nI o) ta st) (fun k5 => gIn k5.2.2.1 64 (ll5 (fX5_any_4 gM (nI t) ta) (f' + 1) k5.1 k5.2.1 (k5.2.2.1 + 1) k5.2.2.2.1 (upd k5.2.2.2.2 k5.2.2.1.toNatClampNeg 142))) := by
        unfold fX5_any_4
        rw [if_neg (by decide), look_nf H (by omega), bR_some, if_pos hb]
        simp only [nm_of, nI_1]
      rw [eM2]
      simp only [eC2]
      rcases u with ⟨k2, m2, st2, V2, cs2, u1, u2, u3⟩ | ⟨a', q, m2, st2, u1, u2, u3, u4, u5, u6⟩
      · have h2 := u3.2.1
        have h4 := u3.2.2.2.1
        have h1 := u3.1
        rw [u1, bV_some]
        show NFp g t o k0 m0 st0 _ (gIn (nI m2) 64 (ll5 (fX5_any_4 gM (nI t) ta) (f' + 1) (nI k2) (-1) (nI m2 + 1) (nI o) (upd st2 (nI m2).toNatClampNeg 142))) ∨ FAp t o k0 m0 _ (gIn (nI m2) 64 (ll5 (fX5_any_4 gM (nI t) ta) (f' + 1) (nI k2) (-1) (nI m2 + 1) (nI o) (upd st2 (nI m2).toNatClampNeg 142)))
        rw [gIn_nI (by omega) (by decide), nI_clamp (by omega), nI_1]
        have G2 := Good.bin (V3 := fun w => V w ||| V2 w) (c := 142) G u3 (Or.inr rfl) (fun l => by rw [LV_or, if_neg (by decide)])
        have r := ih k2 (m2 + 1) _ _ _ G2 (by omega) (by omega)
        rcases r with ⟨k3, m3, st3, V3, cs3, r1, r2, r3⟩ | ⟨a3', q3, m3, st3, r1, r2, r3⟩
        · exact Or.inl ⟨k3, m3, st3, V3, cs3, r1, fun w hw => (bR_of _ (u2 w hw)).trans (r2 w hw), r3⟩
        · exact Or.inr ⟨a3', q3, m3, st3, r1, fun w hw => (r2 w hw).elim (fun v hv => hv.elim (fun p hp => ⟨v, p, (bR_of _ (u2 w hw)).trans hp⟩)), r3⟩
      · rw [u1, bV_some]
        show NFp g t o k0 m0 st0 _ (gIn (nI m2) 64 (ll5 (fX5_any_4 gM (nI t) ta) (f' + 1) a' (nI q) (nI m2 + 1) (nI o) (upd st2 (nI m2).toNatClampNeg 142))) ∨ FAp t o k0 m0 _ (gIn (nI m2) 64 (ll5 (fX5_any_4 gM (nI t) ta) (f' + 1) a' (nI q) (nI m2 + 1) (nI o) (upd st2 (nI m2).toNatClampNeg 142)))
        rw [gIn_nI (by omega) (by decide), nI_1, hxM _ _ _ _ _ (by omega)]
        refine Or.inr ⟨a', q, m2 + 1, _, rfl, fun w hw => ?_, by omega, u4, by omega, by omega⟩
        obtain ⟨v, p, e⟩ := u2 w hw
        obtain ⟨v2, p2, e2⟩ := hx w p (nI q) (V w ||| v) (nI (c + 1)) (nI_m1 (by omega))
        exact ⟨v2, p2, (bR_of _ e).trans e2⟩
    · have eC2 : ∀ w, fX2_anyOf_9 gU (nI t) (nI g) (nI w) by_ (ll5 (fX2_anyOf_9 gU (nI t) (nI g) (nI w) by_) (f' + 1)) (nI k) (-1) (nI o) (V w) (nI c) = some (V w, (nI k, -1)) := by
        intro w
        unfold fX2_anyOf_9
        rw [if_neg (show ¬ (60 : Int32) ≤ nI c from fun q => absurd ((nI_leI (a := 60) (by decide) (by omega)).mp q) (by omega)), passes_f H (by omega) hb, bR_some, if_pos rfl]
      have eM2 : fX5_any_4 gM (nI t) ta (ll5 (fX5_any_4 gM (nI t) ta) (f' + 1)) (nI k) (-1) (nI m) (nI o) st = some (nI k, -1, nI m, nI o, st) := by
        unfold fX5_any_4
        rw [if_neg (by decide), look_nf H (by omega), bR_some, if_neg hb]
      exact Or.inl ⟨k, m, st, V, cs, eM2, fun w _ => eC2 w, G⟩
theorem any_sp (H : RB t B by_ ta) {o : Nat} {gU : TC} {gM : TM} (hU : SP g t by_ ta o gU gM) : SP g t by_ ta o (fX2_anyOf gU) (fX5_any gM) := by
  intro k m st hm hk
  have ht := H.1
  unfold fX2_anyOf fX5_any
  rcases hU k m st hm hk with ⟨k2, m2, st2, V2, cs2, u1, u2, u3⟩ | ⟨a', q, m2, st2, u1, u2, u3, u4, u5, u6⟩
  · rw [u1, bV_some]
    have r := any_loop H hU hm 1024 0 k2 m2 st2 V2 cs2 u3 (by have := u3.1; omega) (by omega)
    rcases r with ⟨k3, m3, st3, V3, cs3, r1, r2, r3⟩ | ⟨a3', q3, m3, st3, r1, r2, r3⟩
    · exact Or.inl ⟨k3, m3, st3, V3, cs3, r1, fun w hw => (bR_of _ (u2 w hw)).trans (r2 w hw), r3⟩
    · exact Or.inr ⟨a3', q3, m3, st3, r1, fun w hw => (r2 w hw).elim (fun v hv => hv.elim (fun p hp => ⟨v, p, (bR_of _ (u2 w hw)).trans hp⟩)), r3⟩
  · rw [u1, bV_some]
    refine Or.inr ⟨a', q, m2, st2, ?_, fun w hw => ?_, u3, u4, u5, u6⟩
    · show fX5_any_4 gM (nI t) ta (ll5 (fX5_any_4 gM (nI t) ta) 1023) a' (nI q) (nI m2) (nI o) st2 = _
      unfold fX5_any_4
      rw [if_pos (nI_0le (by omega))]
    · obtain ⟨v, p, e⟩ := u2 w hw
      have e2 : fX2_anyOf_9 gU (nI t) (nI g) (nI w) by_ (ll5 (fX2_anyOf_9 gU (nI t) (nI g) (nI w) by_) 1023) p (nI q) (nI o) v 0 = some (v, (p + 0, nI q)) := by
        unfold fX2_anyOf_9
        rw [if_neg (by decide), passes_x (nI_m1 (by omega)) (by decide), bR_some, if_pos rfl]
      exact ⟨v, p + 0, (bR_of _ e).trans e2⟩
end PARSE2
end
section
section PARSE3
variable {t g : Nat} {B : Nat → Nat} {by_ ta : Nat → Int32}
theorem Good.one {k m k' c : Nat} {st : Nat → Int32} {V : Nat → Int64} (h1 : k < k') (h2 : k' ≤ t) (hc : c < 143) (hs : ∀ l, l < 256 → ∀ h p, sv (pop (clr l g)) l c h p = some (h + 1, ub p h (LV V l))) : Good g t k m st k' (m + 1) (upd st m (nI c)) V (fun _ => c) := by
  refine ⟨h1, h2, by omega, by omega, fun j hj => pk_un (by omega), fun j a b => ?_, fun l hl => ?_⟩
  · have e : j = m := by omega
    rw [e, pk_us]
    exact ⟨hc, rfl⟩
  · rw [show m + 1 - m = 1 by omega]
    exact Seg.push (fun h p => hs l hl h p)
theorem Good.neg {k m k2 m2 : Nat} {st st2 : Nat → Int32} {V : Nat → Int64} {cs : Nat → Nat} (h : Good g t (k + 1) m st k2 m2 st2 V cs) : Good g t k m st k2 (m2 + 1) (upd st2 m2 (nI 140)) (fun w => V w ^^^ (-1)) (fun j => if j < m2 then cs j else 140) := by
  obtain ⟨a1, a2, a3, a4, a5, a6, a7⟩ := h
  refine ⟨by omega, a2, by omega, by omega, fun j hj => by rw [pk_un (by omega)]; exact a5 j hj, fun j h1 h2 => ?_, fun l hl => ?_⟩
  · show (if j < m2 then cs j else 140) < 143 ∧ _ = nI (if j < m2 then cs j else 140)
    by_cases d : j < m2
    · rw [if_pos d, pk_un (by omega)]; exact a6 j h1 d
    · have e : j = m2 := by omega
      rw [if_neg d, e, pk_us]; exact ⟨by omega, rfl⟩
  · have s1 := (a7 l hl).congr (ds := fun j => if j < m2 then cs j else 140) (fun j h1 h2 => if_pos (by omega))
    have s2 := s1.not (by
      show (if m + (m2 - m) < m2 then cs (m + (m2 - m)) else 140) = 140
      rw [if_neg (by omega)])
    rw [show m2 + 1 - m = m2 - m + 1 by omega, LV_not]
    exact s2
theorem Good.par {k m k2 m2 : Nat} {st st2 : Nat → Int32} {V : Nat → Int64} {cs : Nat → Nat} (h : Good g t (k + 1) m st k2 m2 st2 V cs) (hk : k2 < t) : Good g t k m st (k2 + 1) m2 st2 V cs := by
  obtain ⟨a1, a2, a3, a4, a5⟩ := h
  exact ⟨by omega, by omega, a3, by omega, a5⟩
theorem pk_cases (t : Nat) (B : Nat → Nat) (k : Nat) : pk t B k = -1 ∨ (k < t ∧ pk t B k = nI (B k)) := by
  unfold pk
  by_cases c : k < t
  · rw [if_pos c]; exact Or.inr ⟨c, rfl⟩
  · rw [if_neg c]; exact Or.inl rfl
theorem c36 (H : RB t B by_ ta) {gA gU : TC} {k o w : Nat} (hk : k ≤ t) (ho : o ≤ 6) (h : o = 6 ∨ (¬ pk t B k = 33 ∧ ¬ pk t B k = 40)) : fX2_unit_36 gA gU (nI t) (nI g) (nI w) by_ (nI k) (-1) (nI o) = fX2_unit_90 gA gU (nI t) (nI g) (nI w) by_ (nI k) (-1) := by
  unfold fX2_unit_36 fX2_unit_63
  by_cases c : 6 ≤ o
  · have c6 : (6 : Int32) ≤ nI o := (nI_leI (a := 6) (by decide) (by omega)).mpr c
    rw [if_pos c6, if_pos c6]
  · obtain ⟨h1, h2⟩ := h.resolve_left (by omega)
    have c6 : ¬ (6 : Int32) ≤ nI o := fun q => c ((nI_leI (a := 6) (by decide) (by omega)).mp q)
    rw [if_neg c6, passes_f H hk h1, bR_some, if_pos (show (0 : Int32) = 0 from rfl), if_neg c6, passes_f H hk h2, bR_some, if_pos (show (0 : Int32) = 0 from rfl)]
theorem c90_fail (H : RB t B by_ ta) {gA gU : TC} {k w : Nat} (hk : k ≤ t) (h1 : ¬ pk t B k = 110) (h2 : ¬ pk t B k = 49) (h3 : ¬ pk t B k = 48) : fX2_unit_90 gA gU (nI t) (nI g) (nI w) by_ (nI k) (-1) = some (0, (nI k, nI k)) := by
  unfold fX2_unit_90
  rw [passes_f H hk h1, bR_some, if_pos rfl, passes_f H hk h2, bR_some, if_pos rfl, passes_f H hk h3, bR_some, if_pos rfl, fail_nf, bR_some]
theorem lay_eqM {a m : Nat} {st : Nat → Int32} {v : Int32} (hm : m < 64) : fX5_lay (nI a) (nI m) st v = some (nI (a + 1), nI (m + 1), upd st m v) := by
  unfold fX5_lay
  rw [gIn_nI hm (by decide), nm_of, nm_of, nI_1, nI_1, nI_clamp (by omega)]
theorem sv_130 (o l h : Nat) (p : Nat → Bool) : sv o l 130 h p = some (h + 1, ub p h true) := rfl
theorem sv_131 (o l h : Nat) (p : Nat → Bool) : sv o l 131 h p = some (h + 1, ub p h false) := rfl
theorem LV_m1 {l : Nat} : LV (fun _ => -1) l = true := (by decide +kernel : ∀ i, i < 64 → (-1 : Int64).toBitVec.getLsbD i = true) (l % 64) (Nat.mod_lt _ (by decide))
theorem LV_0 {l : Nat} : LV (fun _ => 0) l = false := by
  show (0#64).getLsbD (l % 64) = false
  exact BitVec.getLsbD_zero
theorem unit_n (H : RB t B by_ ta) (hg : g < 8) {o k m : Nat} {st : Nat → Int32} {gA gU : TC} (ho : o ≤ 6) (hm : m ≤ k) (hk : k ≤ t) (hx : pk t B k = 110) : NFp g t o k m st (fun w => fX2_unit_90 gA gU (nI t) (nI g) (nI w) by_ (nI k) (-1)) (bV (fX5_counted (nI t) (nI k) (-1) (nI m) ta st) (fun k27 => some (k27.1, k27.2.1, k27.2.2.1, nI o, k27.2.2.2))) ∨ FAp t o k m (fun w => fX2_unit_90 gA gU (nI t) (nI g) (nI w) by_ (nI k) (-1)) (bV (fX5_counted (nI t) (nI k) (-1) (nI m) ta st) (fun k27 => some (k27.1, k27.2.1, k27.2.2.1, nI o, k27.2.2.2))) := by
  have ht := H.1
  have hk1 : k < t := pk_less (c := 110) (by decide) hx
  have eC : ∀ w, fX2_unit_90 gA gU (nI t) (nI g) (nI w) by_ (nI k) (-1) = bR (fX2_compared (nI t) (nI (k + 1)) (-1) (nI g) (nI w) by_) (fun r8 k8 => some (r8, (k8.1, k8.2))) := by
    intro w
    unfold fX2_unit_90
    rw [passes_t H hk hx, bR_some, if_neg one_ne]
  simp only [eC]
  by_cases hs : pk t B (k + 1) = 60 ∨ pk t B (k + 1) = 61 ∨ pk t B (k + 1) = 62
  · have hk2 : k + 1 < t := by
      rcases hs with e | e | e
      · exact pk_less (c := 60) (by decide) e
      · exact pk_less (c := 61) (by decide) e
      · exact pk_less (c := 62) (by decide) e
    obtain ⟨sg, hsg, es⟩ : ∃ sg, (sg = 60 ∨ sg = 61 ∨ sg = 62) ∧ pk t B (k + 1) = nI sg := by
      rcases hs with e | e | e
      · exact ⟨60, Or.inl rfl, e⟩
      · exact ⟨61, Or.inr (Or.inl rfl), e⟩
      · exact ⟨62, Or.inr (Or.inr rfl), e⟩
    have eC2 : ∀ w, fX2_compared (nI t) (nI (k + 1)) (-1) (nI g) (nI w) by_ = fX2_compared_28 (nI t) (nI g) (nI w) by_ (nI (k + 1)) (-1) (nI sg) := by
      intro w
      unfold fX2_compared
      rw [sign_nf H (by omega), bR_some, es]
      rcases hsg with rfl | rfl | rfl
      · rw [if_pos (show nI 60 = 60 from rfl)]
      · rw [if_neg (show ¬ nI 61 = 60 by decide), if_pos (show nI 61 = 61 from rfl)]
      · rw [if_neg (show ¬ nI 62 = 60 by decide), if_neg (show ¬ nI 62 = 61 by decide), if_pos (show nI 62 = 62 from rfl)]
    have eM : fX5_counted (nI t) (nI k) (-1) (nI m) ta st = fX5_counted_49 (nI t) ta (nI (k + 1)) (-1) (nI m) st (nI (100 + 10 * (sg - 60))) := by
      unfold fX5_counted
      rw [nm_of, nI_1, look_nf H (by omega), bR_some, es]
      rcases hsg with rfl | rfl | rfl
      · rw [if_pos (show nI 60 = 60 from rfl)]; rfl
      · rw [if_neg (show ¬ nI 61 = 60 by decide), if_pos (show nI 61 = 61 from rfl)]; rfl
      · rw [if_neg (show ¬ nI 62 = 60 by decide), if_neg (show ¬ nI 62 = 61 by decide), if_pos (show nI 62 = 62 from rfl)]; rfl
    simp only [eC2]
    rw [eM]
    unfold fX5_counted_49
    rw [if_pos (nI_0le (by omega)), nm_of, nI_1, look_nf H (by omega), bR_some, in_32 _ 48 57 (by decide) (by decide), bR_some, ite_b2]
    have e48 : (48 : Int32).toInt = 48 := by decide
    have e57 : (57 : Int32).toInt = 57 := by decide
    by_cases hd : 48 ≤ (pk t B (k + 2)).toInt ∧ (pk t B (k + 2)).toInt ≤ 57
    · have hk3 : k + 2 < t := by
        rcases pk_cases t B (k + 2) with e | ⟨e, -⟩
        · rw [e] at hd; exact absurd hd.1 (by decide)
        · exact e
      obtain ⟨b, hb, eb⟩ := i_ex (x := pk t B (k + 2)) (n := 58) (by decide) (by omega) (by omega)
      have hb2 : 48 ≤ b := by have := hd.1; rw [eb, nI_toInt (by omega)] at this; omega
      obtain ⟨V, v1, v2⟩ := lwo_ex (sg := sg) (d := b - 48) hg hsg (by omega)
      have ec : nI (100 + 10 * (sg - 60)) + nI b - 48 = nI (100 + 10 * (sg - 60) + (b - 48)) := by
        rw [nI_add, fa_lit 48, nI_sub1 (by omega)]
        congr 1
        omega
      rw [if_pos hd, eb, bR_some, ec, lay_eqM (by omega), bV_some, bV_some]
      refine Or.inl ⟨k + 3, m + 1, _, V, _, rfl, fun w hw => ?_, Good.one (by omega) (by omega) (by omega) (fun l hl h p => ?_)⟩
      · show bR (fX2_compared_28 (nI t) (nI g) (nI w) by_ (nI (k + 1)) (-1) (nI sg)) (fun r8 k8 => some (r8, (k8.1, k8.2))) = _
        unfold fX2_compared_28
        rw [nm_of, nI_1, sign_nf H (by omega), bR_some, eb, if_neg (show ¬ nI b < 48 from fun q => absurd ((nI_ltI (b := 48) (by omega) (by decide)).mp q) (by omega)), if_pos (show nI b ≤ 57 from (nI_leI (b := 57) (by omega) (by decide)).mpr (by omega)), nm_of, nI_1, show nI b - 48 = nI (b - 48) from by rw [fa_lit 48, nI_sub1 hb2], v1 w hw, bR_some, bR_some]
      · rw [v2 l hl]
        have em : (100 + 10 * (sg - 60) + (b - 48)) % 10 = b - 48 := by omega
        unfold sv cmpB
        rw [if_neg (by omega), em]
        rcases hsg with rfl | rfl | rfl
        · rw [if_pos (by omega), if_pos rfl]
        · rw [if_neg (by omega), if_pos (by omega), if_neg (by decide), if_pos rfl]
        · rw [if_neg (by omega), if_neg (by omega), if_pos (by omega), if_neg (by decide), if_neg (by decide)]
    · rw [if_neg hd, faulty_nf, bV_some, bV_some]
      refine Or.inr ⟨nI (k + 2), k + 2, m, st, rfl, fun w hw => ⟨0, nI (k + 2), ?_⟩, by omega, by omega, by omega, by omega⟩
      show bR (fX2_compared_28 (nI t) (nI g) (nI w) by_ (nI (k + 1)) (-1) (nI sg)) (fun r8 k8 => some (r8, (k8.1, k8.2))) = _
      unfold fX2_compared_28 fX2_compared_55
      rw [nm_of, nI_1, sign_nf H (by omega), bR_some, fail_nf, bR_some]
      by_cases z : pk t B (k + 2) < 48
      · rw [if_pos z, bR_some]
      · rw [if_neg z, if_neg (show ¬ pk t B (k + 2) ≤ 57 by
          rw [Int32.lt_iff_toInt_lt] at z
          rw [Int32.le_iff_toInt_le]
          omega), bR_some]
  · have h1 : ¬ pk t B (k + 1) = 60 := fun q => hs (Or.inl q)
    have h2 : ¬ pk t B (k + 1) = 61 := fun q => hs (Or.inr (Or.inl q))
    have h3 : ¬ pk t B (k + 1) = 62 := fun q => hs (Or.inr (Or.inr q))
    unfold fX5_counted fX5_counted_49
    rw [nm_of, nI_1, look_nf H (by omega), bR_some, if_neg h1, if_neg h2, if_neg h3, if_neg (show ¬ (0 : Int32) ≤ -1 by decide), faulty_nf, bV_some, bV_some]
    refine Or.inr ⟨nI (k + 1), k + 1, m, st, rfl, fun w hw => ⟨0, nI (k + 1), ?_⟩, by omega, by omega, by omega, by omega⟩
    show bR (fX2_compared (nI t) (nI (k + 1)) (-1) (nI g) (nI w) by_) (fun r8 k8 => some (r8, (k8.1, k8.2))) = _
    unfold fX2_compared
    rw [sign_nf H (by omega), bR_some, if_neg h1, if_neg h2, if_neg h3, fail_nf, bR_some, bR_some]
end PARSE3
end
section
section PARSE4
variable {t g : Nat} {B : Nat → Nat} {by_ ta : Nat → Int32}
theorem opens_t {k o : Nat} (ho : o < 6) : fX5_opens (nI k) (-1) (nI o) = some (1, (nI (k + 1), -1, nI (o + 1))) := by
  unfold fX5_opens
  rw [if_neg (show ¬ nI o = 6 from fun q => absurd ((nI_eq (b := 6) (by omega) (by decide)).mp q) (by omega)), nm_of, nm_of, nI_1, nI_1]
theorem opens_f {k : Nat} : fX5_opens (nI k) (-1) (nI 6) = some (0, (nI k, nI k, nI 6)) := by
  unfold fX5_opens
  rw [if_pos (show nI 6 = 6 from rfl), faulty_nf, bV_some]
theorem unit_sp (H : RB t B by_ ta) (hg : g < 8) {o : Nat} (ho : o ≤ 6) {gA gU : TC} {gMA gMU : TM} (hA : o < 6 → SP g t by_ ta (o + 1) gA gMA) (hU : o < 6 → SP g t by_ ta (o + 1) gU gMU) : SP g t by_ ta o (fX2_unit gA gU) (fX5_unit gMA gMU) := by
  intro k m st hm hk
  have ht := H.1
  have e97 : (97 : Int32).toInt = 97 := by decide
  have e104 : (104 : Int32).toInt = 104 := by decide
  by_cases hr : 97 ≤ (pk t B k).toInt ∧ (pk t B k).toInt ≤ 104
  · -- a name
    have hk1 : k < t := by
      rcases pk_cases t B k with e | ⟨e, -⟩
      · rw [e] at hr; exact absurd hr.1 (by decide)
      · exact e
    obtain ⟨b, hb, eb⟩ := i_ex (x := pk t B k) (n := 105) (by decide) (by omega) (by omega)
    have hb2 : 97 ≤ b := by have := hr.1; rw [eb, nI_toInt (by omega)] at this; omega
    have ec : nI b - 97 = nI (b - 97) := by rw [fa_lit 97, nI_sub1 hb2]
    refine Or.inl ⟨k + 1, m + 1, upd st m (nI (b - 97)), lw (b - 97), fun _ => b - 97, ?_, fun w hw => ?_, Good.one (by omega) (by omega) (by omega) (fun l hl h p => ?_)⟩
    · unfold fX5_unit
      rw [look_nf H hk, bR_some, in_32 _ 97 104 (by decide) (by decide), bR_some, ite_b2, if_pos hr, eb, ec, lay_eqM (by omega), bV_some]
    · show fX2_unit gA gU (nI t) (nI k) (-1) (nI g) (nI w) by_ (nI o) = _
      unfold fX2_unit
      rw [sign_nf H hk, bR_some, if_neg (show ¬ pk t B k < 97 by rw [Int32.lt_iff_toInt_lt]; omega), if_neg (show ¬ (104 : Int32) < pk t B k by rw [Int32.lt_iff_toInt_lt]; omega), nm_of, nI_1, eb, ec, listsWith_eq _ (by omega) w hw, bR_some]
    · unfold sv
      rw [if_pos (by omega), lw_bit _ (by omega) l hl]
  · have eC : ∀ w, fX2_unit gA gU (nI t) (nI k) (-1) (nI g) (nI w) by_ (nI o) = fX2_unit_36 gA gU (nI t) (nI g) (nI w) by_ (nI k) (-1) (nI o) := by
      intro w
      unfold fX2_unit
      rw [sign_nf H hk, bR_some]
      by_cases z : pk t B k < 97
      · rw [if_pos z]
      · rw [if_neg z, if_pos (show (104 : Int32) < pk t B k by rw [Int32.lt_iff_toInt_lt] at z ⊢; omega)]
    simp only [eC]
    by_cases h48 : pk t B k = 48
    · have hk1 : k < t := pk_less (c := 48) (by decide) h48
      refine Or.inl ⟨k + 1, m + 1, upd st m (nI 131), fun _ => 0, fun _ => 131, ?_, fun w hw => ?_, Good.one (by omega) (by omega) (by omega) (fun l hl h p => by rw [sv_131, LV_0])⟩
      · unfold fX5_unit fX5_unit_42 fX5_unit_58
        rw [look_nf H hk, bR_some, in_32 _ 97 104 (by decide) (by decide), bR_some, ite_b2, if_neg hr, if_pos h48, h48, if_neg (show ¬ (48 : Int32) = 49 by decide), fa_lit 131, lay_eqM (by omega), bV_some]
      · show fX2_unit_36 gA gU (nI t) (nI g) (nI w) by_ (nI k) (-1) (nI o) = _
        rw [c36 H hk ho (Or.inr ⟨by rw [h48]; decide, by rw [h48]; decide⟩)]
        unfold fX2_unit_90
        rw [passes_f H hk (by rw [h48]; decide), bR_some, if_pos rfl, passes_f H hk (by rw [h48]; decide), bR_some, if_pos rfl, passes_t H hk h48, bR_some, if_neg one_ne]
    by_cases h49 : pk t B k = 49
    · have hk1 : k < t := pk_less (c := 49) (by decide) h49
      refine Or.inl ⟨k + 1, m + 1, upd st m (nI 130), fun _ => -1, fun _ => 130, ?_, fun w hw => ?_, Good.one (by omega) (by omega) (by omega) (fun l hl h p => by rw [sv_130, LV_m1])⟩
      · unfold fX5_unit fX5_unit_42 fX5_unit_58
        rw [look_nf H hk, bR_some, in_32 _ 97 104 (by decide) (by decide), bR_some, ite_b2, if_neg hr, if_neg h48, if_pos h49, if_pos h49, fa_lit 130, lay_eqM (by omega), bV_some]
      · show fX2_unit_36 gA gU (nI t) (nI g) (nI w) by_ (nI k) (-1) (nI o) = _
        rw [c36 H hk ho (Or.inr ⟨by rw [h49]; decide, by rw [h49]; decide⟩)]
        unfold fX2_unit_90
        rw [passes_f H hk (by rw [h49]; decide), bR_some, if_pos rfl, passes_t H hk h49, bR_some, if_neg one_ne]
    by_cases h110 : pk t B k = 110
    · have eC2 : ∀ w, fX2_unit_36 gA gU (nI t) (nI g) (nI w) by_ (nI k) (-1) (nI o) = fX2_unit_90 gA gU (nI t) (nI g) (nI w) by_ (nI k) (-1) := fun w => c36 H hk ho (Or.inr ⟨by rw [h110]; decide, by rw [h110]; decide⟩)
      simp only [eC2]
      have eM : fX5_unit gMA gMU (nI t) (nI k) (-1) (nI m) (nI o) ta st = bV (fX5_counted (nI t) (nI k) (-1) (nI m) ta st) (fun k27 => some (k27.1, k27.2.1, k27.2.2.1, nI o, k27.2.2.2)) := by
        unfold fX5_unit
        rw [look_nf H hk, bR_some, in_32 _ 97 104 (by decide) (by decide), bR_some, ite_b2, if_neg hr, if_neg h48, if_neg h49, if_pos h110]
      rw [eM]
      exact unit_n H hg ho hm hk h110
    have eM : fX5_unit gMA gMU (nI t) (nI k) (-1) (nI m) (nI o) ta st = (if pk t B k = 33 then (bR (fX5_opens (nI k) (-1) (nI o)) (fun r21 k21 => (if r21 = 0 then (fX5_unit_129 gMA gMU (nI t) ta k21.1 k21.2.1 (nI m) k21.2.2 st (pk t B k)) else (bV (gMU (nI t) k21.1 k21.2.1 (nI m) k21.2.2 ta st) (fun k23 => nm (k23.2.2.2.1 - 1) (fun u24 => gIn k23.2.2.1 64 (nm (k23.2.2.1 + 1) (fun u26 => some (k23.1, k23.2.1, u26, u24, (upd k23.2.2.2.2 k23.2.2.1.toNatClampNeg 140)))))))))) else (fX5_unit_129 gMA gMU (nI t) ta (nI k) (-1) (nI m) (nI o) st (pk t B k))) := by
      unfold fX5_unit
      rw [look_nf H hk, bR_some, in_32 _ 97 104 (by decide) (by decide), bR_some, ite_b2, if_neg hr, if_neg h48, if_neg h49, if_neg h110]
    rw [eM]
    by_cases h33 : pk t B k = 33
    · have hk1 : k < t := pk_less (c := 33) (by decide) h33
      rw [if_pos h33]
      by_cases ho6 : o < 6
      · have eC2 : ∀ w, fX2_unit_36 gA gU (nI t) (nI g) (nI w) by_ (nI k) (-1) (nI o) = bR (gU (nI t) (nI (k + 1)) (-1) (nI g) (nI w) by_ (nI (o + 1))) (fun r17 k17 => some (r17 ^^^ (-1), (k17.1, k17.2))) := by
          intro w
          unfold fX2_unit_36
          rw [if_neg (show ¬ (6 : Int32) ≤ nI o from fun q => absurd ((nI_leI (a := 6) (by decide) (by omega)).mp q) (by omega)), passes_t H hk h33, bR_some, if_neg one_ne, nI_1]
        simp only [eC2]
        rw [opens_t ho6, bR_some, if_neg one_ne]
        show NFp g t o k m st _ (bV (gMU (nI t) (nI (k + 1)) (-1) (nI m) (nI (o + 1)) ta st) _) ∨ FAp t o k m _ (bV (gMU (nI t) (nI (k + 1)) (-1) (nI m) (nI (o + 1)) ta st) _)
        have eo : nI (o + 1) - 1 = nI o := by rw [fa_lit 1, nI_sub1 (by omega)]; congr 1
        rcases hU ho6 (k + 1) m st (by omega) (by omega) with ⟨k2, m2, st2, V2, cs2, u1, u2, u3⟩ | ⟨a', q, m2, st2, u1, u2, u3, u4, u5, u6⟩
        · have h2 := u3.2.1
          have h4 := u3.2.2.2.1
          refine Or.inl ⟨k2, m2 + 1, upd st2 m2 (nI 140), fun w => V2 w ^^^ (-1), _, ?_, fun w hw => bR_of _ (u2 w hw), u3.neg⟩
          rw [u1, bV_some]
          show nm (nI (o + 1) - 1) (fun u24 => gIn (nI m2) 64 (nm (nI m2 + 1) (fun u26 => some (nI k2, -1, u26, u24, upd st2 (nI m2).toNatClampNeg 140)))) = _
          rw [nm_of, gIn_nI (by omega) (by decide), nm_of, nI_1, nI_clamp (by omega), eo]
          rfl
        · refine Or.inr ⟨a', q, m2 + 1, upd st2 m2 140, ?_, fun w hw => ?_, by omega, u4, by omega, by omega⟩
          · rw [u1, bV_some]
            show nm (nI (o + 1) - 1) (fun u24 => gIn (nI m2) 64 (nm (nI m2 + 1) (fun u26 => some (a', nI q, u26, u24, upd st2 (nI m2).toNatClampNeg 140)))) = _
            rw [nm_of, gIn_nI (by omega) (by decide), nm_of, nI_1, nI_clamp (by omega), eo]
          · obtain ⟨v, p, e⟩ := u2 w hw
            exact ⟨_, _, bR_of _ e⟩
      · have e6 : o = 6 := by omega
        subst e6
        refine Or.inr ⟨nI k, k, m, st, ?_, fun w hw => ⟨0, nI k, ?_⟩, by omega, hk, by omega, by omega⟩
        · rw [opens_f, bR_some, if_pos rfl]
          show fX5_unit_129 gMA gMU (nI t) ta (nI k) (nI k) (nI m) (nI 6) st (pk t B k) = _
          unfold fX5_unit_129 fX5_unit_189
          rw [h33, if_neg (show ¬ (33 : Int32) = 40 by decide), faulty_x (by omega), bV_some]
        · show fX2_unit_36 gA gU (nI t) (nI g) (nI w) by_ (nI k) (-1) (nI 6) = _
          rw [c36 H hk ho (Or.inl rfl), c90_fail H hk (by rw [h33]; decide) (by rw [h33]; decide) (by rw [h33]; decide)]
    · rw [if_neg h33]
      unfold fX5_unit_129
      by_cases h40 : pk t B k = 40
      · have hk1 : k < t := pk_less (c := 40) (by decide) h40
        rw [if_pos h40]
        by_cases ho6 : o < 6
        · have eC2 : ∀ w, fX2_unit_36 gA gU (nI t) (nI g) (nI w) by_ (nI k) (-1) (nI o) = bR (gA (nI t) (nI (k + 1)) (-1) (nI g) (nI w) by_ (nI (o + 1))) (fun r12 k12 => bR (fX2_closed (nI t) k12.1 k12.2 by_ r12) (fun r13 k13 => some (r13, (k13.1, k13.2)))) := by
            intro w
            unfold fX2_unit_36 fX2_unit_63
            have c6 : ¬ (6 : Int32) ≤ nI o := fun q => absurd ((nI_leI (a := 6) (by decide) (by omega)).mp q) (by omega)
            rw [if_neg c6, passes_f H hk h33, bR_some, if_pos rfl, if_neg c6, passes_t H hk h40, bR_some, if_neg one_ne, nI_1]
          simp only [eC2]
          rw [opens_t ho6, bR_some, if_neg one_ne]
          show NFp g t o k m st _ (bV (gMA (nI t) (nI (k + 1)) (-1) (nI m) (nI (o + 1)) ta st) _) ∨ FAp t o k m _ (bV (gMA (nI t) (nI (k + 1)) (-1) (nI m) (nI (o + 1)) ta st) _)
          have eo : nI (o + 1) - 1 = nI o := by rw [fa_lit 1, nI_sub1 (by omega)]; congr 1
          rcases hA ho6 (k + 1) m st (by omega) (by omega) with ⟨k2, m2, st2, V2, cs2, u1, u2, u3⟩ | ⟨a', q, m2, st2, u1, u2, u3, u4, u5, u6⟩
          · have h1 := u3.1
            have h2 := u3.2.1
            have h3 := u3.2.2.1
            have h4 := u3.2.2.2.1
            rw [u1, bV_some]
            show NFp g t o k m st _ (if (0 : Int32) ≤ -1 then fX5_unit_166 gMA gMU (nI t) ta (nI k2) (-1) (nI m2) (nI (o + 1)) st2 else bR (fX5_look (nI t) (nI k2) ta) (fun r9 k9 => (if r9 = 41 then fX5_unit_166 gMA gMU (nI t) ta (nI k2) (-1) (nI m2) (nI (o + 1)) st2 else bV (fX5_faulty (nI k2) (-1)) (fun k11 => fX5_unit_166 gMA gMU (nI t) ta (nI k2) k11 (nI m2) (nI (o + 1)) st2)))) ∨ FAp t o k m _ (if (0 : Int32) ≤ -1 then fX5_unit_166 gMA gMU (nI t) ta (nI k2) (-1) (nI m2) (nI (o + 1)) st2 else bR (fX5_look (nI t) (nI k2) ta) (fun r9 k9 => (if r9 = 41 then fX5_unit_166 gMA gMU (nI t) ta (nI k2) (-1) (nI m2) (nI (o + 1)) st2 else bV (fX5_faulty (nI k2) (-1)) (fun k11 => fX5_unit_166 gMA gMU (nI t) ta (nI k2) k11 (nI m2) (nI (o + 1)) st2))))
            rw [if_neg (show ¬ (0 : Int32) ≤ -1 by decide), look_nf H (by omega), bR_some, faulty_nf, bV_some]
            unfold fX5_unit_166
            simp only [nm_of, nI_1, eo]
            by_cases h41 : pk t B k2 = 41
            · have hk2 : k2 < t := pk_less (c := 41) (by decide) h41
              rw [if_pos h41]
              refine Or.inl ⟨k2 + 1, m2, st2, V2, cs2, rfl, fun w hw => (bR_of _ (u2 w hw)).trans ?_, u3.par hk2⟩
              unfold fX2_closed
              rw [passes_t H (by omega) h41, bR_some, if_neg one_ne, bR_some]
            · rw [if_neg h41]
              refine Or.inr ⟨nI (k2 + 1), k2, m2, st2, rfl, fun w hw => ⟨0, nI k2, (bR_of _ (u2 w hw)).trans ?_⟩, by omega, by omega, by omega, by omega⟩
              unfold fX2_closed
              rw [passes_f H (by omega) h41, bR_some, if_pos rfl, fail_nf, bR_some, bR_some]
          · rw [u1, bV_some]
            show NFp g t o k m st _ (if (0 : Int32) ≤ nI q then fX5_unit_166 gMA gMU (nI t) ta a' (nI q) (nI m2) (nI (o + 1)) st2 else _) ∨ FAp t o k m _ (if (0 : Int32) ≤ nI q then fX5_unit_166 gMA gMU (nI t) ta a' (nI q) (nI m2) (nI (o + 1)) st2 else _)
            rw [if_pos (nI_0le (by omega))]
            unfold fX5_unit_166
            simp only [nm_of, eo]
            refine Or.inr ⟨a' + 1, q, m2, st2, rfl, fun w hw => ?_, by omega, u4, u5, by omega⟩
            obtain ⟨v, p, e⟩ := u2 w hw
            refine ⟨0, p + 0, (bR_of _ e).trans ?_⟩
            unfold fX2_closed
            rw [passes_x (nI_m1 (by omega)) (by decide), bR_some, if_pos rfl, fail_x (nI_m1 (by omega)), bR_some, bR_some]
        · have e6 : o = 6 := by omega
          subst e6
          refine Or.inr ⟨nI k, k, m, st, ?_, fun w hw => ⟨0, nI k, ?_⟩, by omega, hk, by omega, by omega⟩
          · rw [opens_f, bR_some, if_pos rfl]
            show fX5_unit_189 gMA gMU (nI t) ta (nI k) (nI k) (nI m) (nI 6) st = _
            unfold fX5_unit_189
            rw [faulty_x (by omega), bV_some]
          · show fX2_unit_36 gA gU (nI t) (nI g) (nI w) by_ (nI k) (-1) (nI 6) = _
            rw [c36 H hk ho (Or.inl rfl), c90_fail H hk (by rw [h40]; decide) (by rw [h40]; decide) (by rw [h40]; decide)]
      · rw [if_neg h40]
        unfold fX5_unit_189
        rw [faulty_nf, bV_some]
        refine Or.inr ⟨nI k, k, m, st, rfl, fun w hw => ⟨0, nI k, ?_⟩, by omega, hk, by omega, by omega⟩
        show fX2_unit_36 gA gU (nI t) (nI g) (nI w) by_ (nI k) (-1) (nI o) = _
        rw [c36 H hk ho (Or.inr ⟨h33, h40⟩), c90_fail H hk h110 h49 h48]
theorem d_sp (H : RB t B by_ ta) (hg : g < 8) : ∀ (d o : Nat), o ≤ 6 → 7 ≤ d + o → SP g t by_ ta o (dX2_unit d) (dX5_unit d)
  | 0, o, h1, h2 => absurd h2 (by omega)
  | d + 1, o, h1, h2 => by
    have ih := d_sp H hg d (o + 1)
    exact unit_sp H hg h1 (fun h => any_sp H (every_sp H (ih (by omega) (by omega)))) (fun h => ih (by omega) (by omega))
theorem any_8 (H : RB t B by_ ta) (hg : g < 8) : SP g t by_ ta 0 (dX2_anyOf 8) (dX5_any 8) := any_sp H (every_sp H (d_sp H hg 8 0 (by omega) (by omega)))
end PARSE4
end
section
section TERM
variable {sz li to : Int32} {ki co : Nat → Int32} {te : Nat → Int64} {s kn fi st : Nat → Int32} {n l : Nat} {kd cc : Nat → Nat} {Hh : Nat → Nat → Bool}
variable {t g : Nat} {B : Nat → Nat} {by_ ta : Nat → Int32}
theorem RT.rb {tl tp : Int32} (h : RT tl by_ tp ta t) : tl = nI t ∧ tp = nI t ∧ ∃ B, RB t B by_ ta := by
  obtain ⟨h1, h2, h3, h4⟩ := h
  refine ⟨h2, h3, fun j => if c : j < t then (h4 j c).choose else 0, h1, fun j hj => ?_⟩
  have := (h4 j hj).choose_spec
  show (if c : j < t then (h4 j c).choose else 0) < 256 ∧ _ = nI (if c : j < t then (h4 j c).choose else 0) ∧ _ = nI (if c : j < t then (h4 j c).choose else 0)
  rw [dif_pos hj]
  exact this
/-- the reading as a whole: well, or with a fault -/
theorem read_all (H : RB t B by_ ta) (hg : g < 8) (sp : Nat → Int32) : (∃ (m : Nat) (sp' : Nat → Int32) (V : Nat → Int64) (cs : Nat → Nat) (a : Int32), dX5_any 8 (nI t) 0 (-1) 0 0 ta sp = some (a, -1, nI m, nI 0, sp') ∧ a = nI t ∧ 0 < m ∧ m ≤ 60 ∧ (∀ j, j < m → cs j < 143 ∧ sp' j = nI (cs j)) ∧ (∀ l, l < 256 → Seg (pop (clr l g)) l cs 0 m (LV V l)) ∧ ∀ w, w < 4 → ∀ pl fa tt tw, ∃ p, fX2_holdsBy (nI t) pl fa tt tw by_ (nI g) (nI w) = some (V w, (p, -1, nI g, nI w)))
    ∨ (∃ (a : Int32) (f : Int32) (m q : Nat) (sp' : Nat → Int32), dX5_any 8 (nI t) 0 (-1) 0 0 ta sp = some (a, f, nI m, nI 0, sp') ∧ q ≤ 60 ∧ ((f = nI q) ∨ (f = -1 ∧ a = nI q ∧ q < t)) ∧ ∀ w, w < 4 → ∀ pl fa tt tw, ∃ v p, fX2_holdsBy (nI t) pl fa tt tw by_ (nI g) (nI w) = some (v, (p, nI q, nI g, nI w))) := by
  have ht := H.1
  rcases any_8 H hg 0 0 sp (by omega) (by omega) with ⟨k, m, sp', V, cs, u1, u2, u3⟩ | ⟨a, q, m, sp', u1, u2, u3, u4, u5, u6⟩
  · obtain ⟨a1, a2, a3, a4, a5, a6, a7⟩ := u3
    have u1 : dX5_any 8 (nI t) 0 (-1) 0 0 ta sp = some (nI k, -1, nI m, nI 0, sp') := u1
    by_cases c : k = t
    · refine Or.inl ⟨m, sp', V, cs, nI k, u1, by rw [c], a3, by omega, fun j hj => a6 j (by omega) hj, fun l hl => a7 l hl, fun w hw pl fa tt tw => ⟨nI k, ?_⟩⟩
      have e : dX2_anyOf 8 (nI t) 0 (-1) (nI g) (nI w) by_ 0 = some (V w, (nI k, -1)) := u2 w hw
      unfold fX2_holdsBy
      rw [e, bR_some]
      show (if nI t ≤ nI k then _ else _) = _
      rw [if_pos (by rw [c]; exact Int32.le_refl _)]
    · refine Or.inr ⟨nI k, -1, m, k, sp', u1, by omega, Or.inr ⟨rfl, rfl, by omega⟩, fun w hw pl fa tt tw => ⟨V w, nI k, ?_⟩⟩
      have e : dX2_anyOf 8 (nI t) 0 (-1) (nI g) (nI w) by_ 0 = some (V w, (nI k, -1)) := u2 w hw
      unfold fX2_holdsBy
      rw [e, bR_some]
      show (if nI t ≤ nI k then _ else bR (fX2_fail (nI k) (-1)) _) = _
      rw [if_neg (fun q => absurd ((nI_leI (by omega) (by omega)).mp q) (by omega)), fail_nf, bR_some]
  · have u1 : dX5_any 8 (nI t) 0 (-1) 0 0 ta sp = some (a, nI q, nI m, nI 0, sp') := u1
    refine Or.inr ⟨a, nI q, m, q, sp', u1, by omega, Or.inl rfl, fun w hw pl fa tt tw => ?_⟩
    obtain ⟨v, p, e⟩ := u2 w hw
    have e : dX2_anyOf 8 (nI t) 0 (-1) (nI g) (nI w) by_ 0 = some (v, (p, nI q)) := e
    refine ⟨v, p, ?_⟩
    unfold fX2_holdsBy
    rw [e, bR_some]
    show (if nI t ≤ p then _ else bR (fX2_fail p (nI q)) _) = _
    rw [fail_x (nI_m1 (by omega)), bR_some]
    split <;> rfl
theorem tell_eq {w : Nat} (hg : g < 8) (hw : w < 4) (v : Int64) : fX0_tell to te kn (nI g) (nI w) v = some (to ||| nI (2 ^ g), vp_updL te (4 * g + w) v, fillF 256 (-1) kn) := by
  unfold fX0_tell
  have e : nI g * 4 + nI w = nI (4 * g + w) := by rw [fa_lit 4, nI_mulL, nI_add, Nat.mul_comm]
  rw [e, gIn_nI (by omega) (by decide), nm_of, fillI 256 (by decide), bV_some, bit_i g (by omega), nI_clamp (by omega)]
/-- words told from w on -/
def tlw (te : Nat → Int64) (V : Nat → Int64) (g a b : Nat) : Nat → Int64 := fun j => if 4 * g + a ≤ j ∧ j < 4 * g + b then V (j - 4 * g) else te j
theorem tlw_s (te V : Nat → Int64) {g w : Nat} : vp_updL (tlw te V g 0 w) (4 * g + w) (V w) = tlw te V g 0 (w + 1) := by
  funext j
  unfold tlw
  by_cases c : j = 4 * g + w
  · subst c
    rw [pk_uLs, if_pos (by omega)]
    congr 1
    omega
  · rw [pk_uLn c]
    by_cases d : 4 * g + 0 ≤ j ∧ j < 4 * g + w
    · rw [if_pos d, if_pos (by omega)]
    · rw [if_neg d, if_neg (by omega)]
theorem or_self (a b : Int32) : a ||| b ||| b = a ||| b := by rw [Int32.or_assoc, Int32.or_self]
theorem term_loop (hg : g < 8) {V : Nat → Int64} (hV : ∀ w, w < 4 → ∀ pl fa tt tw, ∃ p, fX2_holdsBy (nI t) pl fa tt tw by_ (nI g) (nI w) = some (V w, (p, -1, nI g, nI w))) : ∀ (f w : Nat) (kn : Nat → Int32) (pl fa tt tw : Int32), 1 ≤ w → w ≤ 4 → 4 - w < f → Ret (ll12 (fX4_term_55 sz by_) f (to ||| nI (2 ^ g)) (tlw te V g 0 w) (fillF 256 (-1) kn) (nI t) pl fa tt tw fi (nI g) (-1) (nI w)) 1 (fun k => k.1 = to ||| nI (2 ^ g) ∧ k.2.1 = tlw te V g 0 4 ∧ (∃ kn', k.2.2.1 = fillF 256 (-1) kn') ∧ k.2.2.2.1 = 0 ∧ k.2.2.2.2.2.2.2.2 = fi) := by
  intro f
  induction f with
  | zero => intro w kn pl fa tt tw _ _ h; exact absurd h (by omega)
  | succ f ih =>
    intro w kn pl fa tt tw h1 h2 hf
    have ih := ih (w + 1)
    show Ret (fX4_term_55 sz by_ (ll12 (fX4_term_55 sz by_) f) (to ||| nI (2 ^ g)) (tlw te V g 0 w) (fillF 256 (-1) kn) (nI t) pl fa tt tw fi (nI g) (-1) (nI w)) _ _
    generalize ll12 (fX4_term_55 sz by_) f = ag at ih ⊢
    unfold fX4_term_55 fX4_term_87
    by_cases c : 4 ≤ w
    · have e : w = 4 := by omega
      subst e
      rw [if_pos (show (4 : Int32) ≤ nI 4 by decide), if_neg (show ¬ (0 : Int32) ≤ -1 by decide)]
      exact Ret.mk ⟨rfl, rfl, ⟨kn, rfl⟩, rfl, rfl⟩
    · obtain ⟨p, e⟩ := hV w (by omega) pl fa tt tw
      rw [if_neg (show ¬ (4 : Int32) ≤ nI w from fun q => absurd ((nI_leI (a := 4) (by decide) (by omega)).mp q) (by omega)), e, bR_some, tell_eq hg (by omega), bV_some, nm_of, nI_1, or_self, tlw_s]
      exact ih _ p (-1) (nI g) (nI w) (by omega) (by omega) (by omega)
/-- steps laid as a term -/
def stp (s sp : Nat → Int32) (g a b : Nat) : Nat → Int32 := fun j => if 26 + 64 * g + a ≤ j ∧ j < 26 + 64 * g + b then sp (j - (26 + 64 * g)) else s j
theorem termM_loop (hg : g < 8) {m : Nat} (hm : m ≤ 60) {sp : Nat → Int32} {a f' op : Int32} : ∀ (f k : Nat) (s : Nat → Int32), k ≤ m → m - k < f → ll10 (fX5_term_82 ta) f 0 a f' (nI m) op s st sp (nI g) (nI k) = some (1, (0, a, f', nI m, op, upd (stp s sp g k m) (4 + 3 * g) (nI m), st, sp)) := by
  intro f
  induction f with
  | zero => intro k s _ h; exact absurd h (by omega)
  | succ f ih =>
    intro k s hk hf
    have ih := ih (k + 1)
    show fX5_term_82 ta (ll10 (fX5_term_82 ta) f) 0 a f' (nI m) op s st sp (nI g) (nI k) = _
    generalize ll10 (fX5_term_82 ta) f = ag at ih ⊢
    unfold fX5_term_82
    rw [ite_le (by omega) (by omega)]
    by_cases c : m ≤ k
    · have e : 2 + 3 * nI g + 2 = nI (4 + 3 * g) := by rw [fa_lit 2, fa_lit 3, nI_mulL, nI_add, nI_add]; congr 1; omega
      rw [if_pos c, e, gIn_nI (by omega) (by decide), nI_clamp (by omega)]
      have e2 : stp s sp g k m = s := by
        funext j
        unfold stp
        rw [if_neg (by omega)]
      rw [e2]
    · have e : 26 + 64 * nI g + nI k = nI (26 + 64 * g + k) := by rw [fa_lit 26, fa_lit 64, nI_mulL, nI_add, nI_add]
      rw [if_neg c, e, gIn_nI (by omega) (by decide), gIn_nI (by omega) (by decide), nm_of, nI_1, nI_clamp (by omega), nI_clamp (by omega), ih _ (by omega) (by omega)]
      have e2 : stp (upd s (26 + 64 * g + k) (sp k)) sp g (k + 1) m = stp s sp g k m := by
        funext j
        unfold stp
        by_cases d : j = 26 + 64 * g + k
        · subst d
          rw [if_neg (by omega), if_pos (by omega), pk_us]
          congr 1
          omega
        · rw [pk_un d]
          by_cases z : 26 + 64 * g + k ≤ j ∧ j < 26 + 64 * g + m
          · rw [if_pos z, if_pos (by omega)]
          · rw [if_neg z, if_neg (by omega)]
      rw [e2]
theorem RA.term (R : RA sz li to ki co te s n l kd cc Hh) (hg : g < n) {m : Nat} (hm0 : 0 < m) (hm : m ≤ 60) {sp : Nat → Int32} {cs : Nat → Nat} {V : Nat → Int64} (hc : ∀ j, j < m → cs j < 143 ∧ sp j = nI (cs j)) (hS : ∀ l, l < 256 → Seg (pop (clr l g)) l cs 0 m (LV V l)) : RA sz li (to ||| nI (2 ^ g)) ki co (tlw te V g 0 4) (upd (stp s sp g 0 m) (4 + 3 * g) (nI m)) n l kd cc (fun j l => if j = g then LV V l else Hh j l) := by
  obtain ⟨⟨a1, a2, a3, a4⟩, ⟨b1, b2, b3, b4⟩, c, d, ⟨x, t1, t2, t3⟩, f⟩ := R
  have hs : ∀ j, j < 26 → ¬ j = 4 + 3 * g → upd (stp s sp g 0 m) (4 + 3 * g) (nI m) j = s j := by
    intro j h1 h2
    rw [pk_un h2]
    unfold stp
    rw [if_neg (by omega)]
  refine ⟨⟨a1, a2, a3, fun j hj q hq => ?_⟩, ⟨b1, by rw [hs 0 (by omega) (by omega)]; exact b2, fun j hj => by rw [hs _ (by omega) (by omega)]; exact b3 j hj, fun j hj => ?_⟩, ⟨c.1, c.2.1, by rw [hs 1 (by omega) (by omega)]; exact c.2.2⟩, fun j hj => by rw [hs _ (by omega) (by omega)]; exact d j hj, ⟨x ||| 2 ^ g, ?_, by rw [t2, fa_or], fun j hj => ?_⟩, fun j h1 h2 => ?_⟩
  · show (if j = g then LV V q else Hh j q) = _
    unfold tb tlw
    by_cases e : j = g
    · subst e
      rw [if_pos rfl, if_pos (by omega)]
      unfold LV
      congr 3
      omega
    · rw [if_neg e, if_neg (by omega)]
      exact a4 j hj q hq
  · show TK j (fun l => if j = g then LV V l else Hh j l) _
    by_cases e : j = g
    · subst e
      refine ⟨m, cs, hm, pk_us, fun k hk => ⟨(hc k hk).1, ?_⟩, fun q => absurd q (by omega), fun _ q hq => ?_⟩
      · rw [pk_un (by omega)]
        unfold stp
        rw [if_pos (by omega), ← (hc k hk).2]
        congr 1
        omega
      · show Seg _ _ _ _ _ (if j = j then LV V q else Hh j q)
        rw [if_pos rfl]
        exact hS q hq
    · have e2 : (fun l => if j = g then LV V l else Hh j l) = Hh j := by funext q; rw [if_neg e]
      rw [e2]
      refine (b4 j hj).congr ?_ (fun k hk => ?_)
      · exact hs _ (by omega) (by omega)
      · rw [pk_un (by omega)]
        unfold stp
        rw [if_neg (by omega)]
  · exact Nat.or_lt_two_pow t1 (Nat.pow_lt_pow_right (by decide) hg)
  · rw [Nat.testBit_or, Nat.testBit_two_pow]
    by_cases e : j = g
    · subst e
      rw [pk_us, decide_eq_true rfl, Bool.or_true]
      constructor
      · intro _ q
        have := (nI_eq (b := 0) (by omega) (by decide)).mp q
        omega
      · intro _; rfl
    · rw [hs _ (by omega) (by omega), decide_eq_false (fun q => e q.symm), Bool.or_false]
      exact t3 j hj
  · unfold tlw
    rw [if_neg (by omega)]
    exact f j h1 h2
theorem op_term {tl pl fa tt tw tp at_ fm la op : Int32} {sp : Nat → Int32} (R : RA sz li to ki co te s n l kd cc Hh) (K : KV n kd Hh kn) (T : RT tl by_ tp ta t) (F : FS fi st) (x1 : Int32) : Both (fX4_term sz to te kn tl pl fa tt tw by_ fi x1) (fX5_term tp at_ fm la op s st ta sp x1) (fun k1 k2 => (∃ Hh', RA sz li k1.1 ki co k1.2.1 k2.2.2.2.2.2.1 n l kd cc Hh' ∧ KV n kd Hh' k1.2.2.1) ∧ (∃ t', RT k1.2.2.2.1 by_ k2.1 ta t') ∧ FS k1.2.2.2.2.2.2.2.2 k2.2.2.2.2.2.2.1) := by
  have R0 := R
  have T0 := T
  obtain ⟨e1, e2, B, H⟩ := T.rb
  subst e1; subst e2
  obtain ⟨P, M, -⟩ := R
  have hn := P.1
  have ht := H.1
  have T1 : ∃ t', RT 0 by_ 0 ta t' := ⟨0, by omega, rfl, rfl, fun j hj => absurd hj (by omega)⟩
  unfold fX4_term fX5_term
  rw [show fX0_has sz x1 = some (b2 (0 ≤ x1.toInt ∧ x1.toInt < n), ()) from by rw [P.2.1]; exact has_g hn x1, isG_g M, bR_some, bR_some, ite_b2, ite_b2, fnd_1, fns_1, bR_some, bR_some]
  by_cases h : 0 ≤ x1.toInt ∧ x1.toInt < n
  · rw [if_pos h, if_pos h]
    obtain ⟨g, hg, rfl⟩ := i_ex (x := x1) (n := n) (by omega) h.1 h.2
    rcases read_all (g := g) H (by omega) sp with ⟨m, sp', V, cs, a, u1, u2, u3, u4, u5, u6, u7⟩ | ⟨a, f, m, q, sp', u1, u2, u3, u4⟩
    · obtain ⟨p, e⟩ := u7 0 (by decide) pl fa tt tw
      have e : fX2_holdsBy (nI t) pl fa tt tw by_ (nI g) 0 = some (V 0, (p, -1, nI g, nI 0)) := e
      have et : fX0_tell to te kn (nI g) 0 (V 0) = some (to ||| nI (2 ^ g), vp_updL te (4 * g + 0) (V 0), fillF 256 (-1) kn) := tell_eq (by omega) (w := 0) (by decide) (V 0)
      have e0 : vp_updL te (4 * g + 0) (V 0) = tlw te V g 0 1 := by
        have := tlw_s te V (g := g) (w := 0)
        have e3 : tlw te V g 0 0 = te := by
          funext j
          unfold tlw
          rw [if_neg (by omega)]
        rw [e3] at this
        exact this
      obtain ⟨k1, q1, q2, q3, ⟨kn', q4⟩, q5, q6⟩ := term_loop (sz := sz) (to := to) (te := te) (fi := fi) (g := g) (by omega) u7 1024 1 kn p (-1) (nI g) (nI 0) (by omega) (by omega) (by omega)
      have q1 : ll12 (fX4_term_55 sz by_) qF (to ||| nI (2 ^ g)) (tlw te V g 0 1) (fillF 256 (-1) kn) (nI t) p (-1) (nI g) (nI 0) fi (nI g) (-1) 1 = some (1, k1) := q1
      rw [e, bR_some, if_neg (show ¬ (0 : Int32) ≤ -1 by decide), et, bV_some, e0, q1, u1, bV_some]
      have em : (if (0 : Int32) ≤ -1 then fX5_term_61 ta (nI t) a (-1) (nI m) (nI 0) s st sp' (nI g) else (if nI t ≤ a then fX5_term_61 ta (nI t) a (-1) (nI m) (nI 0) s st sp' (nI g) else bV (fX5_faulty a (-1)) (fun k12 => fX5_term_61 ta (nI t) a k12 (nI m) (nI 0) s st sp' (nI g)))) = some (1, (0, a, -1, nI m, nI 0, upd (stp s sp' g 0 m) (4 + 3 * g) (nI m), st, sp')) := by
        rw [if_neg (show ¬ (0 : Int32) ≤ -1 by decide), if_pos (by rw [u2]; exact Int32.le_refl _)]
        unfold fX5_term_61
        rw [if_pos (show (-1 : Int32) < 0 by decide)]
        exact termM_loop (by omega) u4 1024 0 s (by omega) (by omega)
      rw [em]
      refine Both.mk ⟨⟨fun j l => if j = g then LV V l else Hh j l, ?_, ?_⟩, ?_, by rw [q6]; exact F⟩
      · rw [q2, q3]
        exact R0.term hg u3 u4 u5 u6
      · rw [q4]
        exact KV_new kn'
      · rw [q5]
        exact T1
    · obtain ⟨v, p, e⟩ := u4 0 (by decide) pl fa tt tw
      have e : fX2_holdsBy (nI t) pl fa tt tw by_ (nI g) 0 = some (v, (p, nI q, nI g, nI 0)) := e
      rw [e, bR_some, if_pos (show (0 : Int32) ≤ nI q from nI_0le (by omega)), u1, bV_some]
      unfold fX4_term_87
      rw [if_pos (show (0 : Int32) ≤ nI q from nI_0le (by omega))]
      have em : (if (0 : Int32) ≤ f then fX5_term_61 ta (nI t) a f (nI m) (nI 0) s st sp' (nI g) else (if nI t ≤ a then fX5_term_61 ta (nI t) a f (nI m) (nI 0) s st sp' (nI g) else bV (fX5_faulty a f) (fun k12 => fX5_term_61 ta (nI t) a k12 (nI m) (nI 0) s st sp' (nI g)))) = some ((-1) - nI q, (0, a, nI q, nI m, nI 0, s, st, sp')) := by
        rcases u3 with z | ⟨z1, z2, z3⟩
        · subst z
          rw [if_pos (nI_0le (by omega))]
          unfold fX5_term_61
          rw [if_neg (nI_neg (by omega))]
        · subst z1; subst z2
          rw [if_neg (show ¬ (0 : Int32) ≤ -1 by decide), if_neg (fun w => absurd ((nI_leI (by omega) (by omega)).mp w) (by omega)), faulty_nf, bV_some]
          unfold fX5_term_61
          rw [if_neg (nI_neg (by omega))]
      rw [em]
      exact Both.mk ⟨⟨Hh, R0, K⟩, T1, F⟩
  · rw [if_neg h, if_neg h]
    exact Both.mk ⟨⟨Hh, R0, K⟩, ⟨t, T0⟩, F.up (by decide)⟩
end TERM
end
