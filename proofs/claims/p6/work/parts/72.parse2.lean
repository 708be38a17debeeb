section PARSE2
variable {t g : Nat} {B : Nat → Nat} {by_ ta : Nat → Int32}
abbrev TC : Type := Int32 → Int32 → Int32 → Int32 → Int32 → (Nat → Int32) → Int32 → Option (Int64 × Int32 × Int32)
abbrev TM : Type := Int32 → Int32 → Int32 → Int32 → Int32 → (Nat → Int32) → (Nat → Int32) → Option (Int32 × Int32 × Int32 × Int32 × (Nat → Int32))
def SP (g t : Nat) (by_ ta : Nat → Int32) (o : Nat) (fC : TC) (fM : TM) : Prop := ∀ (k m : Nat) (st : Nat → Int32), m ≤ k → k ≤ t → NFp g t o k m st (fun w => fC (nI t) (nI k) (-1) (nI g) (nI w) by_ (nI o)) (fM (nI t) (nI k) (-1) (nI m) (nI o) ta st) ∨ FAp t o k m (fun w => fC (nI t) (nI k) (-1) (nI g) (nI w) by_ (nI o)) (fM (nI t) (nI k) (-1) (nI m) (nI o) ta st)
theorem LV_and (V W : Nat → Int64) (l : Nat) : LV (fun w => V w &&& W w) l = (LV V l && LV W l) := by
  unfold LV
  rw [Int64.toBitVec_and, BitVec.getLsbD_and]
theorem LV_or (V W : Nat → Int64) (l : Nat) : LV (fun w => V w ||| W w) l = (LV V l || LV W l) := by
  unfold LV
  rw [Int64.toBitVec_or, BitVec.getLsbD_or]
theorem LV_not (V : Nat → Int64) (l : Nat) : LV (fun w => V w ^^^ (-1)) l = !LV V l := by
  unfold LV
  rw [Int64.toBitVec_xor, BitVec.getLsbD_xor, (by decide +kernel : ∀ i, i < 64 → (-1 : Int64).toBitVec.getLsbD i = true) (l % 64) (Nat.mod_lt _ (by decide)), Bool.xor_true]
theorem Good.bin {k0 m0 k m k2 m2 c : Nat} {st0 st st2 : Nat → Int32} {V V2 V3 : Nat → Int64} {cs cs2 : Nat → Nat} (h : Good g t k0 m0 st0 k m st V cs) (h2 : Good g t (k + 1) m st k2 m2 st2 V2 cs2) (hc : c = 141 ∨ c = 142) (hV : ∀ l, LV V3 l = if c = 141 then LV V l && LV V2 l else LV V l || LV V2 l) : Good g t k0 m0 st0 k2 (m2 + 1) (upd st2 m2 (nI c)) V3 (fun j => if j < m then cs j else if j < m2 then cs2 j else c) := by
  obtain ⟨a1, a2, a3, a4, a5, a6, a7⟩ := h
  obtain ⟨b1, b2, b3, b4, b5, b6, b7⟩ := h2
  refine ⟨by omega, b2, by omega, by omega, fun j hj => ?_, fun j h1 h2 => ?_, fun l hl => ?_⟩
  · rw [pk_un (by omega), b5 j (by omega), a5 j hj]
  · show (if j < m then cs j else if j < m2 then cs2 j else c) < 143 ∧ _ = nI (if j < m then cs j else if j < m2 then cs2 j else c)
    by_cases d : j < m
    · rw [if_pos d, pk_un (by omega), b5 j d]; exact a6 j h1 d
    · rw [if_neg d]
      by_cases e : j < m2
      · rw [if_pos e, pk_un (by omega)]; exact b6 j (by omega) e
      · have e2 : j = m2 := by omega
        rw [if_neg e, e2, pk_us]; exact ⟨by omega, rfl⟩
  · have s1 := (a7 l hl).congr (ds := fun j => if j < m then cs j else if j < m2 then cs2 j else c) (fun j h1 h2 => if_pos (by omega))
    have s2 := (b7 l hl).congr (ds := fun j => if j < m then cs j else if j < m2 then cs2 j else c) (fun j h1 h2 => by
      show (if j < m then cs j else if j < m2 then cs2 j else c) = cs2 j
      rw [if_neg (by omega), if_pos (by omega)])
    have e : m0 + (m - m0) = m := by omega
    have s2 : Seg (pop (clr l g)) l (fun j => if j < m then cs j else if j < m2 then cs2 j else c) (m0 + (m - m0)) (m2 - m) (LV V2 l) := by rw [e]; exact s2
    have s3 := s1.bin s2 (c := c) (by
      show (if m0 + (m - m0) + (m2 - m) < m then _ else if m0 + (m - m0) + (m2 - m) < m2 then _ else c) = c
      rw [if_neg (by omega), if_neg (by omega)]) (by omega)
    rw [show m2 + 1 - m0 = m - m0 + (m2 - m) + 1 by omega, hV l]
    exact s3
theorem every_loop (H : RB t B by_ ta) {o : Nat} {gU : TC} {gM : TM} (hU : SP g t by_ ta o gU gM) {k0 m0 : Nat} {st0 : Nat → Int32} (h0 : m0 ≤ k0) : ∀ (f c k m : Nat) (st : Nat → Int32) (V : Nat → Int64) (cs : Nat → Nat), Good g t k0 m0 st0 k m st V cs → c < k → t - k + 1 < f → NFp g t o k0 m0 st0 (fun w => ll5 (fX2_allOf_9 gU (nI t) (nI g) (nI w) by_) f (nI k) (-1) (nI o) (V w) (nI c)) (ll5 (fX5_every_4 gM (nI t) ta) f (nI k) (-1) (nI m) (nI o) st) ∨ FAp t o k0 m0 (fun w => ll5 (fX2_allOf_9 gU (nI t) (nI g) (nI w) by_) f (nI k) (-1) (nI o) (V w) (nI c)) (ll5 (fX5_every_4 gM (nI t) ta) f (nI k) (-1) (nI m) (nI o) st) := by
  intro f
  have ht := H.1
  induction f with
  | zero => intro c k m st V cs _ _ h; exact absurd h (by omega)
  | succ f ih =>
    intro c k m st V cs G hc hf
    have ih := ih (c + 1)
    obtain ⟨f', rfl⟩ : ∃ f', f = f' + 1 := ⟨f - 1, by omega⟩
    have hx : ∀ w (p q : Int32) (y : Int64) (n : Int32), ¬ q = -1 → ∃ v p', ll5 (fX2_allOf_9 gU (nI t) (nI g) (nI w) by_) (f' + 1) p q (nI o) y n = some (v, (p', q)) := by
      intro w p q y n hq
      show ∃ v p', fX2_allOf_9 gU (nI t) (nI g) (nI w) by_ (ll5 (fX2_allOf_9 gU (nI t) (nI g) (nI w) by_) f') p q (nI o) y n = some (v, (p', q))
      unfold fX2_allOf_9
      by_cases c : (60 : Int32) ≤ n
      · rw [if_pos c]; exact ⟨_, _, rfl⟩
      · rw [if_neg c, passes_x hq (by decide), bR_some, if_pos rfl]; exact ⟨_, _, rfl⟩
    have hxM : ∀ (a : Int32) (q : Nat) (x y : Int32) (z : Nat → Int32), q < 2 ^ 31 → ll5 (fX5_every_4 gM (nI t) ta) (f' + 1) a (nI q) x y z = some (a, nI q, x, y, z) := by
      intro a q x y z hq
      show fX5_every_4 gM (nI t) ta (ll5 (fX5_every_4 gM (nI t) ta) f') a (nI q) x y z = _
      unfold fX5_every_4
      rw [if_pos (nI_0le hq)]
    have eC : ∀ w, ll5 (fX2_allOf_9 gU (nI t) (nI g) (nI w) by_) (f' + 1 + 1) (nI k) (-1) (nI o) (V w) (nI c) = fX2_allOf_9 gU (nI t) (nI g) (nI w) by_ (ll5 (fX2_allOf_9 gU (nI t) (nI g) (nI w) by_) (f' + 1)) (nI k) (-1) (nI o) (V w) (nI c) := fun w => rfl
    have eM : ll5 (fX5_every_4 gM (nI t) ta) (f' + 1 + 1) (nI k) (-1) (nI m) (nI o) st = fX5_every_4 gM (nI t) ta (ll5 (fX5_every_4 gM (nI t) ta) (f' + 1)) (nI k) (-1) (nI m) (nI o) st := rfl
    obtain ⟨a1, a2, a3, a4, a5⟩ := id G
    rw [eM]
    simp only [eC]
    by_cases hb : pk t B k = 38
    · have hk : k < t := pk_less (c := 38) (by decide) hb
      have u := hU (k + 1) m st (by omega) (by omega)
      have eC2 : ∀ w, fX2_allOf_9 gU (nI t) (nI g) (nI w) by_ (ll5 (fX2_allOf_9 gU (nI t) (nI g) (nI w) by_) (f' + 1)) (nI k) (-1) (nI o) (V w) (nI c) = bR (gU (nI t) (nI (k + 1)) (-1) (nI g) (nI w) by_ (nI o)) (fun r4 k4 => ll5 (fX2_allOf_9 gU (nI t) (nI g) (nI w) by_) (f' + 1) k4.1 k4.2 (nI o) (V w &&& r4) (nI (c + 1))) := by
        intro w
        unfold fX2_allOf_9
        rw [if_neg (show ¬ (60 : Int32) ≤ nI c from fun q => absurd ((nI_leI (a := 60) (by decide) (by omega)).mp q) (by omega)), passes_t H (by omega) hb, bR_some, if_neg one_ne]
        simp only [nm_of, nI_1]
      have eM2 : fX5_every_4 gM (nI t) ta (ll5 (fX5_every_4 gM (nI t) ta) (f' + 1)) (nI k) (-1) (nI m) (nI o) st = bV (gM (nI t) (nI (k + 1)) (-1) (nI m) (nI o) ta st) (fun k5 => gIn k5.2.2.1 64 (ll5 (fX5_every_4 gM (nI t) ta) (f' + 1) k5.1 k5.2.1 (k5.2.2.1 + 1) k5.2.2.2.1 (upd k5.2.2.2.2 k5.2.2.1.toNatClampNeg 141))) := by
        unfold fX5_every_4
        rw [if_neg (by decide), look_nf H (by omega), bR_some, if_pos hb]
        simp only [nm_of, nI_1]
      rw [eM2]
      simp only [eC2]
      rcases u with ⟨k2, m2, st2, V2, cs2, u1, u2, u3⟩ | ⟨a', q, m2, st2, u1, u2, u3, u4, u5, u6⟩
      · have h2 := u3.2.1
        have h4 := u3.2.2.2.1
        have h1 := u3.1
        rw [u1, bV_some]
        show NFp g t o k0 m0 st0 _ (gIn (nI m2) 64 (ll5 (fX5_every_4 gM (nI t) ta) (f' + 1) (nI k2) (-1) (nI m2 + 1) (nI o) (upd st2 (nI m2).toNatClampNeg 141))) ∨ FAp t o k0 m0 _ (gIn (nI m2) 64 (ll5 (fX5_every_4 gM (nI t) ta) (f' + 1) (nI k2) (-1) (nI m2 + 1) (nI o) (upd st2 (nI m2).toNatClampNeg 141)))
        rw [gIn_nI (by omega) (by decide), nI_clamp (by omega), nI_1]
        have G2 := Good.bin (V3 := fun w => V w &&& V2 w) (c := 141) G u3 (Or.inl rfl) (fun l => by rw [LV_and, if_pos rfl])
        have r := ih k2 (m2 + 1) _ _ _ G2 (by omega) (by omega)
        rcases r with ⟨k3, m3, st3, V3, cs3, r1, r2, r3⟩ | ⟨a3', q3, m3, st3, r1, r2, r3⟩
        · exact Or.inl ⟨k3, m3, st3, V3, cs3, r1, fun w hw => (bR_of _ (u2 w hw)).trans (r2 w hw), r3⟩
        · exact Or.inr ⟨a3', q3, m3, st3, r1, fun w hw => (r2 w hw).elim (fun v hv => hv.elim (fun p hp => ⟨v, p, (bR_of _ (u2 w hw)).trans hp⟩)), r3⟩
      · rw [u1, bV_some]
        show NFp g t o k0 m0 st0 _ (gIn (nI m2) 64 (ll5 (fX5_every_4 gM (nI t) ta) (f' + 1) a' (nI q) (nI m2 + 1) (nI o) (upd st2 (nI m2).toNatClampNeg 141))) ∨ FAp t o k0 m0 _ (gIn (nI m2) 64 (ll5 (fX5_every_4 gM (nI t) ta) (f' + 1) a' (nI q) (nI m2 + 1) (nI o) (upd st2 (nI m2).toNatClampNeg 141)))
        rw [gIn_nI (by omega) (by decide), nI_1, hxM _ _ _ _ _ (by omega)]
        refine Or.inr ⟨a', q, m2 + 1, _, rfl, fun w hw => ?_, by omega, u4, by omega, by omega⟩
        obtain ⟨v, p, e⟩ := u2 w hw
        obtain ⟨v2, p2, e2⟩ := hx w p (nI q) (V w &&& v) (nI (c + 1)) (nI_m1 (by omega))
        exact ⟨v2, p2, (bR_of _ e).trans e2⟩
    · have eC2 : ∀ w, fX2_allOf_9 gU (nI t) (nI g) (nI w) by_ (ll5 (fX2_allOf_9 gU (nI t) (nI g) (nI w) by_) (f' + 1)) (nI k) (-1) (nI o) (V w) (nI c) = some (V w, (nI k, -1)) := by
        intro w
        unfold fX2_allOf_9
        rw [if_neg (show ¬ (60 : Int32) ≤ nI c from fun q => absurd ((nI_leI (a := 60) (by decide) (by omega)).mp q) (by omega)), passes_f H (by omega) hb, bR_some, if_pos rfl]
      have eM2 : fX5_every_4 gM (nI t) ta (ll5 (fX5_every_4 gM (nI t) ta) (f' + 1)) (nI k) (-1) (nI m) (nI o) st = some (nI k, -1, nI m, nI o, st) := by
        unfold fX5_every_4
        rw [if_neg (by decide), look_nf H (by omega), bR_some, if_neg hb]
      exact Or.inl ⟨k, m, st, V, cs, eM2, fun w _ => eC2 w, G⟩
theorem every_sp (H : RB t B by_ ta) {o : Nat} {gU : TC} {gM : TM} (hU : SP g t by_ ta o gU gM) : SP g t by_ ta o (fX2_allOf gU) (fX5_every gM) := by
  intro k m st hm hk
  have ht := H.1
  unfold fX2_allOf fX5_every
  rcases hU k m st hm hk with ⟨k2, m2, st2, V2, cs2, u1, u2, u3⟩ | ⟨a', q, m2, st2, u1, u2, u3, u4, u5, u6⟩
  · rw [u1, bV_some]
    have r := every_loop H hU hm 1024 0 k2 m2 st2 V2 cs2 u3 (by have := u3.1; omega) (by omega)
    rcases r with ⟨k3, m3, st3, V3, cs3, r1, r2, r3⟩ | ⟨a3', q3, m3, st3, r1, r2, r3⟩
    · exact Or.inl ⟨k3, m3, st3, V3, cs3, r1, fun w hw => (bR_of _ (u2 w hw)).trans (r2 w hw), r3⟩
    · exact Or.inr ⟨a3', q3, m3, st3, r1, fun w hw => (r2 w hw).elim (fun v hv => hv.elim (fun p hp => ⟨v, p, (bR_of _ (u2 w hw)).trans hp⟩)), r3⟩
  · rw [u1, bV_some]
    refine Or.inr ⟨a', q, m2, st2, ?_, fun w hw => ?_, u3, u4, u5, u6⟩
    · show fX5_every_4 gM (nI t) ta (ll5 (fX5_every_4 gM (nI t) ta) 1023) a' (nI q) (nI m2) (nI o) st2 = _
      unfold fX5_every_4
      rw [if_pos (nI_0le (by omega))]
    · obtain ⟨v, p, e⟩ := u2 w hw
      have e2 : fX2_allOf_9 gU (nI t) (nI g) (nI w) by_ (ll5 (fX2_allOf_9 gU (nI t) (nI g) (nI w) by_) 1023) p (nI q) (nI o) v 0 = some (v, (p + 0, nI q)) := by
        unfold fX2_allOf_9
        rw [if_neg (by decide), passes_x (nI_m1 (by omega)) (by decide), bR_some, if_pos rfl]
      exact ⟨v, p + 0, (bR_of _ e).trans e2⟩
theorem any_loop (H : RB t B by_ ta) {o : Nat} {gU : TC} {gM : TM} (hU : SP g t by_ ta o gU gM) {k0 m0 : Nat} {st0 : Nat → Int32} (h0 : m0 ≤ k0) : ∀ (f c k m : Nat) (st : Nat → Int32) (V : Nat → Int64) (cs : Nat → Nat), Good g t k0 m0 st0 k m st V cs → c < k → t - k + 1 < f → NFp g t o k0 m0 st0 (fun w => ll5 (fX2_anyOf_9 gU (nI t) (nI g) (nI w) by_) f (nI k) (-1) (nI o) (V w) (nI c)) (ll5 (fX5_any_4 gM (nI t) ta) f (nI k) (-1) (nI m) (nI o) st) ∨ FAp t o k0 m0 (fun w => ll5 (fX2_anyOf_9 gU (nI t) (nI g) (nI w) by_) f (nI k) (-1) (nI o) (V w) (nI c)) (ll5 (fX5_any_4 gM (nI t) ta) f (nI k) (-1) (nI m) (nI o) st) := by
  intro f
  have ht := H.1
  induction f with
  | zero => intro c k m st V cs _ _ h; exact absurd h (by omega)
  | succ f ih =>
    intro c k m st V cs G hc hf
    have ih := ih (c + 1)
    obtain ⟨f', rfl⟩ : ∃ f', f = f' + 1 := ⟨f - 1, by omega⟩
    have hx : ∀ w (p q : Int32) (y : Int64) (n : Int32), ¬ q = -1 → ∃ v p', ll5 (fX2_anyOf_9 gU (nI t) (nI g) (nI w) by_) (f' + 1) p q (nI o) y n = some (v, (p', q)) := by
      intro w p q y n hq
      show ∃ v p', fX2_anyOf_9 gU (nI t) (nI g) (nI w) by_ (ll5 (fX2_anyOf_9 gU (nI t) (nI g) (nI w) by_) f') p q (nI o) y n = some (v, (p', q))
      unfold fX2_anyOf_9
      by_cases c : (60 : Int32) ≤ n
      · rw [if_pos c]; exact ⟨_, _, rfl⟩
      · rw [if_neg c, passes_x hq (by decide), bR_some, if_pos rfl]; exact ⟨_, _, rfl⟩
    have hxM : ∀ (a : Int32) (q : Nat) (x y : Int32) (z : Nat → Int32), q < 2 ^ 31 → ll5 (fX5_any_4 gM (nI t) ta) (f' + 1) a (nI q) x y z = some (a, nI q, x, y, z) := by
      intro a q x y z hq
      show fX5_any_4 gM (nI t) ta (ll5 (fX5_any_4 gM (nI t) ta) f') a (nI q) x y z = _
      unfold fX5_any_4
      rw [if_pos (nI_0le hq)]
    have eC : ∀ w, ll5 (fX2_anyOf_9 gU (nI t) (nI g) (nI w) by_) (f' + 1 + 1) (nI k) (-1) (nI o) (V w) (nI c) = fX2_anyOf_9 gU (nI t) (nI g) (nI w) by_ (ll5 (fX2_anyOf_9 gU (nI t) (nI g) (nI w) by_) (f' + 1)) (nI k) (-1) (nI o) (V w) (nI c) := fun w => rfl
    have eM : ll5 (fX5_any_4 gM (nI t) ta) (f' + 1 + 1) (nI k) (-1) (nI m) (nI o) st = fX5_any_4 gM (nI t) ta (ll5 (fX5_any_4 gM (nI t) ta) (f' + 1)) (nI k) (-1) (nI m) (nI o) st := rfl
    obtain ⟨a1, a2, a3, a4, a5⟩ := id G
    rw [eM]
    simp only [eC]
    by_cases hb : pk t B k = 124
    · have hk : k < t := pk_less (c := 124) (by decide) hb
      have u := hU (k + 1) m st (by omega) (by omega)
      have eC2 : ∀ w, fX2_anyOf_9 gU (nI t) (nI g) (nI w) by_ (ll5 (fX2_anyOf_9 gU (nI t) (nI g) (nI w) by_) (f' + 1)) (nI k) (-1) (nI o) (V w) (nI c) = bR (gU (nI t) (nI (k + 1)) (-1) (nI g) (nI w) by_ (nI o)) (fun r4 k4 => ll5 (fX2_anyOf_9 gU (nI t) (nI g) (nI w) by_) (f' + 1) k4.1 k4.2 (nI o) (V w ||| r4) (nI (c + 1))) := by
        intro w
        unfold fX2_anyOf_9
        rw [if_neg (show ¬ (60 : Int32) ≤ nI c from fun q => absurd ((nI_leI (a := 60) (by decide) (by omega)).mp q) (by omega)), passes_t H (by omega) hb, bR_some, if_neg one_ne]
        simp only [nm_of, nI_1]
      have eM2 : fX5_any_4 gM (nI t) ta (ll5 (fX5_any_4 gM (nI t) ta) (f' + 1)) (nI k) (-1) (nI m) (nI o) st = bV (gM (nI t) (nI (k + 1)) (-1) (nI m) (nI o) ta st) (fun k5 => gIn k5.2.2.1 64 (ll5 (fX5_any_4 gM (nI t) ta) (f' + 1) k5.1 k5.2.1 (k5.2.2.1 + 1) k5.2.2.2.1 (upd k5.2.2.2.2 k5.2.2.1.toNatClampNeg 142))) := by
        unfold fX5_any_4
        rw [if_neg (by decide), look_nf H (by omega), bR_some, if_pos hb]
        simp only [nm_of, nI_1]
      rw [eM2]
      simp only [eC2]
      rcases u with ⟨k2, m2, st2, V2, cs2, u1, u2, u3⟩ | ⟨a', q, m2, st2, u1, u2, u3, u4, u5, u6⟩
      · have h2 := u3.2.1
        have h4 := u3.2.2.2.1
        have h1 := u3.1
        rw [u1, bV_some]
        show NFp g t o k0 m0 st0 _ (gIn (nI m2) 64 (ll5 (fX5_any_4 gM (nI t) ta) (f' + 1) (nI k2) (-1) (nI m2 + 1) (nI o) (upd st2 (nI m2).toNatClampNeg 142))) ∨ FAp t o k0 m0 _ (gIn (nI m2) 64 (ll5 (fX5_any_4 gM (nI t) ta) (f' + 1) (nI k2) (-1) (nI m2 + 1) (nI o) (upd st2 (nI m2).toNatClampNeg 142)))
        rw [gIn_nI (by omega) (by decide), nI_clamp (by omega), nI_1]
        have G2 := Good.bin (V3 := fun w => V w ||| V2 w) (c := 142) G u3 (Or.inr rfl) (fun l => by rw [LV_or, if_neg (by decide)])
        have r := ih k2 (m2 + 1) _ _ _ G2 (by omega) (by omega)
        rcases r with ⟨k3, m3, st3, V3, cs3, r1, r2, r3⟩ | ⟨a3', q3, m3, st3, r1, r2, r3⟩
        · exact Or.inl ⟨k3, m3, st3, V3, cs3, r1, fun w hw => (bR_of _ (u2 w hw)).trans (r2 w hw), r3⟩
        · exact Or.inr ⟨a3', q3, m3, st3, r1, fun w hw => (r2 w hw).elim (fun v hv => hv.elim (fun p hp => ⟨v, p, (bR_of _ (u2 w hw)).trans hp⟩)), r3⟩
      · rw [u1, bV_some]
        show NFp g t o k0 m0 st0 _ (gIn (nI m2) 64 (ll5 (fX5_any_4 gM (nI t) ta) (f' + 1) a' (nI q) (nI m2 + 1) (nI o) (upd st2 (nI m2).toNatClampNeg 142))) ∨ FAp t o k0 m0 _ (gIn (nI m2) 64 (ll5 (fX5_any_4 gM (nI t) ta) (f' + 1) a' (nI q) (nI m2 + 1) (nI o) (upd st2 (nI m2).toNatClampNeg 142)))
        rw [gIn_nI (by omega) (by decide), nI_1, hxM _ _ _ _ _ (by omega)]
        refine Or.inr ⟨a', q, m2 + 1, _, rfl, fun w hw => ?_, by omega, u4, by omega, by omega⟩
        obtain ⟨v, p, e⟩ := u2 w hw
        obtain ⟨v2, p2, e2⟩ := hx w p (nI q) (V w ||| v) (nI (c + 1)) (nI_m1 (by omega))
        exact ⟨v2, p2, (bR_of _ e).trans e2⟩
    · have eC2 : ∀ w, fX2_anyOf_9 gU (nI t) (nI g) (nI w) by_ (ll5 (fX2_anyOf_9 gU (nI t) (nI g) (nI w) by_) (f' + 1)) (nI k) (-1) (nI o) (V w) (nI c) = some (V w, (nI k, -1)) := by
        intro w
        unfold fX2_anyOf_9
        rw [if_neg (show ¬ (60 : Int32) ≤ nI c from fun q => absurd ((nI_leI (a := 60) (by decide) (by omega)).mp q) (by omega)), passes_f H (by omega) hb, bR_some, if_pos rfl]
      have eM2 : fX5_any_4 gM (nI t) ta (ll5 (fX5_any_4 gM (nI t) ta) (f' + 1)) (nI k) (-1) (nI m) (nI o) st = some (nI k, -1, nI m, nI o, st) := by
        unfold fX5_any_4
        rw [if_neg (by decide), look_nf H (by omega), bR_some, if_neg hb]
      exact Or.inl ⟨k, m, st, V, cs, eM2, fun w _ => eC2 w, G⟩
theorem any_sp (H : RB t B by_ ta) {o : Nat} {gU : TC} {gM : TM} (hU : SP g t by_ ta o gU gM) : SP g t by_ ta o (fX2_anyOf gU) (fX5_any gM) := by
  intro k m st hm hk
  have ht := H.1
  unfold fX2_anyOf fX5_any
  rcases hU k m st hm hk with ⟨k2, m2, st2, V2, cs2, u1, u2, u3⟩ | ⟨a', q, m2, st2, u1, u2, u3, u4, u5, u6⟩
  · rw [u1, bV_some]
    have r := any_loop H hU hm 1024 0 k2 m2 st2 V2 cs2 u3 (by have := u3.1; omega) (by omega)
    rcases r with ⟨k3, m3, st3, V3, cs3, r1, r2, r3⟩ | ⟨a3', q3, m3, st3, r1, r2, r3⟩
    · exact Or.inl ⟨k3, m3, st3, V3, cs3, r1, fun w hw => (bR_of _ (u2 w hw)).trans (r2 w hw), r3⟩
    · exact Or.inr ⟨a3', q3, m3, st3, r1, fun w hw => (r2 w hw).elim (fun v hv => hv.elim (fun p hp => ⟨v, p, (bR_of _ (u2 w hw)).trans hp⟩)), r3⟩
  · rw [u1, bV_some]
    refine Or.inr ⟨a', q, m2, st2, ?_, fun w hw => ?_, u3, u4, u5, u6⟩
    · show fX5_any_4 gM (nI t) ta (ll5 (fX5_any_4 gM (nI t) ta) 1023) a' (nI q) (nI m2) (nI o) st2 = _
      unfold fX5_any_4
      rw [if_pos (nI_0le (by omega))]
    · obtain ⟨v, p, e⟩ := u2 w hw
      have e2 : fX2_anyOf_9 gU (nI t) (nI g) (nI w) by_ (ll5 (fX2_anyOf_9 gU (nI t) (nI g) (nI w) by_) 1023) p (nI q) (nI o) v 0 = some (v, (p + 0, nI q)) := by
        unfold fX2_anyOf_9
        rw [if_neg (by decide), passes_x (nI_m1 (by omega)) (by decide), bR_some, if_pos rfl]
      exact ⟨v, p + 0, (bR_of _ e).trans e2⟩
end PARSE2
