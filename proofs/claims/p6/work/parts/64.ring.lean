/-! rounds that come round again -/
/-- from l on: u rounds ahead of the ring, which is v long -/
def Cyc (f : Nat → Nat) (l u v : Nat) : Prop := 1 ≤ v ∧ u + v ≤ 256 ∧ it f (u + v) l = it f u l ∧ ∀ i j, i < j → j < u + v → ¬ it f i l = it f j l
theorem Cyc.per {f : Nat → Nat} {l u v : Nat} (h : Cyc f l u v) {k : Nat} (hk : u ≤ k) : it f (k + v) l = it f k l := by
  have e : k = (k - u) + u := by omega
  rw [show k + v = (k - u) + (u + v) by omega, it_add, h.2.2.1, ← it_add, ← e]
theorem Cyc.pers {f : Nat → Nat} {l u v : Nat} (h : Cyc f l u v) {k : Nat} (hk : u ≤ k) : ∀ q, it f (k + q * v) l = it f k l
  | 0 => by rw [Nat.zero_mul, Nat.add_zero]
  | q + 1 => by rw [Nat.succ_mul, ← Nat.add_assoc, h.per (by omega)]; exact Cyc.pers h hk q
/-- the place on the ring where 256 rounds lead -/
theorem Cyc.at {f : Nat → Nat} {l u v : Nat} (h : Cyc f l u v) : ∃ c, u ≤ c ∧ c < u + v ∧ it f 256 l = it f c l := by
  have hv := h.1
  have hu := h.2.1
  refine ⟨u + (256 - u) % v, by omega, by have := Nat.mod_lt (256 - u) (show v > 0 by omega); omega, ?_⟩
  have e : 256 = u + (256 - u) % v + (256 - u) / v * v := by
    have := Nat.div_add_mod (256 - u) v
    rw [Nat.mul_comm] at this
    omega
  have := h.pers (k := u + (256 - u) % v) (by omega) ((256 - u) / v)
  rw [← e] at this
  exact this
theorem Cyc.ne {f : Nat → Nat} {l u v c p : Nat} (h : Cyc f l u v) (h1 : u ≤ c) (h2 : c < u + v) (h3 : 1 ≤ p) (h4 : p < v) : ¬ it f (c + p) l = it f c l := by
  by_cases d : c + p < u + v
  · exact fun q => h.2.2.2 c (c + p) (by omega) d q.symm
  · have e := h.per (k := c + p - v) (by omega)
    rw [show c + p - v + v = c + p by omega] at e
    rw [e]
    exact h.2.2.2 (c + p - v) c (by omega) h2
section RING
variable {sz li to : Int32} {ki co : Nat → Int32} {te : Nat → Int64} {s kn fi st pile wish mark : Nat → Int32} {n l : Nat} {kd cc : Nat → Nat} {Hh : Nat → Nat → Bool}
theorem ringLength_loop (P : PC n kd Hh sz ki te) {a u v c : Nat} {li : Int32} (ha : a < 256) (C : Cyc (Wd n kd Hh) l u v) (h1 : u ≤ c) (h2 : c < u + v) (hac : a = it (Wd n kd Hh) c l) : ∀ (f p : Nat) (kn : Nat → Int32), 1 ≤ p → p ≤ v → v - p < f → KV n kd Hh kn → Ret (ll5 (fX0_ringLength_23 sz li ki te) f kn (nI a) (nI (it (Wd n kd Hh) p a)) (nI p) (nI (p - 1))) (nI v) (KV n kd Hh)
  | 0, p, _, _, _, h, _ => absurd h (by omega)
  | f + 1, p, kn, hp, hv, hf, K => by
    have ih := ringLength_loop (li := li) P ha C h1 h2 hac f (p + 1)
    have hv2 := C.2.1
    show Ret (fX0_ringLength_23 sz li ki te (ll5 (fX0_ringLength_23 sz li ki te) f) kn (nI a) (nI (it (Wd n kd Hh) p a)) (nI p) (nI (p - 1))) _ _
    generalize ll5 (fX0_ringLength_23 sz li ki te) f = ag at ih ⊢
    have hi := it_256 (kd := kd) (Hh := Hh) P.1 ha p
    unfold fX0_ringLength_23
    rw [fa_lit 256, ite_le (by decide) (by omega), if_neg (by omega), ite_eqN (by omega) (by omega)]
    have e : it (Wd n kd Hh) p a = it (Wd n kd Hh) (c + p) l := by rw [hac, ← it_add, Nat.add_comm]
    by_cases d : p = v
    · have : it (Wd n kd Hh) p a = a := by rw [e, d, C.per h1, hac]
      rw [if_pos this, d]
      exact Ret.mk K
    · have : ¬ it (Wd n kd Hh) p a = a := by rw [e, hac]; exact C.ne h1 h2 hp (by omega)
      rw [if_neg this]
      refine Ret.b1 (comers_r P K hi) (fun k hk => ?_)
      rw [nm_of, nm_of, nI_1, nI_1, show p - 1 + 1 = p + 1 - 1 by omega, ← it_s (Wd n kd Hh)]
      exact ih k (by omega) (by omega) (by omega) hk
theorem ringLength_r (P : PC n kd Hh sz ki te) (K : KV n kd Hh kn) {u v : Nat} (hl : l < 256) (C : Cyc (Wd n kd Hh) l u v) : Ret (fX0_ringLength sz (nI l) ki te kn) (nI v) (KV n kd Hh) := by
  unfold fX0_ringLength
  obtain ⟨c, h1, h2, h3⟩ := C.at
  refine Ret.b1 (behind_r P K (m := 256) hl (by omega)) (fun k hk => ?_)
  have ha := it_256 (kd := kd) (Hh := Hh) P.1 hl 256
  refine Ret.b1 (comers_r P hk ha) (fun k2 hk2 => ?_)
  exact ringLength_loop (li := nI l) P ha C h1 h2 h3 1024 1 k2 (by omega) C.1 (by have := C.2.1; omega) hk2
theorem roundsToRing_loop (P : PC n kd Hh sz ki te) {u v : Nat} {li : Int32} (hl : l < 256) (C : Cyc (Wd n kd Hh) l u v) : ∀ (f k : Nat) (kn : Nat → Int32), k ≤ u → u - k < f → KV n kd Hh kn → Ret (ll5 (fX0_roundsToRing_21 sz li ki te) f kn (nI (it (Wd n kd Hh) k l)) (nI (it (Wd n kd Hh) (k + v) l)) (nI k) (nI k)) (nI u) (KV n kd Hh)
  | 0, k, _, _, h, _ => absurd h (by omega)
  | f + 1, k, kn, hk, hf, K => by
    have ih := roundsToRing_loop (li := li) P hl C f (k + 1)
    have hv := C.1
    have hv2 := C.2.1
    show Ret (fX0_roundsToRing_21 sz li ki te (ll5 (fX0_roundsToRing_21 sz li ki te) f) kn (nI (it (Wd n kd Hh) k l)) (nI (it (Wd n kd Hh) (k + v) l)) (nI k) (nI k)) _ _
    generalize ll5 (fX0_roundsToRing_21 sz li ki te) f = ag at ih ⊢
    have h1 := it_256 (kd := kd) (Hh := Hh) P.1 hl k
    have h2 := it_256 (kd := kd) (Hh := Hh) P.1 hl (k + v)
    unfold fX0_roundsToRing_21
    rw [fa_lit 256, ite_le (by decide) (by omega), if_neg (by omega), ite_eqN (by omega) (by omega)]
    by_cases d : k = u
    · rw [if_pos (by rw [d]; exact C.2.2.1.symm), d]
      exact Ret.mk K
    · rw [if_neg (C.2.2.2 k (k + v) (by omega) (by omega))]
      refine Ret.b1 (comers_r P K h1) (fun k1 hk1 => ?_)
      refine Ret.b1 (comers_r P hk1 h2) (fun k2 hk2 => ?_)
      rw [nm_of, nm_of, nI_1, ← it_s (Wd n kd Hh), ← it_s (Wd n kd Hh), show k + v + 1 = k + 1 + v by omega]
      exact ih k2 (by omega) (by omega) hk2
theorem roundsToRing_r (P : PC n kd Hh sz ki te) (K : KV n kd Hh kn) {u v : Nat} (hl : l < 256) (C : Cyc (Wd n kd Hh) l u v) : Ret (fX0_roundsToRing sz (nI l) ki te kn (nI v)) (nI u) (KV n kd Hh) := by
  unfold fX0_roundsToRing
  have hv2 := C.2.1
  refine Ret.b1 (behind_r P K (m := v) hl (by omega)) (fun k hk => ?_)
  have := roundsToRing_loop (li := nI l) P hl C 1024 0 k (by omega) (by omega) hk
  rw [Nat.zero_add] at this
  exact this
/-- how many are not marked -/
def cU (m : Nat → Int32) : Nat := cnt (fun x => decide (m x = -1)) 256
/-- marks of the first m lists -/
def MK (f : Nat → Nat) (l m : Nat) (mr : Nat → Int32) : Prop := (∀ j, j < m → mr (it f j l) = nI j) ∧ (∀ x, x < 256 → mr x = -1 ∨ ∃ j, j < m ∧ it f j l = x) ∧ m + cU mr = 256
theorem ring_loop (hn : n ≤ 8) {w p : Nat → Int32} {x : Nat} (hx : x < 2) (V : WV n kd Hh w) (hl : l < 2 ^ n) : ∀ (f m : Nat) (mr : Nat → Int32), MK (Wd n kd Hh) l m mr → cU mr < f → ∃ u v, Cyc (Wd n kd Hh) l u v ∧ Ret (ll7 (fX5_ring_52 s) f st p w mr (nI x) (nI (it (Wd n kd Hh) m l)) (nI m)) (if x = 0 then nI u else nI v) (fun k => k.1 = st) := by
  intro f
  induction f with
  | zero => intro m mr H h; exact absurd h (by omega)
  | succ f ih =>
    intro m mr H hf
    have ih := ih (m + 1)
    have ha := it_lt (fun l => Wd_lt n kd Hh l) hl m
    have hN := two_le hn
    have hm : m ≤ 256 := by have := H.2.2; omega
    show ∃ u v, Cyc (Wd n kd Hh) l u v ∧ Ret (fX5_ring_52 s (ll7 (fX5_ring_52 s) f) st p w mr (nI x) (nI (it (Wd n kd Hh) m l)) (nI m)) _ _
    generalize ll7 (fX5_ring_52 s) f = ag at ih ⊢
    unfold fX5_ring_52
    rw [gIn_nI (by omega) (by decide), gIn_nI (by omega) (by decide), gIn_nI (by omega) (by decide), gIn_nI (by omega) (by decide), gIn_nI (by omega) (by decide), nI_clamp (by omega)]
    by_cases c : mr (it (Wd n kd Hh) m l) = -1
    · rw [if_neg (show ¬ (0 : Int32) ≤ mr (it (Wd n kd Hh) m l) from by rw [c]; decide), nm_of, nm_of, nI_1, V _ ha, ← it_s (Wd n kd Hh)]
      have hnew : MK (Wd n kd Hh) l (m + 1) (upd mr (it (Wd n kd Hh) m l) (nI m)) := by
        refine ⟨fun j hj => ?_, fun y hy => ?_, ?_⟩
        · by_cases d : it (Wd n kd Hh) j l = it (Wd n kd Hh) m l
          · by_cases e : j = m
            · rw [e, pk_us]
            · have := H.1 j (by omega)
              rw [d, c] at this
              exact absurd this.symm (nI_m1 (by omega))
          · rw [pk_un d]
            exact H.1 j (by
              have : ¬ j = m := fun q => d (by rw [q])
              omega)
        · by_cases d : y = it (Wd n kd Hh) m l
          · exact Or.inr ⟨m, by omega, d.symm⟩
          · rw [pk_un d]
            rcases H.2.1 y hy with q | ⟨j, q1, q2⟩
            · exact Or.inl q
            · exact Or.inr ⟨j, by omega, q2⟩
        · have : cU mr = cU (upd mr (it (Wd n kd Hh) m l) (nI m)) + 1 := cnt_less (p := fun x => decide (mr x = -1)) (q := fun x => decide (upd mr (it (Wd n kd Hh) m l) (nI m) x = -1)) (x := it (Wd n kd Hh) m l) (n := 256) (by omega) (decide_eq_true c) (decide_eq_false (by rw [pk_us]; exact nI_m1 (by omega))) (fun i _ hi => by rw [pk_un hi])
          have h3 := H.2.2
          omega
      have h4 := hnew.2.2
      have h5 := H.2.2
      exact ih _ hnew (by omega)
    · rcases H.2.1 _ (show it (Wd n kd Hh) m l < 256 by omega) with q | ⟨j, q1, q2⟩
      · exact absurd q c
      · have e := H.1 j q1
        rw [q2] at e
        refine ⟨j, m - j, ⟨by omega, by omega, by rw [show j + (m - j) = m by omega, q2], fun a b hab hb => ?_⟩, ?_⟩
        · intro q
          have e1 := H.1 a (by omega)
          have e2 := H.1 b (by omega)
          rw [q, e2] at e1
          have := (nI_eq (by omega) (by omega)).mp e1
          omega
        · rw [e, if_pos (nI_0le (by omega)), nI_sub1 (by omega)]
          rcases (show x = 0 ∨ x = 1 by omega) with rfl | rfl
          · exact Ret.mk rfl
          · exact Ret.mk rfl
theorem ring23_loop {w p : Nat → Int32} {x : Int32} (hs : s 1 = nI l) {Q : Option (Int32 × (Nat → Int32) × (Nat → Int32) × (Nat → Int32) × (Nat → Int32)) → Prop} (hQ : ∀ mr : Nat → Int32, (∀ j, j < 256 → mr j = -1) → Q (ll7 (fX5_ring_52 s) qF st p w mr x (nI l) 0)) : ∀ (f i : Nat) (mr : Nat → Int32), i ≤ 256 → 256 - i < f → (∀ j, j < i → mr j = -1) → Q (ll6 (fX5_ring_23 s) f st p w mr x (nI i))
  | 0, i, _, _, h, _ => absurd h (by omega)
  | f + 1, i, mr, hi, hf, hm => by
    have ih := ring23_loop hs hQ f (i + 1)
    show Q (fX5_ring_23 s (ll6 (fX5_ring_23 s) f) st p w mr x (nI i))
    generalize ll6 (fX5_ring_23 s) f = ag at ih ⊢
    unfold fX5_ring_23
    rw [fa_lit 256, ite_le (by decide) (by omega)]
    by_cases c : 256 ≤ i
    · rw [if_pos c, nm_of, hs]
      exact hQ mr (fun j hj => hm j (by omega))
    · rw [if_neg c, gIn_nI (by omega) (by decide), nm_of, nI_1, nI_clamp (by omega)]
      refine ih _ (by omega) (by omega) (fun j hj => ?_)
      by_cases d : j = i
      · subst d; rw [pk_us]
      · rw [pk_un d]; exact hm j (by omega)
theorem op_ring (R : RA sz li to ki co te s n l kd cc Hh) (K : KV n kd Hh kn) (F : FS fi st) (x1 : Int32) : Both (fX4_ring sz li ki te kn fi x1) (fX5_ring s st pile wish mark x1) (fun k1 k2 => KV n kd Hh k1.1 ∧ FS k1.2 k2.1) := by
  have hl := R.l256
  obtain ⟨P, M, hL, -⟩ := R
  unfold fX4_ring fX5_ring
  rw [in_32 x1 0 1 (by decide) (by decide), bR_some, ite_b2, fnd_1, fns_1, bR_some, bR_some]
  by_cases h : 0 ≤ x1.toInt ∧ x1.toInt ≤ 1
  · rw [if_pos h]
    obtain ⟨x, hx, rfl⟩ := i_ex (x := x1) (n := 2) (by decide) h.1 (by omega)
    obtain ⟨k, e, V⟩ := looksAll_r M pile wish
    rw [e, bV_some]
    have key : ∃ u v, Cyc (Wd n kd Hh) l u v ∧ Ret (ll6 (fX5_ring_23 s) qF st k.1 k.2 mark (nI x) 0) (if x = 0 then nI u else nI v) (fun k => k.1 = st) := by
      refine ring23_loop (Q := fun o => ∃ u v, Cyc (Wd n kd Hh) l u v ∧ Ret o (if x = 0 then nI u else nI v) (fun k => k.1 = st)) hL.2.2 (fun mr hmk => ?_) 1024 0 mark (by omega) (by omega) (fun j hj => absurd hj (by omega))
      have hc : cU mr = 256 := by
        unfold cU
        rw [cnt_congr (q := fun _ => true) (fun i hi => decide_eq_true (hmk i hi)), cnt_all]
      exact ring_loop P.1 hx V hL.1 1024 0 mr ⟨fun j hj => absurd hj (by omega), fun y hy => Or.inl (hmk y hy), by omega⟩ (by omega)
    obtain ⟨u, v, C, k2, e2, q2⟩ := key
    have e2 : ll6 (fX5_ring_23 s) qF st k.1 k.2 mark (nI x) 0 = some (_, k2) := e2
    rw [e2, hL.2.1]
    have hc : Ret (fX4_ring_16 sz (nI l) ki te kn fi (nI x)) (if x = 0 then nI u else nI v) (fun k => KV n kd Hh k.1 ∧ k.2 = fi) := by
      unfold fX4_ring_16
      refine Ret.b1 (ringLength_r P K hl C) (fun k hk => ?_)
      rcases (show x = 0 ∨ x = 1 by omega) with rfl | rfl
      · rw [if_neg (show ¬ nI 0 = 1 by decide), if_pos rfl]
        exact Ret.b1 (roundsToRing_r P hk hl C) (fun k3 hk3 => Ret.mk ⟨hk3, rfl⟩)
      · rw [if_pos (show nI 1 = 1 from rfl), if_neg (by omega)]
        exact Ret.mk ⟨hk, rfl⟩
    obtain ⟨k1, q1, q3, q4⟩ := hc
    have e3 : (if nI x = 0 then fX4_ring_16 sz (nI l) ki te kn fi (nI x) else (if nI x = 1 then fX4_ring_16 sz (nI l) ki te kn fi (nI x) else some (-1000000001, (kn, upd fi 0 (fi 0 + 1))))) = fX4_ring_16 sz (nI l) ki te kn fi (nI x) := by
      rcases (show x = 0 ∨ x = 1 by omega) with rfl | rfl
      · exact if_pos rfl
      · rw [if_neg (show ¬ nI 1 = 0 by decide), if_pos (show nI 1 = 1 from rfl)]
    rw [e3, q1]
    exact Both.mk ⟨q3, by rw [q4, q2]; exact F⟩
  · rw [if_neg h, if_neg (fun e => h (by rw [e]; decide)), if_neg (fun e => h (by rw [e]; decide))]
    exact Both.mk ⟨K, F.up (by decide)⟩
end RING
