/-! rows of the pure words at numbers -/
theorem gIn_nI {β : Type} {i n : Nat} {k : Option β} (h : i < n) (hn : n < 2 ^ 31) : gIn (nI i) n k = k := by
  unfold gIn
  rw [if_neg (nI_in h hn)]
theorem gIn_of {β : Type} {i : Int32} {n : Nat} {k : Option β} (h : vp_in i n) : gIn i n k = k := by
  unfold gIn
  rw [if_neg h]
theorem gB_0 {β : Type} {k : Option β} : gB 0 k = k := rfl
theorem gB_1 {β : Type} {k : Option β} : gB 1 k = k := rfl
def fillF {α : Type} (n : Nat) (v : α) (f : Nat → α) : Nat → α := fun j => if j < n then v else f j
theorem fillI_loop (N : Nat) (hN : N < 2 ^ 31) (v : Int32) : ∀ (k i : Nat) (f : Nat → Int32), i ≤ N → N - i < k → ll4 (fJ7_fill_53178_5 N) k f v (nI i) (nI N) = some (fun j => if i ≤ j ∧ j < N then v else f j)
  | 0, i, f, _, h => absurd h (by omega)
  | k + 1, i, f, hi, hk => by
    have ih := fillI_loop N hN v k (i + 1) (upd f i v)
    show fJ7_fill_53178_5 N (ll4 (fJ7_fill_53178_5 N) k) f v (nI i) (nI N) = _
    generalize ll4 (fJ7_fill_53178_5 N) k = ag at ih ⊢
    unfold fJ7_fill_53178_5
    by_cases c : N ≤ i
    · rw [if_pos (nI_le c (by omega))]
      congr 1
      funext j
      rw [if_neg (by omega)]
    · rw [if_neg (nI_ge (by omega) (by omega)), gIn_nI (by omega) hN, nm_of, nI_1, nI_clamp (by omega), ih (by omega) (by omega)]
      congr 1
      funext j
      by_cases e : j = i
      · subst e
        rw [if_neg (by omega), if_pos (by omega), pk_us]
      · rw [pk_un e]
        by_cases c2 : i ≤ j ∧ j < N
        · rw [if_pos c2, if_pos (by omega)]
        · rw [if_neg c2, if_neg (by omega)]
theorem fillI (N : Nat) (hN : N < 1024) (v : Int32) (f : Nat → Int32) : fJ7_fill_53178 N f v = some (fillF N v f) := by
  have h := fillI_loop N (by omega) v 1024 0 f (by omega) (by omega)
  rw [nI_0] at h
  unfold fJ7_fill_53178
  rw [nm_of]
  refine Eq.trans h ?_
  congr 1
  funext j
  by_cases c : j < N
  · rw [if_pos ⟨Nat.zero_le _, c⟩, fillF, if_pos c]
  · rw [if_neg (fun q => c q.2), fillF, if_neg c]
theorem fillL_loop (N : Nat) (hN : N < 2 ^ 31) (v : Int64) : ∀ (k i : Nat) (f : Nat → Int64), i ≤ N → N - i < k → ll4 (fJ7_fill_d0a16_6 N) k f v (nI i) (nI N) = some (fun j => if i ≤ j ∧ j < N then v else f j)
  | 0, i, f, _, h => absurd h (by omega)
  | k + 1, i, f, hi, hk => by
    have ih := fillL_loop N hN v k (i + 1) (vp_updL f i v)
    show fJ7_fill_d0a16_6 N (ll4 (fJ7_fill_d0a16_6 N) k) f v (nI i) (nI N) = _
    generalize ll4 (fJ7_fill_d0a16_6 N) k = ag at ih ⊢
    unfold fJ7_fill_d0a16_6
    by_cases c : N ≤ i
    · rw [if_pos (nI_le c (by omega))]
      congr 1
      funext j
      rw [if_neg (by omega)]
    · rw [if_neg (nI_ge (by omega) (by omega)), gIn_nI (by omega) hN, nm_of, nI_1, nI_clamp (by omega), ih (by omega) (by omega)]
      congr 1
      funext j
      by_cases e : j = i
      · subst e
        rw [if_neg (by omega), if_pos (by omega), pk_uLs]
      · rw [pk_uLn e]
        by_cases c2 : i ≤ j ∧ j < N
        · rw [if_pos c2, if_pos (by omega)]
        · rw [if_neg c2, if_neg (by omega)]
theorem fillL (N : Nat) (hN : N < 1024) (v : Int64) (f : Nat → Int64) : fJ7_fill_d0a16 N f v = some (fillF N v f) := by
  have h := fillL_loop N (by omega) v 1024 0 f (by omega) (by omega)
  rw [nI_0] at h
  unfold fJ7_fill_d0a16
  rw [nm_of]
  refine Eq.trans h ?_
  congr 1
  funext j
  by_cases c : j < N
  · rw [if_pos ⟨Nat.zero_le _, c⟩, fillF, if_pos c]
  · rw [if_neg (fun q => c q.2), fillF, if_neg c]
/-! making cells -/
theorem q_perm {D : va_G} {A : Nat → Prop} {s : State} {ws ws' : va_W} {H : Heap} {locs : List Loc} (h : q_H D A s ws H locs) (pm : List Nat) (hn : va_nd pm = true) (hs : pm.map (fun i => ws[i]?) = ws'.map some) : q_H D A s ws' H locs := ⟨q_Psub h.1 hs, h.2.1.sub pm hn hs, h.2.2⟩
section QM
variable {p : Program} {l : Launch} {e : Env} {R : Room} {s : State} {m : MethodId} {args : Array Value} {below : List Frame} {meth : Method} {c : Code} {H : Heap} {locs : List Loc} {cells slots : Nat} {Q : State → Prop}
variable {cc bytes : ByteArray} {pc nL maxL index mc ms : Nat} {ls : Array Slot} {rest As st0 : List Value} {D : va_G} {A : Nat → Prop} {a b tb : Nat} {cI cJ cZ cS : ClassId} {ws ws' wc w1 wr : va_W} {own C : String} {y : MethodName} {ret ret0 : Option FieldType} {rm : Room}
theorem q_new (fx : q_Fx p s m args meth c cc nL own ret0 D cI cJ cZ cS tb A) (h : q_H D A s ws H locs) {T : u_T} {N ci : Nat} (hin : ∀ w ∈ u_ws C T N, w ∈ wA) (ty : Nat → FieldType) (hty : ∀ k, k < N → parseFieldDescriptor (T k).2.2.1 = some (ty k)) (hcl : Cond.classLink own index C ∈ wA) (hinst : Cond.instantiable C N ∈ wA) (hini : Cond.initialized C ∈ wA) (hc : vwCl[ci]? = some (C, T, N)) {fs : List Value} (hfs : ∀ j, j < N → defaultValue (ty j) = vp_V fs j) (hcells : cells + 1 ≤ R.cells) (hslots : slots + N ≤ R.slots) (hdg : decode cc pc = .ok (.new index, 3))
    (kk : ∀ (q : Nat) (H : Heap), q_H D A s (ws ++ [(q, .inr (ci, fs))]) H locs → W p l e R s m args below meth c H locs (cells + 1) (slots + N) Q (F0 m (pc + 3) ls (.ref q :: rest))) : W p l e R s m args below meth c H locs cells slots Q (F0 m pc ls rest) := by
  obtain ⟨hx, hb, -, hown, hts, -, -, hG, hA⟩ := fx
  exact va_new hx hb hts hin ty hty hown (hts _ hcl) (hts _ hinst) (hts _ hini) hG.1 h.1 h.2.1 h.2.2 hA hc hfs hcells hslots hdg (fun q H1 h1 h2 h3 => kk q H1 ⟨h1, h2, h3⟩)
theorem q_newI (fx : q_Fx p s m args meth c cc nL own ret0 D cI cJ cZ cS tb A) (h : q_H D A s ws H locs) (hk : Cond.arrayClass .int ∈ wA) {n : Int32} {N : Nat} (hn : ¬ n < 0) (hN : n.toNatClampNeg = N) (hby : N * componentBytes .int ≤ 536870912) (hcells : cells + 1 ≤ R.cells) (hslots : slots + N ≤ R.slots) (hdg : decode cc pc = .ok (.newarray .int, 2))
    (kk : ∀ (q : Nat) (H : Heap), q_H D A s (ws ++ [(q, .inl (cI, N, .inl (fun _ => 0)))]) H locs → W p l e R s m args below meth c H locs (cells + 1) (slots + N) Q (F0 m (pc + 2) ls (.ref q :: rest))) : W p l e R s m args below meth c H locs cells slots Q (F0 m pc ls (.int n :: rest)) := by
  obtain ⟨hx, hb, -, hown, hts, -, -, hG, hA⟩ := fx
  refine va_newa (atype := .int) (a0 := (N, .inl (fun _ => 0))) hx hb (hts _ hk) rfl hG.1 h.1 h.2.1 h.2.2 hA (fun cA => rfl) hn hN hby hcells hslots hdg (fun q cA H1 hK1 h1 h2 h3 => ?_)
  have e : cA = cI := Option.some.inj ((show s.vm.findClass _ = some cA from (hK1.2 4 (cA, .int) rfl).2).symm.trans (show s.vm.findClass _ = some cI from (hK1.2 0 (cI, .int) rfl).2))
  subst e
  exact kk q H1 ⟨h1, h2, h3⟩
theorem q_newJ (fx : q_Fx p s m args meth c cc nL own ret0 D cI cJ cZ cS tb A) (h : q_H D A s ws H locs) (hk : Cond.arrayClass .long ∈ wA) {n : Int32} {N : Nat} (hn : ¬ n < 0) (hN : n.toNatClampNeg = N) (hby : N * componentBytes .long ≤ 536870912) (hcells : cells + 1 ≤ R.cells) (hslots : slots + N ≤ R.slots) (hdg : decode cc pc = .ok (.newarray .long, 2))
    (kk : ∀ (q : Nat) (H : Heap), q_H D A s (ws ++ [(q, .inl (cJ, N, .inr (.inl (fun _ => 0))))]) H locs → W p l e R s m args below meth c H locs (cells + 1) (slots + N) Q (F0 m (pc + 2) ls (.ref q :: rest))) : W p l e R s m args below meth c H locs cells slots Q (F0 m pc ls (.int n :: rest)) := by
  obtain ⟨hx, hb, -, hown, hts, -, -, hG, hA⟩ := fx
  refine va_newa (atype := .long) (a0 := (N, .inr (.inl (fun _ => 0)))) hx hb (hts _ hk) rfl hG.1 h.1 h.2.1 h.2.2 hA (fun cA => rfl) hn hN hby hcells hslots hdg (fun q cA H1 hK1 h1 h2 h3 => ?_)
  have e : cA = cJ := Option.some.inj ((show s.vm.findClass _ = some cA from (hK1.2 4 (cA, .long) rfl).2).symm.trans (show s.vm.findClass _ = some cJ from (hK1.2 1 (cJ, .long) rfl).2))
  subst e
  exact kk q H1 ⟨h1, h2, h3⟩
theorem q_newZ (fx : q_Fx p s m args meth c cc nL own ret0 D cI cJ cZ cS tb A) (h : q_H D A s ws H locs) (hk : Cond.arrayClass .boolean ∈ wA) {n : Int32} {N : Nat} (hn : ¬ n < 0) (hN : n.toNatClampNeg = N) (hby : N * componentBytes .boolean ≤ 536870912) (hcells : cells + 1 ≤ R.cells) (hslots : slots + N ≤ R.slots) (hdg : decode cc pc = .ok (.newarray .boolean, 2))
    (kk : ∀ (q : Nat) (H : Heap), q_H D A s (ws ++ [(q, .inl (cZ, N, .inl (fun _ => 0)))]) H locs → W p l e R s m args below meth c H locs (cells + 1) (slots + N) Q (F0 m (pc + 2) ls (.ref q :: rest))) : W p l e R s m args below meth c H locs cells slots Q (F0 m pc ls (.int n :: rest)) := by
  obtain ⟨hx, hb, -, hown, hts, -, -, hG, hA⟩ := fx
  refine va_newa (atype := .boolean) (a0 := (N, .inl (fun _ => 0))) hx hb (hts _ hk) rfl hG.1 h.1 h.2.1 h.2.2 hA (fun cA => rfl) hn hN hby hcells hslots hdg (fun q cA H1 hK1 h1 h2 h3 => ?_)
  have e : cA = cZ := Option.some.inj ((show s.vm.findClass _ = some cA from (hK1.2 4 (cA, .boolean) rfl).2).symm.trans (show s.vm.findClass _ = some cZ from (hK1.2 2 (cZ, .boolean) rfl).2))
  subst e
  exact kk q H1 ⟨h1, h2, h3⟩
theorem q_newS (fx : q_Fx p s m args meth c cc nL own ret0 D cI cJ cZ cS tb A) (h : q_H D A s ws H locs) (hcl : Cond.classLink own index "ComeIfShe$Sheet" ∈ wA) {n : Int32} {N : Nat} (hn : ¬ n < 0) (hN : n.toNatClampNeg = N) (hby : N * 4 ≤ 536870912) (hcells : cells + 1 ≤ R.cells) (hslots : slots + N ≤ R.slots) (hdg : decode cc pc = .ok (.anewarray index, 3))
    (kk : ∀ (q : Nat) (H : Heap), q_H D A s (ws ++ [(q, .inl (cS, N, .inr (.inr (.inr (.inr (fun _ => none))))))]) H locs → W p l e R s m args below meth c H locs (cells + 1) (slots + N) Q (F0 m (pc + 3) ls (.ref q :: rest))) : W p l e R s m args below meth c H locs cells slots Q (F0 m pc ls (.int n :: rest)) := by
  obtain ⟨hx, hb, -, hown, hts, -, -, hG, hA⟩ := fx
  refine va_newq hx hb hown (hts _ hcl) hG.2.2.1 hG.1 h.1 h.2.1 h.2.2 hA hn hN hby hcells hslots hdg (fun q cA H1 hK1 h1 h2 h3 => ?_)
  obtain ⟨k1, c1, -, -, -, e1⟩ := (hK1.2 4 (cA, .object "ComeIfShe$Sheet") rfl).2
  obtain ⟨k2, c2, -, -, -, e2⟩ := (hK1.2 3 (cS, .object "ComeIfShe$Sheet") rfl).2
  have e : cA = cS := Option.some.inj (e1.symm.trans e2)
  subst e
  exact kk q H1 ⟨h1, h2, h3⟩
theorem q_astS (fx : q_Fx p s m args meth c cc nL own ret0 D cI cJ cZ cS tb A) (h : q_H D A s ws H locs) (q0 qk : Nat) {n v : Nat} {vs : List Value} {f : Nat → Option Nat} (ha : ws[q0]? = some (a, .inl (cS, n, .inr (.inr (.inr (.inr f)))))) (hv : ws[qk]? = some (v, .inr (1, vs))) {i : Int32} (j : Nat) (hin : vp_in i n) (hj : i.toNatClampNeg = j) (hE : ws.set q0 (a, .inl (cS, n, .inr (.inr (.inr (.inr (va_up f j (some v))))))) = ws') (hdg : decode cc pc = .ok (.aastore, 1))
    (kk : ∀ (H : Heap) (locs : List Loc), q_H D A s ws' H locs → W p l e R s m args below meth c H locs cells slots Q (F0 m (pc + 1) ls rest)) : W p l e R s m args below meth c H locs cells slots Q (F0 m pc ls (.ref v :: .int i :: .ref a :: rest)) := by
  obtain ⟨hx, hb, -, hown, hts, -, -, hG, hA⟩ := fx
  subst hE; subst hj
  exact va_astq (r := (RX1, TX1, 3)) hx hb hG.1 h.1 h.2.1 h.2.2 q0 3 qk 1 ha rfl hv rfl hin hdg (fun H1 locs1 h1 h2 h3 => kk H1 locs1 ⟨h1, h2, h3⟩)
/-- behind a constructor -/
theorem q_cn {W1 : (Nat → Nat) → va_W} {av : Array Value} (fx : q_Fx p s m args meth c cc nL own ret0 D cI cJ cZ cS tb A) (h : q_H D A s ws H locs) (isC isR : List Nat) (hC : isC.map (fun i => ws[i]?) = wc.map some) (hR : isR.map (fun i => ws[i]?) = wr.map some) (hn : va_nd isR = true) (hdis : ∀ i ∈ isR, i ∉ isC)
    (hr : va_Run p l e R s m args below meth c H locs cells slots mc ms (F0 m pc ls st0) rest (q_Rn D (va_A wc H.size) W1 av) (va_A wc H.size))
    (kk : ∀ (u : Nat → Nat) (H : Heap) (locs : List Loc), q_H D A s (wr ++ W1 u) H locs → W p l e R s m args below meth c H locs (cells + mc) (slots + ms) Q (F0 m (pc + 3) ls rest)) : W p l e R s m args below meth c H locs cells slots Q (F0 m pc ls st0) := by
  have hFc := va_free (wc := wc) h.2.1 h.2.2 fx.2.2.2.2.2.2.2.2 isC hC
  refine va_callv hr h.2.2 (fun q _ hq => hFc q hq) hFc (fun u t H1 locs1 ht hvm hw hB hz1 hk1 hS1 => ?_)
  have hPD := va_join h.1 h.2.1 isC isR hC hR hn hdis hk1 hFc (by rw [← ht]; exact hB.1) hB.2
  exact kk u H1 locs1 ⟨hPD.1, hPD.2, hS1⟩
theorem q_retn (W1 : (Nat → Nat) → va_W) (u : Nat → Nat) (fx : q_Fx p s m args meth c cc nL own none D cI cJ cZ cS tb A) (h : q_H D A s (W1 u) H locs) (hdg : decode cc pc = .ok (.return_, 1)) : W p l e R s m args below meth c H locs cells slots (MQ below (q_Rn D A W1) args s cells slots A) (F0 m pc ls []) := by
  obtain ⟨hx, hb, hml, hown, hts, hr, hlocks, hG, hA⟩ := fx
  exact W.vret hx hb hr (fun t ht hW => ⟨⟨u, rfl, trivial, by rw [ht]; exact h.1, h.2.1⟩, h.2.2.F ht⟩) h.2.2.2.2 hdg hlocks
theorem q_oinit (fx : q_Fx p s m args meth c cc nL own ret0 D cI cJ cZ cS tb A) (hsz : ls.size = nL) (hlink : Cond.methodLink own index objectInit ∈ wA) (hinst : Cond.instanceMethod objectInit ∈ wA) (hcode : Cond.code objectInit ⟨#[0xb1]⟩ 1 none ∈ wA) (hdg : decode cc pc = .ok (.invokespecial index, 3)) (hfr : 1 ≤ R.frames) (hlo : 2 * (F0 m pc ls (.ref a :: rest)).monitorRoom + (rest.map fun v => v.category).sum + 12 ≤ R.locals)
    (kk : W p l e R s m args below meth c H locs cells slots Q (F0 m (pc + 3) ls rest)) : W p l e R s m args below meth c H locs cells slots Q (F0 m pc ls (.ref a :: rest)) := by
  obtain ⟨hx, hb, hml, hown, hts, -, -, hG, hA⟩ := fx
  refine W.objInit hx hb hown (hts _ hlink) (hts _ hinst) (hts _ hcode) rfl (by rw [hml]; exact hsz) rfl hdg hfr hlo ?_
  exact W.eq (g2 := F0 m (pc + 3) ls rest) rfl kk
end QM
theorem q_shup (a b c d : Nat) : va_up (va_up (va_up (va_up (fun _ => none) 0 (some a)) 1 (some b)) 2 (some c)) 3 (some d) = q_sh a b c d := by
  funext j
  match j with
  | 0 => rfl
  | 1 => rfl
  | 2 => rfl
  | 3 => rfl
  | n + 4 => simp [va_up, q_sh]
